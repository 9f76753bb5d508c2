/-! the long ones, forty instructions at a time -/
theorem ax_sl40 {α : Type} {p : α → Bool} {l : List α} (h1 : (l.take 40).all p = true) (h2 : (l.drop 40).all p = true) : l.all p = true := by
  rw [← List.take_append_drop 40 l, List.all_append, h1, h2]
  rfl
set_option maxRecDepth 100000 in
theorem ax_t175_0 : ((ax_m175.2.2.2.2.2.2.drop 0).take 40).all (ax_dk prog_14_method_1_code) = true := by decide +kernel
set_option maxRecDepth 100000 in
theorem ax_t175_1 : ((ax_m175.2.2.2.2.2.2.drop 40).take 40).all (ax_dk prog_14_method_1_code) = true := by decide +kernel
set_option maxRecDepth 100000 in
theorem ax_t175_2 : ((ax_m175.2.2.2.2.2.2.drop 80).take 40).all (ax_dk prog_14_method_1_code) = true := by decide +kernel
set_option maxRecDepth 100000 in
theorem ax_t175_3 : ((ax_m175.2.2.2.2.2.2.drop 120).take 40).all (ax_dk prog_14_method_1_code) = true := by decide +kernel
set_option maxRecDepth 100000 in
theorem ax_t175_4 : ((ax_m175.2.2.2.2.2.2.drop 160).take 40).all (ax_dk prog_14_method_1_code) = true := by decide +kernel
set_option maxRecDepth 100000 in
theorem ax_t175_5 : ((ax_m175.2.2.2.2.2.2.drop 200).take 40).all (ax_dk prog_14_method_1_code) = true := by decide +kernel
set_option maxRecDepth 100000 in
theorem ax_t175_6 : ((ax_m175.2.2.2.2.2.2.drop 240).take 40).all (ax_dk prog_14_method_1_code) = true := by decide +kernel
set_option maxRecDepth 100000 in
theorem ax_t175_7 : ((ax_m175.2.2.2.2.2.2.drop 280).take 40).all (ax_dk prog_14_method_1_code) = true := by decide +kernel
set_option maxRecDepth 100000 in
theorem ax_t175_8 : ((ax_m175.2.2.2.2.2.2.drop 320).take 40).all (ax_dk prog_14_method_1_code) = true := by decide +kernel
set_option maxRecDepth 100000 in
theorem ax_t175_9 : ((ax_m175.2.2.2.2.2.2.drop 360).take 40).all (ax_dk prog_14_method_1_code) = true := by decide +kernel
set_option maxRecDepth 100000 in
theorem ax_t175_10 : ((ax_m175.2.2.2.2.2.2.drop 400).take 40).all (ax_dk prog_14_method_1_code) = true := by decide +kernel
set_option maxRecDepth 100000 in
theorem ax_t175_11 : ((ax_m175.2.2.2.2.2.2.drop 440).take 40).all (ax_dk prog_14_method_1_code) = true := by decide +kernel
set_option maxRecDepth 100000 in
theorem ax_t175_12 : ((ax_m175.2.2.2.2.2.2.drop 480).take 40).all (ax_dk prog_14_method_1_code) = true := by decide +kernel
set_option maxRecDepth 100000 in
theorem ax_t175_13 : ((ax_m175.2.2.2.2.2.2.drop 520).take 40).all (ax_dk prog_14_method_1_code) = true := by decide +kernel
set_option maxRecDepth 100000 in
theorem ax_t175_14 : ((ax_m175.2.2.2.2.2.2.drop 560).take 40).all (ax_dk prog_14_method_1_code) = true := by decide +kernel
set_option maxRecDepth 100000 in
theorem ax_t175_15 : ((ax_m175.2.2.2.2.2.2.drop 600).take 40).all (ax_dk prog_14_method_1_code) = true := by decide +kernel
set_option maxRecDepth 100000 in
theorem ax_t175_16 : ((ax_m175.2.2.2.2.2.2.drop 640).take 40).all (ax_dk prog_14_method_1_code) = true := by decide +kernel
set_option maxRecDepth 100000 in
theorem ax_t175_17 : ((ax_m175.2.2.2.2.2.2.drop 680).take 40).all (ax_dk prog_14_method_1_code) = true := by decide +kernel
set_option maxRecDepth 100000 in
theorem ax_t175_18 : ((ax_m175.2.2.2.2.2.2.drop 720).take 40).all (ax_dk prog_14_method_1_code) = true := by decide +kernel
set_option maxRecDepth 100000 in
theorem ax_t175_19 : ((ax_m175.2.2.2.2.2.2.drop 760).take 40).all (ax_dk prog_14_method_1_code) = true := by decide +kernel
set_option maxRecDepth 100000 in
theorem ax_t175_20 : ((ax_m175.2.2.2.2.2.2.drop 800).take 40).all (ax_dk prog_14_method_1_code) = true := by decide +kernel
set_option maxRecDepth 100000 in
theorem ax_t175_21 : ((ax_m175.2.2.2.2.2.2.drop 840).take 40).all (ax_dk prog_14_method_1_code) = true := by decide +kernel
set_option maxRecDepth 100000 in
theorem ax_t175_22 : ((ax_m175.2.2.2.2.2.2.drop 880).take 40).all (ax_dk prog_14_method_1_code) = true := by decide +kernel
set_option maxRecDepth 100000 in
theorem ax_t175_23 : ((ax_m175.2.2.2.2.2.2.drop 920).take 40).all (ax_dk prog_14_method_1_code) = true := by decide +kernel
set_option maxRecDepth 100000 in
theorem ax_t175_24 : ((ax_m175.2.2.2.2.2.2.drop 960).take 40).all (ax_dk prog_14_method_1_code) = true := by decide +kernel
set_option maxRecDepth 100000 in
theorem ax_t175_25 : ((ax_m175.2.2.2.2.2.2.drop 1000).take 40).all (ax_dk prog_14_method_1_code) = true := by decide +kernel
set_option maxRecDepth 100000 in
theorem ax_t175_26 : ((ax_m175.2.2.2.2.2.2.drop 1040).take 40).all (ax_dk prog_14_method_1_code) = true := by decide +kernel
set_option maxRecDepth 100000 in
theorem ax_t175_27 : ((ax_m175.2.2.2.2.2.2.drop 1080).take 40).all (ax_dk prog_14_method_1_code) = true := by decide +kernel
set_option maxRecDepth 100000 in
theorem ax_t175_28 : ((ax_m175.2.2.2.2.2.2.drop 1120).take 40).all (ax_dk prog_14_method_1_code) = true := by decide +kernel
set_option maxRecDepth 100000 in
theorem ax_t175_29 : ((ax_m175.2.2.2.2.2.2.drop 1160).take 40).all (ax_dk prog_14_method_1_code) = true := by decide +kernel
theorem ax_u175_30 : (ax_m175.2.2.2.2.2.2.drop 1200).all (ax_dk prog_14_method_1_code) = true := by decide +kernel
theorem ax_u175_29 : (ax_m175.2.2.2.2.2.2.drop 1160).all (ax_dk prog_14_method_1_code) = true := ax_sl40 ax_t175_29 (by rw [List.drop_drop]; exact ax_u175_30)
theorem ax_u175_28 : (ax_m175.2.2.2.2.2.2.drop 1120).all (ax_dk prog_14_method_1_code) = true := ax_sl40 ax_t175_28 (by rw [List.drop_drop]; exact ax_u175_29)
theorem ax_u175_27 : (ax_m175.2.2.2.2.2.2.drop 1080).all (ax_dk prog_14_method_1_code) = true := ax_sl40 ax_t175_27 (by rw [List.drop_drop]; exact ax_u175_28)
theorem ax_u175_26 : (ax_m175.2.2.2.2.2.2.drop 1040).all (ax_dk prog_14_method_1_code) = true := ax_sl40 ax_t175_26 (by rw [List.drop_drop]; exact ax_u175_27)
theorem ax_u175_25 : (ax_m175.2.2.2.2.2.2.drop 1000).all (ax_dk prog_14_method_1_code) = true := ax_sl40 ax_t175_25 (by rw [List.drop_drop]; exact ax_u175_26)
theorem ax_u175_24 : (ax_m175.2.2.2.2.2.2.drop 960).all (ax_dk prog_14_method_1_code) = true := ax_sl40 ax_t175_24 (by rw [List.drop_drop]; exact ax_u175_25)
theorem ax_u175_23 : (ax_m175.2.2.2.2.2.2.drop 920).all (ax_dk prog_14_method_1_code) = true := ax_sl40 ax_t175_23 (by rw [List.drop_drop]; exact ax_u175_24)
theorem ax_u175_22 : (ax_m175.2.2.2.2.2.2.drop 880).all (ax_dk prog_14_method_1_code) = true := ax_sl40 ax_t175_22 (by rw [List.drop_drop]; exact ax_u175_23)
theorem ax_u175_21 : (ax_m175.2.2.2.2.2.2.drop 840).all (ax_dk prog_14_method_1_code) = true := ax_sl40 ax_t175_21 (by rw [List.drop_drop]; exact ax_u175_22)
theorem ax_u175_20 : (ax_m175.2.2.2.2.2.2.drop 800).all (ax_dk prog_14_method_1_code) = true := ax_sl40 ax_t175_20 (by rw [List.drop_drop]; exact ax_u175_21)
theorem ax_u175_19 : (ax_m175.2.2.2.2.2.2.drop 760).all (ax_dk prog_14_method_1_code) = true := ax_sl40 ax_t175_19 (by rw [List.drop_drop]; exact ax_u175_20)
theorem ax_u175_18 : (ax_m175.2.2.2.2.2.2.drop 720).all (ax_dk prog_14_method_1_code) = true := ax_sl40 ax_t175_18 (by rw [List.drop_drop]; exact ax_u175_19)
theorem ax_u175_17 : (ax_m175.2.2.2.2.2.2.drop 680).all (ax_dk prog_14_method_1_code) = true := ax_sl40 ax_t175_17 (by rw [List.drop_drop]; exact ax_u175_18)
theorem ax_u175_16 : (ax_m175.2.2.2.2.2.2.drop 640).all (ax_dk prog_14_method_1_code) = true := ax_sl40 ax_t175_16 (by rw [List.drop_drop]; exact ax_u175_17)
theorem ax_u175_15 : (ax_m175.2.2.2.2.2.2.drop 600).all (ax_dk prog_14_method_1_code) = true := ax_sl40 ax_t175_15 (by rw [List.drop_drop]; exact ax_u175_16)
theorem ax_u175_14 : (ax_m175.2.2.2.2.2.2.drop 560).all (ax_dk prog_14_method_1_code) = true := ax_sl40 ax_t175_14 (by rw [List.drop_drop]; exact ax_u175_15)
theorem ax_u175_13 : (ax_m175.2.2.2.2.2.2.drop 520).all (ax_dk prog_14_method_1_code) = true := ax_sl40 ax_t175_13 (by rw [List.drop_drop]; exact ax_u175_14)
theorem ax_u175_12 : (ax_m175.2.2.2.2.2.2.drop 480).all (ax_dk prog_14_method_1_code) = true := ax_sl40 ax_t175_12 (by rw [List.drop_drop]; exact ax_u175_13)
theorem ax_u175_11 : (ax_m175.2.2.2.2.2.2.drop 440).all (ax_dk prog_14_method_1_code) = true := ax_sl40 ax_t175_11 (by rw [List.drop_drop]; exact ax_u175_12)
theorem ax_u175_10 : (ax_m175.2.2.2.2.2.2.drop 400).all (ax_dk prog_14_method_1_code) = true := ax_sl40 ax_t175_10 (by rw [List.drop_drop]; exact ax_u175_11)
theorem ax_u175_9 : (ax_m175.2.2.2.2.2.2.drop 360).all (ax_dk prog_14_method_1_code) = true := ax_sl40 ax_t175_9 (by rw [List.drop_drop]; exact ax_u175_10)
theorem ax_u175_8 : (ax_m175.2.2.2.2.2.2.drop 320).all (ax_dk prog_14_method_1_code) = true := ax_sl40 ax_t175_8 (by rw [List.drop_drop]; exact ax_u175_9)
theorem ax_u175_7 : (ax_m175.2.2.2.2.2.2.drop 280).all (ax_dk prog_14_method_1_code) = true := ax_sl40 ax_t175_7 (by rw [List.drop_drop]; exact ax_u175_8)
theorem ax_u175_6 : (ax_m175.2.2.2.2.2.2.drop 240).all (ax_dk prog_14_method_1_code) = true := ax_sl40 ax_t175_6 (by rw [List.drop_drop]; exact ax_u175_7)
theorem ax_u175_5 : (ax_m175.2.2.2.2.2.2.drop 200).all (ax_dk prog_14_method_1_code) = true := ax_sl40 ax_t175_5 (by rw [List.drop_drop]; exact ax_u175_6)
theorem ax_u175_4 : (ax_m175.2.2.2.2.2.2.drop 160).all (ax_dk prog_14_method_1_code) = true := ax_sl40 ax_t175_4 (by rw [List.drop_drop]; exact ax_u175_5)
theorem ax_u175_3 : (ax_m175.2.2.2.2.2.2.drop 120).all (ax_dk prog_14_method_1_code) = true := ax_sl40 ax_t175_3 (by rw [List.drop_drop]; exact ax_u175_4)
theorem ax_u175_2 : (ax_m175.2.2.2.2.2.2.drop 80).all (ax_dk prog_14_method_1_code) = true := ax_sl40 ax_t175_2 (by rw [List.drop_drop]; exact ax_u175_3)
theorem ax_u175_1 : (ax_m175.2.2.2.2.2.2.drop 40).all (ax_dk prog_14_method_1_code) = true := ax_sl40 ax_t175_1 (by rw [List.drop_drop]; exact ax_u175_2)
theorem ax_u175_0 : (ax_m175.2.2.2.2.2.2.drop 0).all (ax_dk prog_14_method_1_code) = true := ax_sl40 ax_t175_0 (by rw [List.drop_drop]; exact ax_u175_1)
theorem ax_q12 : (List.range' 175 1).all ax_k1 = true := by
  have h : ax_k1 175 = true := ax_u175_0
  simp [h]
theorem ax_ok1 {m : Nat} (h : m < 326) : ax_k1 m = true := by
  by_cases h0 : m < 16
  · exact List.all_eq_true.mp ax_q0 m (List.mem_range'_1.mpr ⟨by omega, by omega⟩)
  by_cases h1 : m < 25
  · exact List.all_eq_true.mp ax_q1 m (List.mem_range'_1.mpr ⟨by omega, by omega⟩)
  by_cases h2 : m < 39
  · exact List.all_eq_true.mp ax_q2 m (List.mem_range'_1.mpr ⟨by omega, by omega⟩)
  by_cases h3 : m < 52
  · exact List.all_eq_true.mp ax_q3 m (List.mem_range'_1.mpr ⟨by omega, by omega⟩)
  by_cases h4 : m < 62
  · exact List.all_eq_true.mp ax_q4 m (List.mem_range'_1.mpr ⟨by omega, by omega⟩)
  by_cases h5 : m < 77
  · exact List.all_eq_true.mp ax_q5 m (List.mem_range'_1.mpr ⟨by omega, by omega⟩)
  by_cases h6 : m < 86
  · exact List.all_eq_true.mp ax_q6 m (List.mem_range'_1.mpr ⟨by omega, by omega⟩)
  by_cases h7 : m < 106
  · exact List.all_eq_true.mp ax_q7 m (List.mem_range'_1.mpr ⟨by omega, by omega⟩)
  by_cases h8 : m < 125
  · exact List.all_eq_true.mp ax_q8 m (List.mem_range'_1.mpr ⟨by omega, by omega⟩)
  by_cases h9 : m < 140
  · exact List.all_eq_true.mp ax_q9 m (List.mem_range'_1.mpr ⟨by omega, by omega⟩)
  by_cases h10 : m < 154
  · exact List.all_eq_true.mp ax_q10 m (List.mem_range'_1.mpr ⟨by omega, by omega⟩)
  by_cases h11 : m < 175
  · exact List.all_eq_true.mp ax_q11 m (List.mem_range'_1.mpr ⟨by omega, by omega⟩)
  by_cases h12 : m < 176
  · exact List.all_eq_true.mp ax_q12 m (List.mem_range'_1.mpr ⟨by omega, by omega⟩)
  by_cases h13 : m < 189
  · exact List.all_eq_true.mp ax_q13 m (List.mem_range'_1.mpr ⟨by omega, by omega⟩)
  by_cases h14 : m < 196
  · exact List.all_eq_true.mp ax_q14 m (List.mem_range'_1.mpr ⟨by omega, by omega⟩)
  by_cases h15 : m < 201
  · exact List.all_eq_true.mp ax_q15 m (List.mem_range'_1.mpr ⟨by omega, by omega⟩)
  by_cases h16 : m < 222
  · exact List.all_eq_true.mp ax_q16 m (List.mem_range'_1.mpr ⟨by omega, by omega⟩)
  by_cases h17 : m < 230
  · exact List.all_eq_true.mp ax_q17 m (List.mem_range'_1.mpr ⟨by omega, by omega⟩)
  by_cases h18 : m < 247
  · exact List.all_eq_true.mp ax_q18 m (List.mem_range'_1.mpr ⟨by omega, by omega⟩)
  by_cases h19 : m < 255
  · exact List.all_eq_true.mp ax_q19 m (List.mem_range'_1.mpr ⟨by omega, by omega⟩)
  by_cases h20 : m < 264
  · exact List.all_eq_true.mp ax_q20 m (List.mem_range'_1.mpr ⟨by omega, by omega⟩)
  by_cases h21 : m < 279
  · exact List.all_eq_true.mp ax_q21 m (List.mem_range'_1.mpr ⟨by omega, by omega⟩)
  by_cases h22 : m < 289
  · exact List.all_eq_true.mp ax_q22 m (List.mem_range'_1.mpr ⟨by omega, by omega⟩)
  by_cases h23 : m < 295
  · exact List.all_eq_true.mp ax_q23 m (List.mem_range'_1.mpr ⟨by omega, by omega⟩)
  by_cases h24 : m < 303
  · exact List.all_eq_true.mp ax_q24 m (List.mem_range'_1.mpr ⟨by omega, by omega⟩)
  by_cases h25 : m < 314
  · exact List.all_eq_true.mp ax_q25 m (List.mem_range'_1.mpr ⟨by omega, by omega⟩)
  by_cases h26 : m < 326
  · exact List.all_eq_true.mp ax_q26 m (List.mem_range'_1.mpr ⟨by omega, by omega⟩)
  omega
