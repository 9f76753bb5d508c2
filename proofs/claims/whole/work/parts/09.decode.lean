/-! the codes are what the bytes decode to: by the kernel, some at a time -/
set_option maxRecDepth 100000 in
theorem ax_q0 : (List.range' 0 16).all ax_k1 = true := by decide +kernel
set_option maxRecDepth 100000 in
theorem ax_q1 : (List.range' 16 9).all ax_k1 = true := by decide +kernel
set_option maxRecDepth 100000 in
theorem ax_q2 : (List.range' 25 14).all ax_k1 = true := by decide +kernel
set_option maxRecDepth 100000 in
theorem ax_q3 : (List.range' 39 13).all ax_k1 = true := by decide +kernel
set_option maxRecDepth 100000 in
theorem ax_q4 : (List.range' 52 10).all ax_k1 = true := by decide +kernel
set_option maxRecDepth 100000 in
theorem ax_q5 : (List.range' 62 16).all ax_k1 = true := by decide +kernel
set_option maxRecDepth 100000 in
theorem ax_q6 : (List.range' 78 12).all ax_k1 = true := by decide +kernel
set_option maxRecDepth 100000 in
theorem ax_q7 : (List.range' 90 19).all ax_k1 = true := by decide +kernel
set_option maxRecDepth 100000 in
theorem ax_q8 : (List.range' 109 17).all ax_k1 = true := by decide +kernel
set_option maxRecDepth 100000 in
theorem ax_q9 : (List.range' 126 17).all ax_k1 = true := by decide +kernel
set_option maxRecDepth 100000 in
theorem ax_q10 : (List.range' 143 20).all ax_k1 = true := by decide +kernel
set_option maxRecDepth 100000 in
theorem ax_q11 : (List.range' 163 12).all ax_k1 = true := by decide +kernel
set_option maxRecDepth 100000 in
theorem ax_q12 : (List.range' 175 1).all ax_k1 = true := by decide +kernel
set_option maxRecDepth 100000 in
theorem ax_q13 : (List.range' 176 13).all ax_k1 = true := by decide +kernel
set_option maxRecDepth 100000 in
theorem ax_q14 : (List.range' 189 7).all ax_k1 = true := by decide +kernel
set_option maxRecDepth 100000 in
theorem ax_q15 : (List.range' 196 5).all ax_k1 = true := by decide +kernel
set_option maxRecDepth 100000 in
theorem ax_q16 : (List.range' 201 21).all ax_k1 = true := by decide +kernel
set_option maxRecDepth 100000 in
theorem ax_q17 : (List.range' 222 8).all ax_k1 = true := by decide +kernel
set_option maxRecDepth 100000 in
theorem ax_q18 : (List.range' 230 17).all ax_k1 = true := by decide +kernel
set_option maxRecDepth 100000 in
theorem ax_q19 : (List.range' 247 8).all ax_k1 = true := by decide +kernel
set_option maxRecDepth 100000 in
theorem ax_q20 : (List.range' 255 9).all ax_k1 = true := by decide +kernel
set_option maxRecDepth 100000 in
theorem ax_q21 : (List.range' 264 15).all ax_k1 = true := by decide +kernel
set_option maxRecDepth 100000 in
theorem ax_q22 : (List.range' 279 10).all ax_k1 = true := by decide +kernel
set_option maxRecDepth 100000 in
theorem ax_q23 : (List.range' 289 6).all ax_k1 = true := by decide +kernel
set_option maxRecDepth 100000 in
theorem ax_q24 : (List.range' 295 8).all ax_k1 = true := by decide +kernel
set_option maxRecDepth 100000 in
theorem ax_q25 : (List.range' 303 11).all ax_k1 = true := by decide +kernel
set_option maxRecDepth 100000 in
theorem ax_q26 : (List.range' 314 9).all ax_k1 = true := by decide +kernel
theorem ax_ok1 {m : Nat} (h : m < 323) : ax_k1 m = true := by
  by_cases h0 : m < 16
  · exact List.all_eq_true.mp ax_q0 m (List.mem_range'_1.mpr ⟨by omega, by omega⟩)
  by_cases h1 : m < 25
  · exact List.all_eq_true.mp ax_q1 m (List.mem_range'_1.mpr ⟨by omega, by omega⟩)
  by_cases h2 : m < 39
  · exact List.all_eq_true.mp ax_q2 m (List.mem_range'_1.mpr ⟨by omega, by omega⟩)
  by_cases h3 : m < 52
  · exact List.all_eq_true.mp ax_q3 m (List.mem_range'_1.mpr ⟨by omega, by omega⟩)
  by_cases h4 : m < 62
  · exact List.all_eq_true.mp ax_q4 m (List.mem_range'_1.mpr ⟨by omega, by omega⟩)
  by_cases h5 : m < 78
  · exact List.all_eq_true.mp ax_q5 m (List.mem_range'_1.mpr ⟨by omega, by omega⟩)
  by_cases h6 : m < 90
  · exact List.all_eq_true.mp ax_q6 m (List.mem_range'_1.mpr ⟨by omega, by omega⟩)
  by_cases h7 : m < 109
  · exact List.all_eq_true.mp ax_q7 m (List.mem_range'_1.mpr ⟨by omega, by omega⟩)
  by_cases h8 : m < 126
  · exact List.all_eq_true.mp ax_q8 m (List.mem_range'_1.mpr ⟨by omega, by omega⟩)
  by_cases h9 : m < 143
  · exact List.all_eq_true.mp ax_q9 m (List.mem_range'_1.mpr ⟨by omega, by omega⟩)
  by_cases h10 : m < 163
  · exact List.all_eq_true.mp ax_q10 m (List.mem_range'_1.mpr ⟨by omega, by omega⟩)
  by_cases h11 : m < 175
  · exact List.all_eq_true.mp ax_q11 m (List.mem_range'_1.mpr ⟨by omega, by omega⟩)
  by_cases h12 : m < 176
  · exact List.all_eq_true.mp ax_q12 m (List.mem_range'_1.mpr ⟨by omega, by omega⟩)
  by_cases h13 : m < 189
  · exact List.all_eq_true.mp ax_q13 m (List.mem_range'_1.mpr ⟨by omega, by omega⟩)
  by_cases h14 : m < 196
  · exact List.all_eq_true.mp ax_q14 m (List.mem_range'_1.mpr ⟨by omega, by omega⟩)
  by_cases h15 : m < 201
  · exact List.all_eq_true.mp ax_q15 m (List.mem_range'_1.mpr ⟨by omega, by omega⟩)
  by_cases h16 : m < 222
  · exact List.all_eq_true.mp ax_q16 m (List.mem_range'_1.mpr ⟨by omega, by omega⟩)
  by_cases h17 : m < 230
  · exact List.all_eq_true.mp ax_q17 m (List.mem_range'_1.mpr ⟨by omega, by omega⟩)
  by_cases h18 : m < 247
  · exact List.all_eq_true.mp ax_q18 m (List.mem_range'_1.mpr ⟨by omega, by omega⟩)
  by_cases h19 : m < 255
  · exact List.all_eq_true.mp ax_q19 m (List.mem_range'_1.mpr ⟨by omega, by omega⟩)
  by_cases h20 : m < 264
  · exact List.all_eq_true.mp ax_q20 m (List.mem_range'_1.mpr ⟨by omega, by omega⟩)
  by_cases h21 : m < 279
  · exact List.all_eq_true.mp ax_q21 m (List.mem_range'_1.mpr ⟨by omega, by omega⟩)
  by_cases h22 : m < 289
  · exact List.all_eq_true.mp ax_q22 m (List.mem_range'_1.mpr ⟨by omega, by omega⟩)
  by_cases h23 : m < 295
  · exact List.all_eq_true.mp ax_q23 m (List.mem_range'_1.mpr ⟨by omega, by omega⟩)
  by_cases h24 : m < 303
  · exact List.all_eq_true.mp ax_q24 m (List.mem_range'_1.mpr ⟨by omega, by omega⟩)
  by_cases h25 : m < 314
  · exact List.all_eq_true.mp ax_q25 m (List.mem_range'_1.mpr ⟨by omega, by omega⟩)
  by_cases h26 : m < 323
  · exact List.all_eq_true.mp ax_q26 m (List.mem_range'_1.mpr ⟨by omega, by omega⟩)
  omega
