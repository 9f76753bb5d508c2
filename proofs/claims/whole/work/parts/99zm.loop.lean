/-! THE LAW: its loop (printed by gen_law.py) -/
set_option maxRecDepth 100000 in
theorem lw_d0 : decode code 0 = .ok (.new 7, 3) := by decide +kernel
set_option maxRecDepth 100000 in
theorem lw_d3 : decode code 3 = .ok (.dup, 1) := by decide +kernel
set_option maxRecDepth 100000 in
theorem lw_d4 : decode code 4 = .ok (.invokespecial 9, 3) := by decide +kernel
set_option maxRecDepth 100000 in
theorem lw_d7 : decode code 7 = .ok (.astore_n 1, 1) := by decide +kernel
set_option maxRecDepth 100000 in
theorem lw_d8 : decode code 8 = .ok (.new 10, 3) := by decide +kernel
set_option maxRecDepth 100000 in
theorem lw_d11 : decode code 11 = .ok (.dup, 1) := by decide +kernel
set_option maxRecDepth 100000 in
theorem lw_d12 : decode code 12 = .ok (.invokespecial 12, 3) := by decide +kernel
set_option maxRecDepth 100000 in
theorem lw_d15 : decode code 15 = .ok (.astore_n 2, 1) := by decide +kernel
set_option maxRecDepth 100000 in
theorem lw_d16 : decode code 16 = .ok (.iconst 0, 1) := by decide +kernel
set_option maxRecDepth 100000 in
theorem lw_d17 : decode code 17 = .ok (.istore_n 3, 1) := by decide +kernel
set_option maxRecDepth 100000 in
theorem lw_d18 : decode code 18 = .ok (.iload_n 3, 1) := by decide +kernel
set_option maxRecDepth 100000 in
theorem lw_d19 : decode code 19 = .ok (.aload_n 0, 1) := by decide +kernel
set_option maxRecDepth 100000 in
theorem lw_d20 : decode code 20 = .ok (.arraylength, 1) := by decide +kernel
set_option maxRecDepth 100000 in
theorem lw_d21 : decode code 21 = .ok (.bipush 6, 2) := by decide +kernel
set_option maxRecDepth 100000 in
theorem lw_d23 : decode code 23 = .ok (.isub, 1) := by decide +kernel
set_option maxRecDepth 100000 in
theorem lw_d24 : decode code 24 = .ok (.if_icmp .gt 1223, 3) := by decide +kernel
set_option maxRecDepth 100000 in
theorem lw_d27 : decode code 27 = .ok (.aload_n 0, 1) := by decide +kernel
set_option maxRecDepth 100000 in
theorem lw_d28 : decode code 28 = .ok (.iload_n 3, 1) := by decide +kernel
set_option maxRecDepth 100000 in
theorem lw_d29 : decode code 29 = .ok (.iaload, 1) := by decide +kernel
set_option maxRecDepth 100000 in
theorem lw_d30 : decode code 30 = .ok (.bipush 63, 2) := by decide +kernel
set_option maxRecDepth 100000 in
theorem lw_d32 : decode code 32 = .ok (.iand, 1) := by decide +kernel
set_option maxRecDepth 100000 in
theorem lw_d33 : decode code 33 = .ok (.tableswitch 1208 0 32 #[147, 210, 233, 246, 269, 292, 335, 368, 401, 434, 467, 500, 544, 587, 640, 683, 736, 799, 822, 855, 878, 901, 944, 967, 990, 1043, 1086, 1099, 1122, 1136, 1149, 1172, 1185], 147) := by decide +kernel
set_option maxRecDepth 100000 in
theorem lw_d1241 : decode code 1241 = .ok (.iinc 3 6, 3) := by decide +kernel
set_option maxRecDepth 100000 in
theorem lw_d1244 : decode code 1244 = .ok (.goto (-1226), 3) := by decide +kernel
set_option maxRecDepth 100000 in
theorem lw_d1247 : decode code 1247 = .ok (.iconst 1, 1) := by decide +kernel
set_option maxRecDepth 100000 in
theorem lw_d1248 : decode code 1248 = .ok (.ireturn, 1) := by decide +kernel
section LWL
variable {p : Program} {l : Launch} {e : Env} {s : State} {m : MethodId} {below : List Frame} {meth : Method} {c : Code} {b L : Nat} {xs : Nat → Int32} {D : va_G} {cy : Nat → ClassId} {sa sv adc adr : Nat → Nat} {i : Nat}
theorem lw_cond {i L : Nat} (hi : i ≤ 400) (hL : L ≤ 384) : (Int32.ofNat L - 6 < Int32.ofNat i) ↔ L < i + 6 := by
  have e1 : Int32.ofNat L - 6 = Int32.ofInt ((L : Int) - 6) := by
    rw [Int32.ofInt_sub]
    rfl
  rw [e1, show Int32.ofNat i = Int32.ofInt (i : Int) from rfl, ax_i_lt, zb_w (by omega) (by omega), zb_w (by omega) (by omega)]
  omega
/-- the loop's test -/
theorem lw_test (C : lw_C p s m meth c b L xs D cy sa sv adc adr) (hi : i ≤ 400) {sc sr : ax_S} (ky : L < i + 6 → lw_W p l e s m below meth c b D cy adc adr i 1247 [] sc sr) (kn : i + 6 ≤ L → lw_W p l e s m below meth c b D cy adc adr i 27 [] sc sr) : lw_W p l e s m below meth c b D cy adc adr i 18 [] sc sr := by
  intro H locs ls hl hP hD hS
  obtain ⟨hx, hb, hr, hml, hown, hts, hX, hbl, hlk, hK, hG, e1, e2, hL⟩ := C
  have hbA : ¬ (fun q : Nat => s.heap.size ≤ q) b := Nat.not_le.mpr hbl
  refine lv_iload_n hx hb lw_d18 rfl (lv_at hl 0 rfl) ?_
  refine lv_aload_n hx hb lw_d19 rfl (lv_at hl 3 rfl) ?_
  refine va_slen hx hb hX hbl hbA hS lw_d20 ?_
  refine lv_bipush hx hb lw_d21 (v := 6) rfl ?_
  refine lv_isub hx hb lw_d23 ?_
  refine lv_icmp_gt hx hb lw_d24 (tgt := 1247) (by decide) (fun q => ?_) (fun q => ?_)
  · exact ky ((lw_cond hi hL).mp q) H locs ls hl hP hD hS
  · exact kn (by have := mt (lw_cond hi hL).mpr q; omega) H locs ls hl hP hD hS
theorem lw_end (C : lw_C p s m meth c b L xs D cy sa sv adc adr) (hi : i ≤ 400) (h : L < i + 6) {sc sr : ax_S} : lw_W p l e s m below meth c b D cy adc adr i 18 [] sc sr := by
  refine lw_test C hi (fun _ => ?_) (fun q => by omega)
  intro H locs ls hl hP hD hS
  obtain ⟨hx, hb, hr, hml, hown, hts, hX, hbl, hlk, hK, hG, e1, e2, hL⟩ := C
  refine lv_iconst (v := 1) hx hb lw_d1247 rfl ?_
  refine va_forget (fun q hq => hS.2.2 q hq) ?_
  refine W.widen (k := 600000) (n := 7302250) (Nat.le_of_ble_eq_true rfl) (Nat.le_of_ble_eq_true rfl) ?_
  exact lw_ret hx hb hr hlk lw_d1248
theorem lw_in (C : lw_C p s m meth c b L xs D cy sa sv adc adr) (hi : i + 6 ≤ L) {sc sr : ax_S} (k : lw_W p l e s m below meth c b D cy adc adr i 33 [.int (xs i &&& 63)] sc sr) : lw_W p l e s m below meth c b D cy adc adr i 18 [] sc sr := by
  have hL : L ≤ 384 := C.2.2.2.2.2.2.2.2.2.2.2.2.2
  refine lw_test C (by omega) (fun q => by omega) (fun _ => ?_)
  intro H locs ls hl hP hD hS
  obtain ⟨hx, hb, hr, hml, hown, hts, hX, hbl, hlk, hK, hG, e1, e2, hL⟩ := C
  have hbA : ¬ (fun q : Nat => s.heap.size ≤ q) b := Nat.not_le.mpr hbl
  have e3 : ax_w (i : Int) = (i : Int) := ax_w_idn (by omega)
  refine lv_aload_n hx hb lw_d27 rfl (lv_at hl 3 rfl) ?_
  refine lv_iload_n hx hb lw_d28 rfl (lv_at hl 0 rfl) ?_
  rw [show Int32.ofNat i = Int32.ofInt (i : Int) from rfl]
  refine va_sld hx hb hX hbl hbA hS (ax_i_in (by rw [e3]; omega)) lw_d29 ?_
  rw [ax_i_cl, e3, Int.toNat_natCast]
  refine lv_bipush hx hb lw_d30 (v := 63) rfl ?_
  refine lv_iand hx hb lw_d32 ?_
  exact k H locs ls hl hP hD hS
theorem lw_next (C : lw_C p s m meth c b L xs D cy sa sv adc adr) (hi : i + 6 ≤ L) {sc sr : ax_S} (k : lw_W p l e s m below meth c b D cy adc adr (i + 6) 18 [] sc sr) : lw_W p l e s m below meth c b D cy adc adr i 1241 [] sc sr := by
  intro H locs ls hl hP hD hS
  have hL : L ≤ 384 := C.2.2.2.2.2.2.2.2.2.2.2.2.2
  refine lv_iinc (v := Int32.ofNat (i + 6)) (lv' := lw_lv b adc adr (i + 6)) C.1 C.2.1 lw_d1241 hl (k := 0) rfl ?_ (by decide) rfl (fun ls' hl' => ?_)
  · have := lw_ix (i := i) (j := 6) (by omega)
    exact this
  · exact lv_goto C.1 C.2.1 lw_d1244 (tgt := 18) (by decide) (k H locs ls' hl' hP hD hS)
theorem lw_and63 (v : Int32) : 0 ≤ (v &&& 63).toInt ∧ (v &&& 63).toInt < 64 := by
  have e1 : (v &&& 63).toBitVec.toNat = v.toBitVec.toNat &&& 63 := by
    rw [Int32.toBitVec_and, BitVec.toNat_and]
    rfl
  have e2 : v.toBitVec.toNat &&& 63 ≤ 63 := Nat.and_le_right
  rw [bo_ti e1 (by omega)]
  omega
set_option maxHeartbeats 4000000 in
theorem lw_loop (C : lw_C p s m meth c b L xs D cy sa sv adc adr) : ∀ (N i : Nat), L ≤ i + 6 * N → i ≤ 400 → lw_K p l e s m below meth c b D cy adc adr i 18 := by
  have hL : L ≤ 384 := C.2.2.2.2.2.2.2.2.2.2.2.2.2
  intro N
  induction N with
  | zero =>
    intro i hN hi E pg W U u r T n z e0 f0 st hf pf I J I2 J2 hc hr wc wr H locs ls hl hP hD hS
    exact lw_end C hi (by omega) H locs ls hl hP hD hS
  | succ N ih =>
    intro i hN hi E pg W U u r T n z e0 f0 st hf pf I J I2 J2 hc hr wc wr
    by_cases h6 : i + 6 ≤ L
    · have k : lw_K p l e s m below meth c b D cy adc adr i 1241 := fun E pg W U u r T n z e0 f0 st hf pf I J I2 J2 hc hr wc wr => lw_next C h6 (ih (i + 6) (by omega) (by omega) E pg W U u r T n z e0 f0 st hf pf I J I2 J2 hc hr wc wr)
      refine lw_in C h6 (fun H locs ls hl hP hD hS => ?_)
      have hv := lw_and63 (xs i)
      generalize hvv : xs i &&& 63 = v at hv
      by_cases q0 : v.toInt = 0
      · exact lv_tableIn C.1 C.2.1 lw_d33 (tgt := 180) (off := 147) (by omega) (by omega) (by rw [q0]; rfl) (by decide) (lw_k0 C h6 k E pg W U u r T n z e0 f0 st hf pf I J I2 J2 hc hr wc wr H locs ls hl hP hD hS)
      by_cases q1 : v.toInt = 1
      · exact lv_tableIn C.1 C.2.1 lw_d33 (tgt := 243) (off := 210) (by omega) (by omega) (by rw [q1]; rfl) (by decide) (lw_k1 C h6 k E pg W U u r T n z e0 f0 st hf pf I J I2 J2 hc hr wc wr H locs ls hl hP hD hS)
      by_cases q2 : v.toInt = 2
      · exact lv_tableIn C.1 C.2.1 lw_d33 (tgt := 266) (off := 233) (by omega) (by omega) (by rw [q2]; rfl) (by decide) (lw_k2 C h6 k E pg W U u r T n z e0 f0 st hf pf I J I2 J2 hc hr wc wr H locs ls hl hP hD hS)
      by_cases q3 : v.toInt = 3
      · exact lv_tableIn C.1 C.2.1 lw_d33 (tgt := 279) (off := 246) (by omega) (by omega) (by rw [q3]; rfl) (by decide) (lw_k3 C h6 k E pg W U u r T n z e0 f0 st hf pf I J I2 J2 hc hr wc wr H locs ls hl hP hD hS)
      by_cases q4 : v.toInt = 4
      · exact lv_tableIn C.1 C.2.1 lw_d33 (tgt := 302) (off := 269) (by omega) (by omega) (by rw [q4]; rfl) (by decide) (lw_k4 C h6 k E pg W U u r T n z e0 f0 st hf pf I J I2 J2 hc hr wc wr H locs ls hl hP hD hS)
      by_cases q5 : v.toInt = 5
      · exact lv_tableIn C.1 C.2.1 lw_d33 (tgt := 325) (off := 292) (by omega) (by omega) (by rw [q5]; rfl) (by decide) (lw_k5 C h6 k E pg W U u r T n z e0 f0 st hf pf I J I2 J2 hc hr wc wr H locs ls hl hP hD hS)
      by_cases q6 : v.toInt = 6
      · exact lv_tableIn C.1 C.2.1 lw_d33 (tgt := 368) (off := 335) (by omega) (by omega) (by rw [q6]; rfl) (by decide) (lw_k6 C h6 k E pg W U u r T n z e0 f0 st hf pf I J I2 J2 hc hr wc wr H locs ls hl hP hD hS)
      by_cases q7 : v.toInt = 7
      · exact lv_tableIn C.1 C.2.1 lw_d33 (tgt := 401) (off := 368) (by omega) (by omega) (by rw [q7]; rfl) (by decide) (lw_k7 C h6 k E pg W U u r T n z e0 f0 st hf pf I J I2 J2 hc hr wc wr H locs ls hl hP hD hS)
      by_cases q8 : v.toInt = 8
      · exact lv_tableIn C.1 C.2.1 lw_d33 (tgt := 434) (off := 401) (by omega) (by omega) (by rw [q8]; rfl) (by decide) (lw_k8 C h6 k E pg W U u r T n z e0 f0 st hf pf I J I2 J2 hc hr wc wr H locs ls hl hP hD hS)
      by_cases q9 : v.toInt = 9
      · exact lv_tableIn C.1 C.2.1 lw_d33 (tgt := 467) (off := 434) (by omega) (by omega) (by rw [q9]; rfl) (by decide) (lw_k9 C h6 k E pg W U u r T n z e0 f0 st hf pf I J I2 J2 hc hr wc wr H locs ls hl hP hD hS)
      by_cases q10 : v.toInt = 10
      · exact lv_tableIn C.1 C.2.1 lw_d33 (tgt := 500) (off := 467) (by omega) (by omega) (by rw [q10]; rfl) (by decide) (lw_k10 C h6 k E pg W U u r T n z e0 f0 st hf pf I J I2 J2 hc hr wc wr H locs ls hl hP hD hS)
      by_cases q11 : v.toInt = 11
      · exact lv_tableIn C.1 C.2.1 lw_d33 (tgt := 533) (off := 500) (by omega) (by omega) (by rw [q11]; rfl) (by decide) (lw_k11 C h6 k E pg W U u r T n z e0 f0 st hf pf I J I2 J2 hc hr wc wr H locs ls hl hP hD hS)
      by_cases q12 : v.toInt = 12
      · exact lv_tableIn C.1 C.2.1 lw_d33 (tgt := 577) (off := 544) (by omega) (by omega) (by rw [q12]; rfl) (by decide) (lw_k12 C h6 k E pg W U u r T n z e0 f0 st hf pf I J I2 J2 hc hr wc wr H locs ls hl hP hD hS)
      by_cases q13 : v.toInt = 13
      · exact lv_tableIn C.1 C.2.1 lw_d33 (tgt := 620) (off := 587) (by omega) (by omega) (by rw [q13]; rfl) (by decide) (lw_k13 C h6 k E pg W U u r T n z e0 f0 st hf pf I J I2 J2 hc hr wc wr H locs ls hl hP hD hS)
      by_cases q14 : v.toInt = 14
      · exact lv_tableIn C.1 C.2.1 lw_d33 (tgt := 673) (off := 640) (by omega) (by omega) (by rw [q14]; rfl) (by decide) (lw_k14 C h6 k E pg W U u r T n z e0 f0 st hf pf I J I2 J2 hc hr wc wr H locs ls hl hP hD hS)
      by_cases q15 : v.toInt = 15
      · exact lv_tableIn C.1 C.2.1 lw_d33 (tgt := 716) (off := 683) (by omega) (by omega) (by rw [q15]; rfl) (by decide) (lw_k15 C h6 k E pg W U u r T n z e0 f0 st hf pf I J I2 J2 hc hr wc wr H locs ls hl hP hD hS)
      by_cases q16 : v.toInt = 16
      · exact lv_tableIn C.1 C.2.1 lw_d33 (tgt := 769) (off := 736) (by omega) (by omega) (by rw [q16]; rfl) (by decide) (lw_k16 C h6 k E pg W U u r T n z e0 f0 st hf pf I J I2 J2 hc hr wc wr H locs ls hl hP hD hS)
      by_cases q17 : v.toInt = 17
      · exact lv_tableIn C.1 C.2.1 lw_d33 (tgt := 832) (off := 799) (by omega) (by omega) (by rw [q17]; rfl) (by decide) (lw_k17 C h6 k E pg W U u r T n z e0 f0 st hf pf I J I2 J2 hc hr wc wr H locs ls hl hP hD hS)
      by_cases q18 : v.toInt = 18
      · exact lv_tableIn C.1 C.2.1 lw_d33 (tgt := 855) (off := 822) (by omega) (by omega) (by rw [q18]; rfl) (by decide) (lw_k18 C h6 k E pg W U u r T n z e0 f0 st hf pf I J I2 J2 hc hr wc wr H locs ls hl hP hD hS)
      by_cases q19 : v.toInt = 19
      · exact lv_tableIn C.1 C.2.1 lw_d33 (tgt := 888) (off := 855) (by omega) (by omega) (by rw [q19]; rfl) (by decide) (lw_k19 C h6 k E pg W U u r T n z e0 f0 st hf pf I J I2 J2 hc hr wc wr H locs ls hl hP hD hS)
      by_cases q20 : v.toInt = 20
      · exact lv_tableIn C.1 C.2.1 lw_d33 (tgt := 911) (off := 878) (by omega) (by omega) (by rw [q20]; rfl) (by decide) (lw_k20 C h6 k E pg W U u r T n z e0 f0 st hf pf I J I2 J2 hc hr wc wr H locs ls hl hP hD hS)
      by_cases q21 : v.toInt = 21
      · exact lv_tableIn C.1 C.2.1 lw_d33 (tgt := 934) (off := 901) (by omega) (by omega) (by rw [q21]; rfl) (by decide) (lw_k21 C h6 k E pg W U u r T n z e0 f0 st hf pf I J I2 J2 hc hr wc wr H locs ls hl hP hD hS)
      by_cases q22 : v.toInt = 22
      · exact lv_tableIn C.1 C.2.1 lw_d33 (tgt := 977) (off := 944) (by omega) (by omega) (by rw [q22]; rfl) (by decide) (lw_k22 C h6 k E pg W U u r T n z e0 f0 st hf pf I J I2 J2 hc hr wc wr H locs ls hl hP hD hS)
      by_cases q23 : v.toInt = 23
      · exact lv_tableIn C.1 C.2.1 lw_d33 (tgt := 1000) (off := 967) (by omega) (by omega) (by rw [q23]; rfl) (by decide) (lw_k23 C h6 k E pg W U u r T n z e0 f0 st hf pf I J I2 J2 hc hr wc wr H locs ls hl hP hD hS)
      by_cases q24 : v.toInt = 24
      · exact lv_tableIn C.1 C.2.1 lw_d33 (tgt := 1023) (off := 990) (by omega) (by omega) (by rw [q24]; rfl) (by decide) (lw_k24 C h6 k E pg W U u r T n z e0 f0 st hf pf I J I2 J2 hc hr wc wr H locs ls hl hP hD hS)
      by_cases q25 : v.toInt = 25
      · exact lv_tableIn C.1 C.2.1 lw_d33 (tgt := 1076) (off := 1043) (by omega) (by omega) (by rw [q25]; rfl) (by decide) (lw_k25 C h6 k E pg W U u r T n z e0 f0 st hf pf I J I2 J2 hc hr wc wr H locs ls hl hP hD hS)
      by_cases q26 : v.toInt = 26
      · exact lv_tableIn C.1 C.2.1 lw_d33 (tgt := 1119) (off := 1086) (by omega) (by omega) (by rw [q26]; rfl) (by decide) (lw_k26 C h6 k E pg W U u r T n z e0 f0 st hf pf I J I2 J2 hc hr wc wr H locs ls hl hP hD hS)
      by_cases q27 : v.toInt = 27
      · exact lv_tableIn C.1 C.2.1 lw_d33 (tgt := 1132) (off := 1099) (by omega) (by omega) (by rw [q27]; rfl) (by decide) (lw_k27 C h6 k E pg W U u r T n z e0 f0 st hf pf I J I2 J2 hc hr wc wr H locs ls hl hP hD hS)
      by_cases q28 : v.toInt = 28
      · exact lv_tableIn C.1 C.2.1 lw_d33 (tgt := 1155) (off := 1122) (by omega) (by omega) (by rw [q28]; rfl) (by decide) (lw_k28 C h6 k E pg W U u r T n z e0 f0 st hf pf I J I2 J2 hc hr wc wr H locs ls hl hP hD hS)
      by_cases q29 : v.toInt = 29
      · exact lv_tableIn C.1 C.2.1 lw_d33 (tgt := 1169) (off := 1136) (by omega) (by omega) (by rw [q29]; rfl) (by decide) (lw_k29 C h6 k E pg W U u r T n z e0 f0 st hf pf I J I2 J2 hc hr wc wr H locs ls hl hP hD hS)
      by_cases q30 : v.toInt = 30
      · exact lv_tableIn C.1 C.2.1 lw_d33 (tgt := 1182) (off := 1149) (by omega) (by omega) (by rw [q30]; rfl) (by decide) (lw_k30 C h6 k E pg W U u r T n z e0 f0 st hf pf I J I2 J2 hc hr wc wr H locs ls hl hP hD hS)
      by_cases q31 : v.toInt = 31
      · exact lv_tableIn C.1 C.2.1 lw_d33 (tgt := 1205) (off := 1172) (by omega) (by omega) (by rw [q31]; rfl) (by decide) (lw_k31 C h6 k E pg W U u r T n z e0 f0 st hf pf I J I2 J2 hc hr wc wr H locs ls hl hP hD hS)
      by_cases q32 : v.toInt = 32
      · exact lv_tableIn C.1 C.2.1 lw_d33 (tgt := 1218) (off := 1185) (by omega) (by omega) (by rw [q32]; rfl) (by decide) (lw_k32 C h6 k E pg W U u r T n z e0 f0 st hf pf I J I2 J2 hc hr wc wr H locs ls hl hP hD hS)
      exact lv_tableOut C.1 C.2.1 lw_d33 (tgt := 1241) (Or.inr (by omega)) (by decide) (k E pg W U u r T n z e0 f0 st hf pf I J I2 J2 hc hr wc wr H locs ls hl hP hD hS)
    · exact fun H locs ls hl hP hD hS => lw_end C hi (by omega) H locs ls hl hP hD hS
end LWL
