/-! THE LAW: the 33 operations side by side, in the law (printed by gen_law.py) -/
section LWK
variable {p : Program} {l : Launch} {e : Env} {s : State} {m : MethodId} {below : List Frame} {meth : Method} {c : Code} {b L : Nat} {xs : Nat → Int32} {D : va_G} {cy : Nat → ClassId} {sa sv adc adr : Nat → Nat} {i : Nat}
variable {E : zD} {pg : zG} {W : zD} {U : Nat → zD} {u r : Int} {T : Nat → Int} {n : Int} {z : List Int} {e0 f0 : Int} {st : Nat → Int}
/-- any state of the two, side by side, at the loop's head of the turn behind -/
def lw_K (p : Program) (l : Launch) (e : Env) (s : State) (m : MethodId) (below : List Frame) (meth : Method) (c : Code) (b : Nat) (D : va_G) (cy : Nat → ClassId) (adc adr : Nat → Nat) (i pc : Nat) : Prop := ∀ (E : zD) (pg : zG) (W : zD) (U : Nat → zD) (u r : Int) (T : Nat → Int) (n : Int) (z : List Int) (e0 f0 : Int) (st : Nat → Int) (hf pf : Nat) (I J I2 J2 : zF), CC E pg W U u r T n z e0 f0 st hf pf I J → RR E pg W U u r T n z e0 f0 st I2 J2 → ax_wf (zc_S hf pf I J) → ax_wf (zr_S I2 J2) → lw_W p l e s m below meth c b D cy adc adr i pc [] (zc_S hf pf I J) (zr_S I2 J2)
theorem lw_k0 (C : lw_C p s m meth c b L xs D cy sa sv adc adr) (hi : i + 6 ≤ L) (k : lw_K p l e s m below meth c b D cy adc adr i 1241) : lw_K p l e s m below meth c b D cy adc adr i 180 := by
  intro E pg W U u r T n z e0 f0 st hf pf I J I2 J2 hc hr wc wr
  obtain ⟨x, E1, pg1, W1, U1, u1, r1, T1, n1, z1, e1, f1, st1, hbo⟩ := bo_feed (D := E) (pg := pg) (W := W) (U := U) (u := u) (s := r) (T := T) (n := n) (l := z) (e := e0) (f := f0) (st := st) (a := (xs (i + (1 + 0))).toInt) (b := (xs (i + (1 + 1))).toInt) (c := (xs (i + (1 + 2))).toInt) (g := (xs (i + (1 + 3))).toInt) (k := (xs (i + (1 + 4))).toInt) 
  exact lw_case C (n := 5) (Mc := ax_m127) (Mr := ax_m177) hbo (by decide) hi rfl rfl rfl rfl ⟨⟨rfl, rfl, rfl⟩, rfl⟩ ⟨⟨rfl, rfl, rfl⟩, rfl⟩ lw_o0 hc hr wc wr (fun hf' pf' I' J' I2' J2' q1 q2 q3 q4 => lw_cmpi C lw_ec0 (k _ _ _ _ _ _ _ _ _ _ _ _ _ _ _ _ _ _ q1 q2 q3 q4))
theorem lw_k1 (C : lw_C p s m meth c b L xs D cy sa sv adc adr) (hi : i + 6 ≤ L) (k : lw_K p l e s m below meth c b D cy adc adr i 1241) : lw_K p l e s m below meth c b D cy adc adr i 243 := by
  intro E pg W U u r T n z e0 f0 st hf pf I J I2 J2 hc hr wc wr
  obtain ⟨x, E1, pg1, W1, U1, u1, r1, T1, n1, z1, e1, f1, st1, hbo⟩ := bo_end (D := E) (pg := pg) (W := W) (U := U) (u := u) (s := r) (T := T) (n := n) (l := z) (e := e0) (f := f0) (st := st)  (n32x (xs (i + (1 + 0))))
  exact lw_case C (n := 1) (Mc := ax_m128) (Mr := ax_m178) hbo (by decide) hi rfl rfl rfl rfl ⟨⟨rfl, rfl, rfl⟩, rfl⟩ ⟨⟨rfl, rfl, rfl⟩, rfl⟩ lw_o1 hc hr wc wr (fun hf' pf' I' J' I2' J2' q1 q2 q3 q4 => lw_cmpi C lw_ec1 (k _ _ _ _ _ _ _ _ _ _ _ _ _ _ _ _ _ _ q1 q2 q3 q4))
theorem lw_k2 (C : lw_C p s m meth c b L xs D cy sa sv adc adr) (hi : i + 6 ≤ L) (k : lw_K p l e s m below meth c b D cy adc adr i 1241) : lw_K p l e s m below meth c b D cy adc adr i 266 := by
  intro E pg W U u r T n z e0 f0 st hf pf I J I2 J2 hc hr wc wr
  obtain ⟨x, E1, pg1, W1, U1, u1, r1, T1, n1, z1, e1, f1, st1, hbo⟩ := bo_shop (D := E) (pg := pg) (W := W) (U := U) (u := u) (s := r) (T := T) (n := n) (l := z) (e := e0) (f := f0) (st := st)  
  exact lw_case C (n := 0) (Mc := ax_m129) (Mr := ax_m200) hbo (by decide) hi rfl rfl rfl rfl ⟨⟨rfl, rfl, rfl⟩, rfl⟩ ⟨⟨rfl, rfl, rfl⟩, rfl⟩ lw_o2 hc hr wc wr (fun hf' pf' I' J' I2' J2' q1 q2 q3 q4 => lw_cmpi C lw_ec2 (k _ _ _ _ _ _ _ _ _ _ _ _ _ _ _ _ _ _ q1 q2 q3 q4))
theorem lw_k3 (C : lw_C p s m meth c b L xs D cy sa sv adc adr) (hi : i + 6 ≤ L) (k : lw_K p l e s m below meth c b D cy adc adr i 1241) : lw_K p l e s m below meth c b D cy adc adr i 279 := by
  intro E pg W U u r T n z e0 f0 st hf pf I J I2 J2 hc hr wc wr
  have hbo := bo_fault (D := E) (pg := pg) (W := W) (U := U) (u := u) (s := r) (T := T) (n := n) (l := z) (e := e0) (f := f0) (st := st)  (n32x (xs (i + (1 + 0))))
  exact lw_case C (n := 1) (Mc := ax_m130) (Mr := ax_m202) hbo (by decide) hi rfl rfl rfl rfl ⟨⟨rfl, rfl, rfl⟩, rfl⟩ ⟨⟨rfl, rfl, rfl⟩, rfl⟩ lw_o3 hc hr wc wr (fun hf' pf' I' J' I2' J2' q1 q2 q3 q4 => lw_cmpi C lw_ec3 (k _ _ _ _ _ _ _ _ _ _ _ _ _ _ _ _ _ _ q1 q2 q3 q4))
theorem lw_k4 (C : lw_C p s m meth c b L xs D cy sa sv adc adr) (hi : i + 6 ≤ L) (k : lw_K p l e s m below meth c b D cy adc adr i 1241) : lw_K p l e s m below meth c b D cy adc adr i 302 := by
  intro E pg W U u r T n z e0 f0 st hf pf I J I2 J2 hc hr wc wr
  have hbo := bo_has (D := E) (pg := pg) (W := W) (U := U) (u := u) (s := r) (T := T) (n := n) (l := z) (e := e0) (f := f0) (st := st)  (n32x (xs (i + (1 + 0))))
  exact lw_case C (n := 1) (Mc := ax_m131) (Mr := ax_m237) hbo (by decide) hi rfl rfl rfl rfl ⟨⟨rfl, rfl, rfl⟩, rfl⟩ ⟨⟨rfl, rfl, rfl⟩, rfl⟩ lw_o4 hc hr wc wr (fun hf' pf' I' J' I2' J2' q1 q2 q3 q4 => lw_cmpi C lw_ec4 (k _ _ _ _ _ _ _ _ _ _ _ _ _ _ _ _ _ _ q1 q2 q3 q4))
theorem lw_k5 (C : lw_C p s m meth c b L xs D cy sa sv adc adr) (hi : i + 6 ≤ L) (k : lw_K p l e s m below meth c b D cy adc adr i 1241) : lw_K p l e s m below meth c b D cy adc adr i 325 := by
  intro E pg W U u r T n z e0 f0 st hf pf I J I2 J2 hc hr wc wr
  have hbo := bo_letter (D := E) (pg := pg) (W := W) (U := U) (u := u) (s := r) (T := T) (n := n) (l := z) (e := e0) (f := f0) (st := st)  (n32x (xs (i + (1 + 0)))) (n32x (xs (i + (1 + 1)))) (n32x (xs (i + (1 + 2))))
  exact lw_case C (n := 3) (Mc := ax_m132) (Mr := ax_m238) hbo (by decide) hi rfl rfl rfl rfl ⟨⟨rfl, rfl, rfl⟩, rfl⟩ ⟨⟨rfl, rfl, rfl⟩, rfl⟩ lw_o5 hc hr wc wr (fun hf' pf' I' J' I2' J2' q1 q2 q3 q4 => lw_cmpi C lw_ec5 (k _ _ _ _ _ _ _ _ _ _ _ _ _ _ _ _ _ _ q1 q2 q3 q4))
theorem lw_k6 (C : lw_C p s m meth c b L xs D cy sa sv adc adr) (hi : i + 6 ≤ L) (k : lw_K p l e s m below meth c b D cy adc adr i 1241) : lw_K p l e s m below meth c b D cy adc adr i 368 := by
  intro E pg W U u r T n z e0 f0 st hf pf I J I2 J2 hc hr wc wr
  have hbo := bo_word (D := E) (pg := pg) (W := W) (U := U) (u := u) (s := r) (T := T) (n := n) (l := z) (e := e0) (f := f0) (st := st)  (n32x (xs (i + (1 + 0)))) (n32x (xs (i + (1 + 1))))
  exact lw_case C (n := 2) (Mc := ax_m133) (Mr := ax_m239) hbo (by decide) hi rfl rfl rfl rfl ⟨⟨rfl, rfl, rfl⟩, rfl⟩ ⟨⟨rfl, rfl, rfl⟩, rfl⟩ lw_o6 hc hr wc wr (fun hf' pf' I' J' I2' J2' q1 q2 q3 q4 => lw_cmpi C lw_ec6 (k _ _ _ _ _ _ _ _ _ _ _ _ _ _ _ _ _ _ q1 q2 q3 q4))
theorem lw_k7 (C : lw_C p s m meth c b L xs D cy sa sv adc adr) (hi : i + 6 ≤ L) (k : lw_K p l e s m below meth c b D cy adc adr i 1241) : lw_K p l e s m below meth c b D cy adc adr i 401 := by
  intro E pg W U u r T n z e0 f0 st hf pf I J I2 J2 hc hr wc wr
  have hbo := bo_board (D := E) (pg := pg) (W := W) (U := U) (u := u) (s := r) (T := T) (n := n) (l := z) (e := e0) (f := f0) (st := st)  (n32x (xs (i + (1 + 0)))) (n32x (xs (i + (1 + 1))))
  exact lw_case C (n := 2) (Mc := ax_m134) (Mr := ax_m240) hbo (by decide) hi rfl rfl rfl rfl ⟨⟨rfl, rfl, rfl⟩, rfl⟩ ⟨⟨rfl, rfl, rfl⟩, rfl⟩ lw_o7 hc hr wc wr (fun hf' pf' I' J' I2' J2' q1 q2 q3 q4 => lw_cmpi C lw_ec7 (k _ _ _ _ _ _ _ _ _ _ _ _ _ _ _ _ _ _ q1 q2 q3 q4))
theorem lw_k8 (C : lw_C p s m meth c b L xs D cy sa sv adc adr) (hi : i + 6 ≤ L) (k : lw_K p l e s m below meth c b D cy adc adr i 1241) : lw_K p l e s m below meth c b D cy adc adr i 434 := by
  intro E pg W U u r T n z e0 f0 st hf pf I J I2 J2 hc hr wc wr
  have hbo := bo_glyph (D := E) (pg := pg) (W := W) (U := U) (u := u) (s := r) (T := T) (n := n) (l := z) (e := e0) (f := f0) (st := st)  (n32x (xs (i + (1 + 0)))) (n32x (xs (i + (1 + 1))))
  exact lw_case C (n := 2) (Mc := ax_m135) (Mr := ax_m242) hbo (by decide) hi rfl rfl rfl rfl ⟨⟨rfl, rfl, rfl⟩, rfl⟩ ⟨⟨rfl, rfl, rfl⟩, rfl⟩ lw_o8 hc hr wc wr (fun hf' pf' I' J' I2' J2' q1 q2 q3 q4 => lw_cmpi C lw_ec8 (k _ _ _ _ _ _ _ _ _ _ _ _ _ _ _ _ _ _ q1 q2 q3 q4))
theorem lw_k9 (C : lw_C p s m meth c b L xs D cy sa sv adc adr) (hi : i + 6 ≤ L) (k : lw_K p l e s m below meth c b D cy adc adr i 1241) : lw_K p l e s m below meth c b D cy adc adr i 467 := by
  intro E pg W U u r T n z e0 f0 st hf pf I J I2 J2 hc hr wc wr
  have hbo := bo_kept (D := E) (pg := pg) (W := W) (U := U) (u := u) (s := r) (T := T) (n := n) (l := z) (e := e0) (f := f0) (st := st)  (n32x (xs (i + (1 + 0)))) (n32x (xs (i + (1 + 1))))
  exact lw_case C (n := 2) (Mc := ax_m136) (Mr := ax_m243) hbo (by decide) hi rfl rfl rfl rfl ⟨⟨rfl, rfl, rfl⟩, rfl⟩ ⟨⟨rfl, rfl, rfl⟩, rfl⟩ lw_o9 hc hr wc wr (fun hf' pf' I' J' I2' J2' q1 q2 q3 q4 => lw_cmpi C lw_ec9 (k _ _ _ _ _ _ _ _ _ _ _ _ _ _ _ _ _ _ q1 q2 q3 q4))
theorem lw_k10 (C : lw_C p s m meth c b L xs D cy sa sv adc adr) (hi : i + 6 ≤ L) (k : lw_K p l e s m below meth c b D cy adc adr i 1241) : lw_K p l e s m below meth c b D cy adc adr i 500 := by
  intro E pg W U u r T n z e0 f0 st hf pf I J I2 J2 hc hr wc wr
  have hbo := bo_seen (D := E) (pg := pg) (W := W) (U := U) (u := u) (s := r) (T := T) (n := n) (l := z) (e := e0) (f := f0) (st := st)  (n32x (xs (i + (1 + 0)))) (n32x (xs (i + (1 + 1))))
  exact lw_case C (n := 2) (Mc := ax_m137) (Mr := ax_m244) hbo (by decide) hi rfl rfl rfl rfl ⟨⟨rfl, rfl, rfl⟩, rfl⟩ ⟨⟨rfl, rfl, rfl⟩, rfl⟩ lw_o10 hc hr wc wr (fun hf' pf' I' J' I2' J2' q1 q2 q3 q4 => lw_cmpi C lw_ec10 (k _ _ _ _ _ _ _ _ _ _ _ _ _ _ _ _ _ _ q1 q2 q3 q4))
theorem lw_k11 (C : lw_C p s m meth c b L xs D cy sa sv adc adr) (hi : i + 6 ≤ L) (k : lw_K p l e s m below meth c b D cy adc adr i 1241) : lw_K p l e s m below meth c b D cy adc adr i 533 := by
  intro E pg W U u r T n z e0 f0 st hf pf I J I2 J2 hc hr wc wr
  have hbo := bo_doubt (D := E) (pg := pg) (W := W) (U := U) (u := u) (s := r) (T := T) (n := n) (l := z) (e := e0) (f := f0) (st := st)  (n32x (xs (i + (1 + 0)))) (n32x (xs (i + (1 + 1)))) (n32x (xs (i + (1 + 2))))
  exact lw_case C (n := 3) (Mc := ax_m138) (Mr := ax_m245) hbo (by decide) hi rfl rfl rfl rfl ⟨⟨rfl, rfl, rfl⟩, rfl⟩ ⟨⟨rfl, rfl, rfl⟩, rfl⟩ lw_o11 hc hr wc wr (fun hf' pf' I' J' I2' J2' q1 q2 q3 q4 => lw_cmpl C lw_ec11 (k _ _ _ _ _ _ _ _ _ _ _ _ _ _ _ _ _ _ q1 q2 q3 q4))
theorem lw_k12 (C : lw_C p s m meth c b L xs D cy sa sv adc adr) (hi : i + 6 ≤ L) (k : lw_K p l e s m below meth c b D cy adc adr i 1241) : lw_K p l e s m below meth c b D cy adc adr i 577 := by
  intro E pg W U u r T n z e0 f0 st hf pf I J I2 J2 hc hr wc wr
  have hbo := bo_reads (D := E) (pg := pg) (W := W) (U := U) (u := u) (s := r) (T := T) (n := n) (l := z) (e := e0) (f := f0) (st := st)  (n32x (xs (i + (1 + 0)))) (n32x (xs (i + (1 + 1)))) (n32x (xs (i + (1 + 2))))
  exact lw_case C (n := 3) (Mc := ax_m139) (Mr := ax_m246) hbo (by decide) hi rfl rfl rfl rfl ⟨⟨rfl, rfl, rfl⟩, rfl⟩ ⟨⟨rfl, rfl, rfl⟩, rfl⟩ lw_o12 hc hr wc wr (fun hf' pf' I' J' I2' J2' q1 q2 q3 q4 => lw_cmpi C lw_ec12 (k _ _ _ _ _ _ _ _ _ _ _ _ _ _ _ _ _ _ q1 q2 q3 q4))
theorem lw_k13 (C : lw_C p s m meth c b L xs D cy sa sv adc adr) (hi : i + 6 ≤ L) (k : lw_K p l e s m below meth c b D cy adc adr i 1241) : lw_K p l e s m below meth c b D cy adc adr i 620 := by
  intro E pg W U u r T n z e0 f0 st hf pf I J I2 J2 hc hr wc wr
  have hbo := bo_says (D := E) (pg := pg) (W := W) (U := U) (u := u) (s := r) (T := T) (n := n) (l := z) (e := e0) (f := f0) (st := st)  (n32x (xs (i + (1 + 0)))) (n32x (xs (i + (1 + 1)))) (n32x (xs (i + (1 + 2)))) (n32x (xs (i + (1 + 3))))
  exact lw_case C (n := 4) (Mc := ax_m140) (Mr := ax_m247) hbo (by decide) hi rfl rfl rfl rfl ⟨⟨rfl, rfl, rfl⟩, rfl⟩ ⟨⟨rfl, rfl, rfl⟩, rfl⟩ lw_o13 hc hr wc wr (fun hf' pf' I' J' I2' J2' q1 q2 q3 q4 => lw_cmpi C lw_ec13 (k _ _ _ _ _ _ _ _ _ _ _ _ _ _ _ _ _ _ q1 q2 q3 q4))
theorem lw_k14 (C : lw_C p s m meth c b L xs D cy sa sv adc adr) (hi : i + 6 ≤ L) (k : lw_K p l e s m below meth c b D cy adc adr i 1241) : lw_K p l e s m below meth c b D cy adc adr i 673 := by
  intro E pg W U u r T n z e0 f0 st hf pf I J I2 J2 hc hr wc wr
  have hbo := bo_becomes (D := E) (pg := pg) (W := W) (U := U) (u := u) (s := r) (T := T) (n := n) (l := z) (e := e0) (f := f0) (st := st)  (n32x (xs (i + (1 + 0)))) (n32x (xs (i + (1 + 1)))) (n32x (xs (i + (1 + 2))))
  exact lw_case C (n := 3) (Mc := ax_m141) (Mr := ax_m249) hbo (by decide) hi rfl rfl rfl rfl ⟨⟨rfl, rfl, rfl⟩, rfl⟩ ⟨⟨rfl, rfl, rfl⟩, rfl⟩ lw_o14 hc hr wc wr (fun hf' pf' I' J' I2' J2' q1 q2 q3 q4 => lw_cmpi C lw_ec14 (k _ _ _ _ _ _ _ _ _ _ _ _ _ _ _ _ _ _ q1 q2 q3 q4))
theorem lw_k15 (C : lw_C p s m meth c b L xs D cy sa sv adc adr) (hi : i + 6 ≤ L) (k : lw_K p l e s m below meth c b D cy adc adr i 1241) : lw_K p l e s m below meth c b D cy adc adr i 716 := by
  intro E pg W U u r T n z e0 f0 st hf pf I J I2 J2 hc hr wc wr
  have hbo := bo_line (D := E) (pg := pg) (W := W) (U := U) (u := u) (s := r) (T := T) (n := n) (l := z) (e := e0) (f := f0) (st := st)  (n32x (xs (i + (1 + 0)))) (n32x (xs (i + (1 + 1)))) (n32x (xs (i + (1 + 2)))) (n32x (xs (i + (1 + 3))))
  exact lw_case C (n := 4) (Mc := ax_m142) (Mr := ax_m257) hbo (by decide) hi rfl rfl rfl rfl ⟨⟨rfl, rfl, rfl⟩, rfl⟩ ⟨⟨rfl, rfl, rfl⟩, rfl⟩ lw_o15 hc hr wc wr (fun hf' pf' I' J' I2' J2' q1 q2 q3 q4 => lw_cmpi C lw_ec15 (k _ _ _ _ _ _ _ _ _ _ _ _ _ _ _ _ _ _ q1 q2 q3 q4))
theorem lw_k16 (C : lw_C p s m meth c b L xs D cy sa sv adc adr) (hi : i + 6 ≤ L) (k : lw_K p l e s m below meth c b D cy adc adr i 1241) : lw_K p l e s m below meth c b D cy adc adr i 769 := by
  intro E pg W U u r T n z e0 f0 st hf pf I J I2 J2 hc hr wc wr
  have hbo := bo_piece (D := E) (pg := pg) (W := W) (U := U) (u := u) (s := r) (T := T) (n := n) (l := z) (e := e0) (f := f0) (st := st)  (n32x (xs (i + (1 + 0)))) (n32x (xs (i + (1 + 1)))) (n32x (xs (i + (1 + 2)))) (n32x (xs (i + (1 + 3)))) (n32x (xs (i + (1 + 4))))
  exact lw_case C (n := 5) (Mc := ax_m143) (Mr := ax_m258) hbo (by decide) hi rfl rfl rfl rfl ⟨⟨rfl, rfl, rfl⟩, rfl⟩ ⟨⟨rfl, rfl, rfl⟩, rfl⟩ lw_o16 hc hr wc wr (fun hf' pf' I' J' I2' J2' q1 q2 q3 q4 => lw_cmpi C lw_ec16 (k _ _ _ _ _ _ _ _ _ _ _ _ _ _ _ _ _ _ q1 q2 q3 q4))
theorem lw_k17 (C : lw_C p s m meth c b L xs D cy sa sv adc adr) (hi : i + 6 ≤ L) (k : lw_K p l e s m below meth c b D cy adc adr i 1241) : lw_K p l e s m below meth c b D cy adc adr i 832 := by
  intro E pg W U u r T n z e0 f0 st hf pf I J I2 J2 hc hr wc wr
  have hbo := bo_best (D := E) (pg := pg) (W := W) (U := U) (u := u) (s := r) (T := T) (n := n) (l := z) (e := e0) (f := f0) (st := st)  (n32x (xs (i + (1 + 0))))
  exact lw_case C (n := 1) (Mc := ax_m144) (Mr := ax_m259) hbo (by decide) hi rfl rfl rfl rfl ⟨⟨rfl, rfl, rfl⟩, rfl⟩ ⟨⟨rfl, rfl, rfl⟩, rfl⟩ lw_o17 hc hr wc wr (fun hf' pf' I' J' I2' J2' q1 q2 q3 q4 => lw_cmpi C lw_ec17 (k _ _ _ _ _ _ _ _ _ _ _ _ _ _ _ _ _ _ q1 q2 q3 q4))
theorem lw_k18 (C : lw_C p s m meth c b L xs D cy sa sv adc adr) (hi : i + 6 ≤ L) (k : lw_K p l e s m below meth c b D cy adc adr i 1241) : lw_K p l e s m below meth c b D cy adc adr i 855 := by
  intro E pg W U u r T n z e0 f0 st hf pf I J I2 J2 hc hr wc wr
  have hbo := bo_hand (D := E) (pg := pg) (W := W) (U := U) (u := u) (s := r) (T := T) (n := n) (l := z) (e := e0) (f := f0) (st := st)  (n32x (xs (i + (1 + 0)))) (n32x (xs (i + (1 + 1))))
  exact lw_case C (n := 2) (Mc := ax_m145) (Mr := ax_m260) hbo (by decide) hi rfl rfl rfl rfl ⟨⟨rfl, rfl, rfl⟩, rfl⟩ ⟨⟨rfl, rfl, rfl⟩, rfl⟩ lw_o18 hc hr wc wr (fun hf' pf' I' J' I2' J2' q1 q2 q3 q4 => lw_cmpi C lw_ec18 (k _ _ _ _ _ _ _ _ _ _ _ _ _ _ _ _ _ _ q1 q2 q3 q4))
theorem lw_k19 (C : lw_C p s m meth c b L xs D cy sa sv adc adr) (hi : i + 6 ≤ L) (k : lw_K p l e s m below meth c b D cy adc adr i 1241) : lw_K p l e s m below meth c b D cy adc adr i 888 := by
  intro E pg W U u r T n z e0 f0 st hf pf I J I2 J2 hc hr wc wr
  have hbo := bo_been (D := E) (pg := pg) (W := W) (U := U) (u := u) (s := r) (T := T) (n := n) (l := z) (e := e0) (f := f0) (st := st)  (n32x (xs (i + (1 + 0))))
  exact lw_case C (n := 1) (Mc := ax_m146) (Mr := ax_m262) hbo (by decide) hi rfl rfl rfl rfl ⟨⟨rfl, rfl, rfl⟩, rfl⟩ ⟨⟨rfl, rfl, rfl⟩, rfl⟩ lw_o19 hc hr wc wr (fun hf' pf' I' J' I2' J2' q1 q2 q3 q4 => lw_cmpi C lw_ec19 (k _ _ _ _ _ _ _ _ _ _ _ _ _ _ _ _ _ _ q1 q2 q3 q4))
theorem lw_k20 (C : lw_C p s m meth c b L xs D cy sa sv adc adr) (hi : i + 6 ≤ L) (k : lw_K p l e s m below meth c b D cy adc adr i 1241) : lw_K p l e s m below meth c b D cy adc adr i 911 := by
  intro E pg W U u r T n z e0 f0 st hf pf I J I2 J2 hc hr wc wr
  have hbo := bo_lasts (D := E) (pg := pg) (W := W) (U := U) (u := u) (s := r) (T := T) (n := n) (l := z) (e := e0) (f := f0) (st := st)  (n32x (xs (i + (1 + 0))))
  exact lw_case C (n := 1) (Mc := ax_m147) (Mr := ax_m264) hbo (by decide) hi rfl rfl rfl rfl ⟨⟨rfl, rfl, rfl⟩, rfl⟩ ⟨⟨rfl, rfl, rfl⟩, rfl⟩ lw_o20 hc hr wc wr (fun hf' pf' I' J' I2' J2' q1 q2 q3 q4 => lw_cmpi C lw_ec20 (k _ _ _ _ _ _ _ _ _ _ _ _ _ _ _ _ _ _ q1 q2 q3 q4))
theorem lw_k21 (C : lw_C p s m meth c b L xs D cy sa sv adc adr) (hi : i + 6 ≤ L) (k : lw_K p l e s m below meth c b D cy adc adr i 1241) : lw_K p l e s m below meth c b D cy adc adr i 934 := by
  intro E pg W U u r T n z e0 f0 st hf pf I J I2 J2 hc hr wc wr
  have hbo := bo_mend (D := E) (pg := pg) (W := W) (U := U) (u := u) (s := r) (T := T) (n := n) (l := z) (e := e0) (f := f0) (st := st)  (n32x (xs (i + (1 + 0)))) (n32x (xs (i + (1 + 1)))) (n32x (xs (i + (1 + 2))))
  exact lw_case C (n := 3) (Mc := ax_m148) (Mr := ax_m265) hbo (by decide) hi rfl rfl rfl rfl ⟨⟨rfl, rfl, rfl⟩, rfl⟩ ⟨⟨rfl, rfl, rfl⟩, rfl⟩ lw_o21 hc hr wc wr (fun hf' pf' I' J' I2' J2' q1 q2 q3 q4 => lw_cmpi C lw_ec21 (k _ _ _ _ _ _ _ _ _ _ _ _ _ _ _ _ _ _ q1 q2 q3 q4))
theorem lw_k22 (C : lw_C p s m meth c b L xs D cy sa sv adc adr) (hi : i + 6 ≤ L) (k : lw_K p l e s m below meth c b D cy adc adr i 1241) : lw_K p l e s m below meth c b D cy adc adr i 977 := by
  intro E pg W U u r T n z e0 f0 st hf pf I J I2 J2 hc hr wc wr
  obtain ⟨x, E1, pg1, W1, U1, u1, r1, T1, n1, z1, e1, f1, st1, hbo⟩ := bo_years (D := E) (pg := pg) (W := W) (U := U) (u := u) (s := r) (T := T) (n := n) (l := z) (e := e0) (f := f0) (st := st)  (n32x (xs (i + (1 + 0))))
  exact lw_case C (n := 1) (Mc := ax_m149) (Mr := ax_m269) hbo (by decide) hi rfl rfl rfl rfl ⟨⟨rfl, rfl, rfl⟩, rfl⟩ ⟨⟨rfl, rfl, rfl⟩, rfl⟩ lw_o22 hc hr wc wr (fun hf' pf' I' J' I2' J2' q1 q2 q3 q4 => lw_cmpi C lw_ec22 (k _ _ _ _ _ _ _ _ _ _ _ _ _ _ _ _ _ _ q1 q2 q3 q4))
theorem lw_k23 (C : lw_C p s m meth c b L xs D cy sa sv adc adr) (hi : i + 6 ≤ L) (k : lw_K p l e s m below meth c b D cy adc adr i 1241) : lw_K p l e s m below meth c b D cy adc adr i 1000 := by
  intro E pg W U u r T n z e0 f0 st hf pf I J I2 J2 hc hr wc wr
  obtain ⟨x, E1, pg1, W1, U1, u1, r1, T1, n1, z1, e1, f1, st1, hbo⟩ := bo_chance (D := E) (pg := pg) (W := W) (U := U) (u := u) (s := r) (T := T) (n := n) (l := z) (e := e0) (f := f0) (st := st)  (n32x (xs (i + (1 + 0))))
  exact lw_case C (n := 1) (Mc := ax_m150) (Mr := ax_m273) hbo (by decide) hi rfl rfl rfl rfl ⟨⟨rfl, rfl, rfl⟩, rfl⟩ ⟨⟨rfl, rfl, rfl⟩, rfl⟩ lw_o23 hc hr wc wr (fun hf' pf' I' J' I2' J2' q1 q2 q3 q4 => lw_cmpi C lw_ec23 (k _ _ _ _ _ _ _ _ _ _ _ _ _ _ _ _ _ _ q1 q2 q3 q4))
theorem lw_k24 (C : lw_C p s m meth c b L xs D cy sa sv adc adr) (hi : i + 6 ≤ L) (k : lw_K p l e s m below meth c b D cy adc adr i 1241) : lw_K p l e s m below meth c b D cy adc adr i 1023 := by
  intro E pg W U u r T n z e0 f0 st hf pf I J I2 J2 hc hr wc wr
  obtain ⟨x, E1, pg1, W1, U1, u1, r1, T1, n1, z1, e1, f1, st1, hbo⟩ := bo_stroke (D := E) (pg := pg) (W := W) (U := U) (u := u) (s := r) (T := T) (n := n) (l := z) (e := e0) (f := f0) (st := st)  (n32x (xs (i + (1 + 0)))) (n32x (xs (i + (1 + 1)))) (n32x (xs (i + (1 + 2)))) (n32x (xs (i + (1 + 3))))
  exact lw_case C (n := 4) (Mc := ax_m151) (Mr := ax_m275) hbo (by decide) hi rfl rfl rfl rfl ⟨⟨rfl, rfl, rfl⟩, rfl⟩ ⟨⟨rfl, rfl, rfl⟩, rfl⟩ lw_o24 hc hr wc wr (fun hf' pf' I' J' I2' J2' q1 q2 q3 q4 => lw_cmpi C lw_ec24 (k _ _ _ _ _ _ _ _ _ _ _ _ _ _ _ _ _ _ q1 q2 q3 q4))
theorem lw_k25 (C : lw_C p s m meth c b L xs D cy sa sv adc adr) (hi : i + 6 ≤ L) (k : lw_K p l e s m below meth c b D cy adc adr i 1241) : lw_K p l e s m below meth c b D cy adc adr i 1076 := by
  intro E pg W U u r T n z e0 f0 st hf pf I J I2 J2 hc hr wc wr
  obtain ⟨x, E1, pg1, W1, U1, u1, r1, T1, n1, z1, e1, f1, st1, hbo⟩ := bo_paint (D := E) (pg := pg) (W := W) (U := U) (u := u) (s := r) (T := T) (n := n) (l := z) (e := e0) (f := f0) (st := st)  (n32x (xs (i + (1 + 0)))) (n32x (xs (i + (1 + 1)))) (n32x (xs (i + (1 + 2))))
  exact lw_case C (n := 3) (Mc := ax_m152) (Mr := ax_m276) hbo (by decide) hi rfl rfl rfl rfl ⟨⟨rfl, rfl, rfl⟩, rfl⟩ ⟨⟨rfl, rfl, rfl⟩, rfl⟩ lw_o25 hc hr wc wr (fun hf' pf' I' J' I2' J2' q1 q2 q3 q4 => lw_cmpi C lw_ec25 (k _ _ _ _ _ _ _ _ _ _ _ _ _ _ _ _ _ _ q1 q2 q3 q4))
theorem lw_k26 (C : lw_C p s m meth c b L xs D cy sa sv adc adr) (hi : i + 6 ≤ L) (k : lw_K p l e s m below meth c b D cy adc adr i 1241) : lw_K p l e s m below meth c b D cy adc adr i 1119 := by
  intro E pg W U u r T n z e0 f0 st hf pf I J I2 J2 hc hr wc wr
  obtain ⟨x, E1, pg1, W1, U1, u1, r1, T1, n1, z1, e1, f1, st1, hbo⟩ := bo_undo (D := E) (pg := pg) (W := W) (U := U) (u := u) (s := r) (T := T) (n := n) (l := z) (e := e0) (f := f0) (st := st)  
  exact lw_case C (n := 0) (Mc := ax_m153) (Mr := ax_m267) hbo (by decide) hi rfl rfl rfl rfl ⟨⟨rfl, rfl, rfl⟩, rfl⟩ ⟨⟨rfl, rfl, rfl⟩, rfl⟩ lw_o26 hc hr wc wr (fun hf' pf' I' J' I2' J2' q1 q2 q3 q4 => lw_cmpi C lw_ec26 (k _ _ _ _ _ _ _ _ _ _ _ _ _ _ _ _ _ _ q1 q2 q3 q4))
theorem lw_k27 (C : lw_C p s m meth c b L xs D cy sa sv adc adr) (hi : i + 6 ≤ L) (k : lw_K p l e s m below meth c b D cy adc adr i 1241) : lw_K p l e s m below meth c b D cy adc adr i 1132 := by
  intro E pg W U u r T n z e0 f0 st hf pf I J I2 J2 hc hr wc wr
  obtain ⟨x, E1, pg1, W1, U1, u1, r1, T1, n1, z1, e1, f1, st1, hbo⟩ := bo_seed (D := E) (pg := pg) (W := W) (U := U) (u := u) (s := r) (T := T) (n := n) (l := z) (e := e0) (f := f0) (st := st)  (n32x (xs (i + (1 + 0))))
  exact lw_case C (n := 1) (Mc := ax_m154) (Mr := ax_m270) hbo (by decide) hi rfl rfl rfl rfl ⟨⟨rfl, rfl, rfl⟩, rfl⟩ ⟨⟨rfl, rfl, rfl⟩, rfl⟩ lw_o27 hc hr wc wr (fun hf' pf' I' J' I2' J2' q1 q2 q3 q4 => lw_cmpi C lw_ec27 (k _ _ _ _ _ _ _ _ _ _ _ _ _ _ _ _ _ _ q1 q2 q3 q4))
theorem lw_k28 (C : lw_C p s m meth c b L xs D cy sa sv adc adr) (hi : i + 6 ≤ L) (k : lw_K p l e s m below meth c b D cy adc adr i 1241) : lw_K p l e s m below meth c b D cy adc adr i 1155 := by
  intro E pg W U u r T n z e0 f0 st hf pf I J I2 J2 hc hr wc wr
  obtain ⟨x, E1, pg1, W1, U1, u1, r1, T1, n1, z1, e1, f1, st1, hbo⟩ := bo_ask (D := E) (pg := pg) (W := W) (U := U) (u := u) (s := r) (T := T) (n := n) (l := z) (e := e0) (f := f0) (st := st)  
  exact lw_case C (n := 0) (Mc := ax_m155) (Mr := ax_m305) hbo (by decide) hi rfl rfl rfl rfl ⟨⟨rfl, rfl, rfl⟩, rfl⟩ ⟨⟨rfl, rfl, rfl⟩, rfl⟩ lw_o28 hc hr wc wr (fun hf' pf' I' J' I2' J2' q1 q2 q3 q4 => lw_cmpl C lw_ec28 (k _ _ _ _ _ _ _ _ _ _ _ _ _ _ _ _ _ _ q1 q2 q3 q4))
theorem lw_k29 (C : lw_C p s m meth c b L xs D cy sa sv adc adr) (hi : i + 6 ≤ L) (k : lw_K p l e s m below meth c b D cy adc adr i 1241) : lw_K p l e s m below meth c b D cy adc adr i 1169 := by
  intro E pg W U u r T n z e0 f0 st hf pf I J I2 J2 hc hr wc wr
  have hbo := bo_image (D := E) (pg := pg) (W := W) (U := U) (u := u) (s := r) (T := T) (n := n) (l := z) (e := e0) (f := f0) (st := st)  
  exact lw_case C (n := 0) (Mc := ax_m156) (Mr := ax_m309) hbo (by decide) hi rfl rfl rfl rfl ⟨⟨rfl, rfl, rfl⟩, rfl⟩ ⟨⟨rfl, rfl, rfl⟩, rfl⟩ lw_o29 hc hr wc wr (fun hf' pf' I' J' I2' J2' q1 q2 q3 q4 => lw_cmpi C lw_ec29 (k _ _ _ _ _ _ _ _ _ _ _ _ _ _ _ _ _ _ q1 q2 q3 q4))
theorem lw_k30 (C : lw_C p s m meth c b L xs D cy sa sv adc adr) (hi : i + 6 ≤ L) (k : lw_K p l e s m below meth c b D cy adc adr i 1241) : lw_K p l e s m below meth c b D cy adc adr i 1182 := by
  intro E pg W U u r T n z e0 f0 st hf pf I J I2 J2 hc hr wc wr
  have hbo := bo_octet (D := E) (pg := pg) (W := W) (U := U) (u := u) (s := r) (T := T) (n := n) (l := z) (e := e0) (f := f0) (st := st)  (n32x (xs (i + (1 + 0))))
  exact lw_case C (n := 1) (Mc := ax_m157) (Mr := ax_m310) hbo (by decide) hi rfl rfl rfl rfl ⟨⟨rfl, rfl, rfl⟩, rfl⟩ ⟨⟨rfl, rfl, rfl⟩, rfl⟩ lw_o30 hc hr wc wr (fun hf' pf' I' J' I2' J2' q1 q2 q3 q4 => lw_cmpi C lw_ec30 (k _ _ _ _ _ _ _ _ _ _ _ _ _ _ _ _ _ _ q1 q2 q3 q4))
theorem lw_k31 (C : lw_C p s m meth c b L xs D cy sa sv adc adr) (hi : i + 6 ≤ L) (k : lw_K p l e s m below meth c b D cy adc adr i 1241) : lw_K p l e s m below meth c b D cy adc adr i 1205 := by
  intro E pg W U u r T n z e0 f0 st hf pf I J I2 J2 hc hr wc wr
  obtain ⟨x, E1, pg1, W1, U1, u1, r1, T1, n1, z1, e1, f1, st1, hbo⟩ := bo_on (D := E) (pg := pg) (W := W) (U := U) (u := u) (s := r) (T := T) (n := n) (l := z) (e := e0) (f := f0) (st := st)  
  exact lw_case C (n := 0) (Mc := ax_m158) (Mr := ax_m314) hbo (by decide) hi rfl rfl rfl rfl ⟨⟨rfl, rfl, rfl⟩, rfl⟩ ⟨⟨rfl, rfl, rfl⟩, rfl⟩ lw_o31 hc hr wc wr (fun hf' pf' I' J' I2' J2' q1 q2 q3 q4 => lw_cmpi C lw_ec31 (k _ _ _ _ _ _ _ _ _ _ _ _ _ _ _ _ _ _ q1 q2 q3 q4))
theorem lw_k32 (C : lw_C p s m meth c b L xs D cy sa sv adc adr) (hi : i + 6 ≤ L) (k : lw_K p l e s m below meth c b D cy adc adr i 1241) : lw_K p l e s m below meth c b D cy adc adr i 1218 := by
  intro E pg W U u r T n z e0 f0 st hf pf I J I2 J2 hc hr wc wr
  have hbo := bo_status (D := E) (pg := pg) (W := W) (U := U) (u := u) (s := r) (T := T) (n := n) (l := z) (e := e0) (f := f0) (st := st)  (n32x (xs (i + (1 + 0))))
  exact lw_case C (n := 1) (Mc := ax_m159) (Mr := ax_m315) hbo (by decide) hi rfl rfl rfl rfl ⟨⟨rfl, rfl, rfl⟩, rfl⟩ ⟨⟨rfl, rfl, rfl⟩, rfl⟩ lw_o32 hc hr wc wr (fun hf' pf' I' J' I2' J2' q1 q2 q3 q4 => lw_cmpi C lw_ec32 (k _ _ _ _ _ _ _ _ _ _ _ _ _ _ _ _ _ _ q1 q2 q3 q4))
end LWK
