/-! THE LAW: one operation, and the loop (printed by gen_law.py) -/
def lw_ok (pc n ix ir : Nat) : Bool := decide (decode code pc = .ok (.aload_n 1, 1)) && lw_ga (pc + 1) n && decide (decode code (pc + 1 + 5 * n) = .ok (.invokevirtual ix, 3)) && decide (decode code (pc + 1 + 5 * n + 3) = .ok (.aload_n 2, 1)) && lw_ga (pc + 1 + 5 * n + 3 + 1) n && decide (decode code (pc + 1 + 5 * n + 3 + 1 + 5 * n) = .ok (.invokevirtual ir, 3))
def lw_oi (q : Nat) : Bool := decide (decode code q = .ok (.if_icmp .eq (1241 - (q : Int)), 3))
def lw_ol (q : Nat) : Bool := decide (decode code q = .ok (.lcmp, 1)) && decide (decode code (q + 1) = .ok (.ifCond .eq (1241 - ((q + 1 : Nat) : Int)), 3))
def lw_qe (pc n : Nat) : Nat := pc + 1 + 5 * n + 3 + 1 + 5 * n + 3
theorem lw_xz {xs : Nat → Int32} {i n : Nat} {ad : Nat → Nat} : ((List.range n).map (fun j => (.inl (xs (i + (1 + j))).toInt : ax_v))).map (ax_z ad) = (List.range n).map (fun j => Value.int (xs (i + (1 + j)))) := by
  rw [List.map_map]
  refine List.map_congr_left (fun j _ => ?_)
  show Value.int (Int32.ofInt (xs (i + (1 + j))).toInt) = _
  rw [Int32.ofInt_toInt]
theorem n32x (v : Int32) : n32 v.toInt := ⟨Int32.le_toInt v, Int32.toInt_lt v⟩
section LWO
variable {p : Program} {l : Launch} {e : Env} {s : State} {m : MethodId} {below : List Frame} {meth : Method} {c : Code} {b L : Nat} {xs : Nat → Int32} {D : va_G} {cy : Nat → ClassId} {sa sv adc adr : Nat → Nat} {i pc : Nat}
set_option maxHeartbeats 1000000 in
theorem lw_case (C : lw_C p s m meth c b L xs D cy sa sv adc adr) {mr mc ix ir n : Nat} {x : ax_v} {A B : zP} (hbo : bo mr mc ((List.range n).map (fun j => .inl (xs (i + (1 + j))).toInt)) x A B) (hn : n ≤ 5) (hi : i + 6 ≤ L) (h1 : ax_mr 13 ix = some (mc, false)) (h2 : ax_mr 13 ir = some (mr, false)) {Mc Mr : ax_M} (hMc : ax_T[mc]? = some Mc) (hMr : ax_T[mr]? = some Mr) (fc : (n + 1 = Mc.2.1 ∧ Mc.2.2.2.2.2.1 = false ∧ Mc.2.2.2.2.1 = false) ∧ 11 = Mc.1) (fr : (n + 1 = Mr.2.1 ∧ Mr.2.2.2.2.2.1 = false ∧ Mr.2.2.2.2.1 = false) ∧ 12 = Mr.1)
    (hok : lw_ok pc n ix ir = true) {hf pf : Nat} {I J I2 J2 : zF} (hc : A.2 hf pf I J) (hr : A.1 I2 J2) (wc : ax_wf (zc_S hf pf I J)) (wr : ax_wf (zr_S I2 J2))
    (k : ∀ hf' pf' I' J' I2' J2', B.2 hf' pf' I' J' → B.1 I2' J2' → ax_wf (zc_S hf' pf' I' J') → ax_wf (zr_S I2' J2') → lw_W p l e s m below meth c b D cy adc adr i (lw_qe pc n) [ax_z adr x, ax_z adc x] (zc_S hf' pf' I' J') (zr_S I2' J2')) :
    lw_W p l e s m below meth c b D cy adc adr i pc [] (zc_S hf pf I J) (zr_S I2 J2) := by
  unfold lw_ok at hok
  simp only [Bool.and_eq_true, decide_eq_true_eq] at hok
  obtain ⟨⟨⟨⟨⟨d0, d1⟩, d2⟩, d3⟩, d4⟩, d5⟩ := hok
  obtain ⟨v, s1, hC, ev, hf', pf', I', J', es, hB⟩ := hbo.2 hf pf I J hc
  obtain ⟨v2, s2, hC2, ev2, I2', J2', es2, hB2⟩ := hbo.1 I2 J2 hr
  subst ev; subst es; subst ev2; subst es2
  have wc' := (ax_C_le 50 mc _ _ _ _ hC).2.2 wc
  have wr' := (ax_C_le 50 mr _ _ _ _ hC2).2.2 wr
  have hcat : ([ax_z adc x].map fun v => v.category).sum ≤ 8 := by
    show ((ax_z adc x).category + 0) ≤ 8
    rw [ax_zcat]
    unfold ax_cat
    split <;> decide
  refine lw_1 C d0 (lw_args C n (by omega) d1 (lw_callC C (rest := []) hC wc rfl rfl h1 hMc ?_ fc.1.2.1 fc.1.2.2 (Nat.le_of_ble_eq_true rfl) fc.2 d2 ?_ (Nat.zero_le 8) (lw_2 C d3 (lw_args C n (by omega) d4 (lw_callR C (rest := [ax_z adc x]) hC2 wr rfl rfl h2 hMr ?_ fr.1.2.1 fr.1.2.2 (Nat.le_of_ble_eq_true rfl) fr.2 d5 ?_ hcat (k hf' pf' I' J' I2' J2' hB hB2 wc' wr'))))))
  · rw [List.length_map, List.length_range]; exact fc.1.1
  · rw [lw_xz]
  · rw [List.length_map, List.length_range]; exact fr.1.1
  · rw [lw_xz]
theorem lw_cmpi (C : lw_C p s m meth c b L xs D cy sa sv adc adr) {sc sr : ax_S} {x : Int} (h : lw_oi pc = true) (k : lw_W p l e s m below meth c b D cy adc adr i 1241 [] sc sr) : lw_W p l e s m below meth c b D cy adc adr i pc [ax_z adr (.inl x), ax_z adc (.inl x)] sc sr := by
  intro H locs ls hl hP hD hS
  exact lv_icmp_eq C.1 C.2.1 (of_decide_eq_true h) (tgt := 1241) (by omega) (fun _ => k H locs ls hl hP hD hS) (fun q => absurd rfl q)
theorem lw_cmpl (C : lw_C p s m meth c b L xs D cy sa sv adc adr) {sc sr : ax_S} {x : Int} (h : lw_ol pc = true) (k : lw_W p l e s m below meth c b D cy adc adr i 1241 [] sc sr) : lw_W p l e s m below meth c b D cy adc adr i pc [ax_z adr (.inr (.inl x)), ax_z adc (.inr (.inl x))] sc sr := by
  intro H locs ls hl hP hD hS
  unfold lw_ol at h
  simp only [Bool.and_eq_true, decide_eq_true_eq] at h
  refine W.lcmp C.1 C.2.1 (x := Int64.ofInt x) (y := Int64.ofInt x) h.1 ?_
  have e0 : lg_cmp (Int64.ofInt x) (Int64.ofInt x) = 0 := by
    rw [ax_lcmp_ok]
    unfold ax_lcmp
    rw [if_neg (Int.lt_irrefl _), if_pos rfl]
    rfl
  rw [e0]
  exact lv_if_eq C.1 C.2.1 h.2 (tgt := 1241) (by omega) (fun _ => k H locs ls hl hP hD hS) (fun q => absurd rfl q)
end LWO
set_option maxRecDepth 100000 in
theorem lw_o0 : lw_ok 180 5 13 17 = true := by decide +kernel
set_option maxRecDepth 100000 in
theorem lw_ec0 : lw_oi (lw_qe 180 5) = true := by decide +kernel
set_option maxRecDepth 100000 in
theorem lw_o1 : lw_ok 243 1 18 22 = true := by decide +kernel
set_option maxRecDepth 100000 in
theorem lw_ec1 : lw_oi (lw_qe 243 1) = true := by decide +kernel
set_option maxRecDepth 100000 in
theorem lw_o2 : lw_ok 266 0 23 27 = true := by decide +kernel
set_option maxRecDepth 100000 in
theorem lw_ec2 : lw_oi (lw_qe 266 0) = true := by decide +kernel
set_option maxRecDepth 100000 in
theorem lw_o3 : lw_ok 279 1 28 32 = true := by decide +kernel
set_option maxRecDepth 100000 in
theorem lw_ec3 : lw_oi (lw_qe 279 1) = true := by decide +kernel
set_option maxRecDepth 100000 in
theorem lw_o4 : lw_ok 302 1 33 36 = true := by decide +kernel
set_option maxRecDepth 100000 in
theorem lw_ec4 : lw_oi (lw_qe 302 1) = true := by decide +kernel
set_option maxRecDepth 100000 in
theorem lw_o5 : lw_ok 325 3 37 41 = true := by decide +kernel
set_option maxRecDepth 100000 in
theorem lw_ec5 : lw_oi (lw_qe 325 3) = true := by decide +kernel
set_option maxRecDepth 100000 in
theorem lw_o6 : lw_ok 368 2 42 46 = true := by decide +kernel
set_option maxRecDepth 100000 in
theorem lw_ec6 : lw_oi (lw_qe 368 2) = true := by decide +kernel
set_option maxRecDepth 100000 in
theorem lw_o7 : lw_ok 401 2 47 50 = true := by decide +kernel
set_option maxRecDepth 100000 in
theorem lw_ec7 : lw_oi (lw_qe 401 2) = true := by decide +kernel
set_option maxRecDepth 100000 in
theorem lw_o8 : lw_ok 434 2 51 54 = true := by decide +kernel
set_option maxRecDepth 100000 in
theorem lw_ec8 : lw_oi (lw_qe 434 2) = true := by decide +kernel
set_option maxRecDepth 100000 in
theorem lw_o9 : lw_ok 467 2 55 58 = true := by decide +kernel
set_option maxRecDepth 100000 in
theorem lw_ec9 : lw_oi (lw_qe 467 2) = true := by decide +kernel
set_option maxRecDepth 100000 in
theorem lw_o10 : lw_ok 500 2 59 62 = true := by decide +kernel
set_option maxRecDepth 100000 in
theorem lw_ec10 : lw_oi (lw_qe 500 2) = true := by decide +kernel
set_option maxRecDepth 100000 in
theorem lw_o11 : lw_ok 533 3 63 67 = true := by decide +kernel
set_option maxRecDepth 100000 in
theorem lw_ec11 : lw_ol (lw_qe 533 3) = true := by decide +kernel
set_option maxRecDepth 100000 in
theorem lw_o12 : lw_ok 577 3 68 71 = true := by decide +kernel
set_option maxRecDepth 100000 in
theorem lw_ec12 : lw_oi (lw_qe 577 3) = true := by decide +kernel
set_option maxRecDepth 100000 in
theorem lw_o13 : lw_ok 620 4 72 76 = true := by decide +kernel
set_option maxRecDepth 100000 in
theorem lw_ec13 : lw_oi (lw_qe 620 4) = true := by decide +kernel
set_option maxRecDepth 100000 in
theorem lw_o14 : lw_ok 673 3 77 80 = true := by decide +kernel
set_option maxRecDepth 100000 in
theorem lw_ec14 : lw_oi (lw_qe 673 3) = true := by decide +kernel
set_option maxRecDepth 100000 in
theorem lw_o15 : lw_ok 716 4 81 84 = true := by decide +kernel
set_option maxRecDepth 100000 in
theorem lw_ec15 : lw_oi (lw_qe 716 4) = true := by decide +kernel
set_option maxRecDepth 100000 in
theorem lw_o16 : lw_ok 769 5 85 88 = true := by decide +kernel
set_option maxRecDepth 100000 in
theorem lw_ec16 : lw_oi (lw_qe 769 5) = true := by decide +kernel
set_option maxRecDepth 100000 in
theorem lw_o17 : lw_ok 832 1 89 92 = true := by decide +kernel
set_option maxRecDepth 100000 in
theorem lw_ec17 : lw_oi (lw_qe 832 1) = true := by decide +kernel
set_option maxRecDepth 100000 in
theorem lw_o18 : lw_ok 855 2 93 96 = true := by decide +kernel
set_option maxRecDepth 100000 in
theorem lw_ec18 : lw_oi (lw_qe 855 2) = true := by decide +kernel
set_option maxRecDepth 100000 in
theorem lw_o19 : lw_ok 888 1 97 100 = true := by decide +kernel
set_option maxRecDepth 100000 in
theorem lw_ec19 : lw_oi (lw_qe 888 1) = true := by decide +kernel
set_option maxRecDepth 100000 in
theorem lw_o20 : lw_ok 911 1 101 104 = true := by decide +kernel
set_option maxRecDepth 100000 in
theorem lw_ec20 : lw_oi (lw_qe 911 1) = true := by decide +kernel
set_option maxRecDepth 100000 in
theorem lw_o21 : lw_ok 934 3 105 108 = true := by decide +kernel
set_option maxRecDepth 100000 in
theorem lw_ec21 : lw_oi (lw_qe 934 3) = true := by decide +kernel
set_option maxRecDepth 100000 in
theorem lw_o22 : lw_ok 977 1 109 112 = true := by decide +kernel
set_option maxRecDepth 100000 in
theorem lw_ec22 : lw_oi (lw_qe 977 1) = true := by decide +kernel
set_option maxRecDepth 100000 in
theorem lw_o23 : lw_ok 1000 1 113 116 = true := by decide +kernel
set_option maxRecDepth 100000 in
theorem lw_ec23 : lw_oi (lw_qe 1000 1) = true := by decide +kernel
set_option maxRecDepth 100000 in
theorem lw_o24 : lw_ok 1023 4 117 121 = true := by decide +kernel
set_option maxRecDepth 100000 in
theorem lw_ec24 : lw_oi (lw_qe 1023 4) = true := by decide +kernel
set_option maxRecDepth 100000 in
theorem lw_o25 : lw_ok 1076 3 122 126 = true := by decide +kernel
set_option maxRecDepth 100000 in
theorem lw_ec25 : lw_oi (lw_qe 1076 3) = true := by decide +kernel
set_option maxRecDepth 100000 in
theorem lw_o26 : lw_ok 1119 0 127 131 = true := by decide +kernel
set_option maxRecDepth 100000 in
theorem lw_ec26 : lw_oi (lw_qe 1119 0) = true := by decide +kernel
set_option maxRecDepth 100000 in
theorem lw_o27 : lw_ok 1132 1 132 135 = true := by decide +kernel
set_option maxRecDepth 100000 in
theorem lw_ec27 : lw_oi (lw_qe 1132 1) = true := by decide +kernel
set_option maxRecDepth 100000 in
theorem lw_o28 : lw_ok 1155 0 136 140 = true := by decide +kernel
set_option maxRecDepth 100000 in
theorem lw_ec28 : lw_ol (lw_qe 1155 0) = true := by decide +kernel
set_option maxRecDepth 100000 in
theorem lw_o29 : lw_ok 1169 0 141 144 = true := by decide +kernel
set_option maxRecDepth 100000 in
theorem lw_ec29 : lw_oi (lw_qe 1169 0) = true := by decide +kernel
set_option maxRecDepth 100000 in
theorem lw_o30 : lw_ok 1182 1 145 148 = true := by decide +kernel
set_option maxRecDepth 100000 in
theorem lw_ec30 : lw_oi (lw_qe 1182 1) = true := by decide +kernel
set_option maxRecDepth 100000 in
theorem lw_o31 : lw_ok 1205 0 149 152 = true := by decide +kernel
set_option maxRecDepth 100000 in
theorem lw_ec31 : lw_oi (lw_qe 1205 0) = true := by decide +kernel
set_option maxRecDepth 100000 in
theorem lw_o32 : lw_ok 1218 1 153 156 = true := by decide +kernel
set_option maxRecDepth 100000 in
theorem lw_ec32 : lw_oi (lw_qe 1218 1) = true := by decide +kernel
