/-! THE CLASS: tokens asked -/
/-- from a on the string ks spells what is at p -/
def lsp (T : Nat → Int) (ks : Nat) (p a : Int) : Nat → Int → Bool
  | 0, _ => true
  | m + 1, j => if a + j < ((ax_sl ks : Nat) : Int) ∧ ax_sc ks (a + j).toNat = T (p + j).toNat then lsp T ks p a m (j + 1) else false
theorem lsp_lwm {T : Nat → Int} {ks : Nat} {p : Int} : ∀ (m j : Nat), j + m = ax_sl ks → lsp T ks p 0 m (j : Int) = lwm T ks p m j := by
  intro m
  induction m with
  | zero => intro j _; rfl
  | succ m ih =>
    intro j hj
    unfold lsp lwm
    rw [show (0 : Int) + (j : Int) = (j : Int) by omega, show (j : Int).toNat = j by omega]
    by_cases c : T (p + (j : Int)).toNat = ax_sc ks j
    · rw [if_pos ⟨by omega, c.symm⟩, if_pos c]
      have := ih (j + 1) (by omega)
      rw [show ((j + 1 : Nat) : Int) = (j : Int) + 1 by omega] at this
      exact this
    · rw [if_neg (fun r => c r.2.symm), if_neg c]
theorem sb_eq {x c : Int} (hx : 0 ≤ x ∧ x ≤ 255) (hc : 0 ≤ c ∧ c ≤ 127) : c = sb x ↔ c = x := by
  unfold sb
  split <;> omega
theorem sc_tab : (List.range 35).all (fun ks => decide (ax_sl ks ≤ 200) && (List.range (ax_sl ks)).all (fun j => decide (0 ≤ ax_sc ks j ∧ ax_sc ks j ≤ 127))) = true := by decide +kernel
theorem sc_rng {ks : Nat} (h : ks < 35) : ax_sl ks ≤ 200 ∧ ∀ j, j < ax_sl ks → 0 ≤ ax_sc ks j ∧ ax_sc ks j ≤ 127 := by
  have := List.all_eq_true.mp sc_tab ks (List.mem_range.mpr h)
  rw [Bool.and_eq_true] at this
  refine ⟨of_decide_eq_true this.1, fun j hj => ?_⟩
  exact of_decide_eq_true (List.all_eq_true.mp this.2 j (List.mem_range.mpr hj))
section ZCF
variable {d hf pf : Nat} {I J : zF} {T : Nat → Int} {n : Int} {s : zs} {P : Int → zF → zF → Prop} {P0 : zF → zF → Prop}
theorem te_in (hok : sOk T n s) : s.1 ≤ te T n s ∧ te T n s ≤ n := by
  have hsp := hok.1
  unfold te
  split
  · split
    · exact ⟨rn_le _ _ _ _, rn_n hsp.2⟩
    · split
      · exact ⟨rn_le _ _ _ _, rn_n hsp.2⟩
      · omega
  · omega
theorem sc_spells_2 (hX : cTx T n s I) {ks : Nat} (hks : ks < 35) {a : Int} (ha : 0 ≤ a ∧ a ≤ 200) {Q : Option ax_v → ax_S → Prop} : ∀ (m : Nat) (j : Int), j + m = te T n s - s.1 → 0 ≤ j → Q (some (.inl (if lsp T ks s.1 a m j = true then 1 else 0))) (zc_S hf pf I J) → zb_W d ax_m96 (2, [some (.inr (.inr (some 3))), some (.inr (.inr (some ((1000000 + ks))))), some (.inl a), some (.inl j)], [], zc_S hf pf I J) Q := by
  obtain ⟨hok, hT, _, x2, x3, _⟩ := hX
  have hn := hok.n
  have hsp := hok.1
  have hte := te_in hok
  obtain ⟨k1, k2⟩ := sc_rng hks
  intro m
  induction m with
  | zero =>
    intro j hj h0 hQ
    refine zk_Tokens_spells_2 hf pf I J a j ks hks ?_
    rw [x3, zb_w (x := j) (by omega) (by omega), zb_w (x := te T n s - s.1) (by omega) (by omega)]
    exact ⟨fun c => by omega, fun _ => hQ⟩
  | succ m ih =>
    intro j hj h0 hQ
    obtain ⟨t1, t2⟩ := hT.2.2 (s.1 + j).toNat (by omega)
    refine zk_Tokens_spells_2 hf pf I J a j ks hks ?_
    rw [x3, x2, hT.1, zb_w (x := j) (by omega) (by omega), zb_w (x := te T n s - s.1) (by omega) (by omega), zb_w (x := a + j) (by omega) (by omega), zb_w (x := ((ax_sl ks : Nat) : Int)) (by omega) (by omega), zb_w (x := s.1 + j) (by omega) (by omega), zb_w (x := n) (by omega) (by omega), t1]
    refine ⟨fun _ => ⟨fun c => ⟨fun _ => ⟨by omega, by omega, ?_⟩, fun c2 => absurd (show s.1 + j < n by omega) c2⟩, fun c => ?_⟩, fun c => absurd (show j < te T n s - s.1 by omega) c⟩
    · have kk := k2 (a + j).toNat (by omega)
      have sbr : -128 ≤ sb (T (s.1 + j).toNat) ∧ sb (T (s.1 + j).toNat) ≤ 127 := by unfold sb; split <;> omega
      rw [zb_w (x := ax_sc ks (a + j).toNat) (by omega) (by omega), zb_w (x := sb (T (s.1 + j).toNat)) (by omega) (by omega)]
      refine ⟨fun e => ih (j + 1) (by omega) (by omega) ?_, fun e => ?_⟩
      · rwa [show lsp T ks s.1 a (m + 1) j = lsp T ks s.1 a m (j + 1) from if_pos ⟨c, (sb_eq t2 kk).mp e⟩] at hQ
      · rwa [show lsp T ks s.1 a (m + 1) j = false from if_neg (fun r => e ((sb_eq t2 kk).mpr r.2))] at hQ
    · rwa [show lsp T ks s.1 a (m + 1) j = false from if_neg (fun r => c r.1)] at hQ
theorem tk1 (hok : sOk T n s) : tk T n s = 1 ↔ (s.1 < n ∧ fL (T s.1.toNat) = true) ∧ s.1 ≠ s.2 := by
  unfold tk
  by_cases c : s.1 < n
  · rw [if_pos c]
    by_cases c1 : fL (T s.1.toNat) = true
    · rw [if_pos c1]
      by_cases e : s.1 = s.2
      · rw [if_pos e]; exact ⟨fun q => absurd q (by decide), fun q => absurd e q.2⟩
      · rw [if_neg e]; exact ⟨fun _ => ⟨⟨c, c1⟩, e⟩, fun _ => rfl⟩
    · rw [if_neg c1]
      refine ⟨fun q => ?_, fun q => absurd q.1.2 c1⟩
      split at q
      · split at q <;> exact absurd q (by decide)
      · exact absurd q (by decide)
  · rw [if_neg c]; exact ⟨fun q => absurd q (by decide), fun q => absurd q.1.1 c⟩
theorem tk2 (hok : sOk T n s) : tk T n s = 2 ↔ (s.1 < n ∧ fN (T s.1.toNat) = true) ∧ s.1 ≠ s.2 := by
  unfold tk
  have hl : fL (T s.1.toNat) = true → ¬ fN (T s.1.toNat) = true := fun a b => by
    have := of_decide_eq_true a
    have := of_decide_eq_true b
    omega
  by_cases c : s.1 < n
  · rw [if_pos c]
    by_cases c1 : fL (T s.1.toNat) = true
    · rw [if_pos c1]
      refine ⟨fun q => ?_, fun q => absurd q.1.2 (hl c1)⟩
      split at q <;> exact absurd q (by decide)
    · rw [if_neg c1]
      by_cases c2 : fN (T s.1.toNat) = true
      · rw [if_pos c2]
        by_cases e : s.1 = s.2
        · rw [if_pos e]; exact ⟨fun q => absurd q (by decide), fun q => absurd e q.2⟩
        · rw [if_neg e]; exact ⟨fun _ => ⟨⟨c, c2⟩, e⟩, fun _ => rfl⟩
      · rw [if_neg c2]; exact ⟨fun q => absurd q (by decide), fun q => absurd q.1.2 c2⟩
  · rw [if_neg c]; exact ⟨fun q => absurd q (by decide), fun q => absurd q.1.1 c⟩
theorem tk_in (T : Nat → Int) (n : Int) (s : zs) : 0 ≤ tk T n s ∧ tk T n s ≤ 4 := by
  unfold tk
  split
  · split
    · split <;> omega
    · split
      · split <;> omega
      · omega
  · omega
theorem te1 (h : s.1 < n ∧ fL (T s.1.toNat) = true) : te T n s = rn T n fL s.1 := by unfold te; rw [if_pos h.1, if_pos h.2]
theorem te2 (h : s.1 < n ∧ fN (T s.1.toNat) = true) : te T n s = rn T n fN s.1 := by
  have hl : ¬ fL (T s.1.toNat) = true := fun a => by
    have := of_decide_eq_true a
    have := of_decide_eq_true h.2
    omega
  unfold te
  rw [if_pos h.1, if_neg hl, if_pos h.2]
theorem sc_is (hX : cTx T n s I) {ks : Nat} (hks : ks < 35) (hm : ks ∈ wAll) (hP : P (if wd T n s = (ks : Int) then 1 else 0) I J) : zc_i (d + 2) 94 [.inr (.inr (some 3)), .inr (.inr (some ((1000000 + ks))))] hf pf I J P := by
  have hok := hX.ok
  have hn := hok.n
  have hsp := hok.1
  have hte := te_in hok
  have ht := tk_in T n s
  obtain ⟨k1, k2⟩ := sc_rng hks
  have hP' : P (if isW T n s ks = true then 1 else 0) I J := by
    rw [isW_wd hm]
    simp only [decide_eq_true_eq]
    exact hP
  unfold isW at hP'
  simp only [Bool.and_eq_true, decide_eq_true_eq] at hP'
  refine zc_ini (M := ax_m94) rfl (Nat.le_of_ble_eq_true rfl) (zk_Tokens_is_0 hf pf I J ks hks ?_)
  rw [hX.2.2.1, hX.2.2.2.2.1, zb_w (x := tk T n s) (by omega) (by omega), zb_w (x := te T n s - s.1) (by omega) (by omega), zb_w (x := ((ax_sl ks : Nat) : Int)) (by omega) (by omega)]
  refine ⟨fun c => ?_, fun c => zc_Qi.of ?_⟩
  · have z := (tk1 hok).mp c
    have zt := te1 z.1
    refine ⟨fun c2 => zc_ini (M := ax_m96) rfl (Nat.le_of_ble_eq_true rfl) (zk_Tokens_spells_0 hf pf I J 0 ks hks (sc_spells_2 hX hks (by decide) (te T n s - s.1).toNat 0 (by omega) (by decide) (zc_Qi.of (bc (fun c3 => zc_Qi.of ?_) (fun c3 => zc_Qi.of ?_))))), fun c2 => zc_Qi.of ?_⟩
    · have e : lsp T ks s.1 0 (te T n s - s.1).toNat 0 = lwm T ks s.1 (ax_sl ks) 0 := by
        rw [show (te T n s - s.1).toNat = ax_sl ks by omega]
        exact lsp_lwm (ax_sl ks) 0 (by omega)
      rw [e] at c3
      rwa [if_pos ⟨⟨z.1, z.2, by omega⟩, c3⟩] at hP'
    · have e : lsp T ks s.1 0 (te T n s - s.1).toNat 0 = lwm T ks s.1 (ax_sl ks) 0 := by
        rw [show (te T n s - s.1).toNat = ax_sl ks by omega]
        exact lsp_lwm (ax_sl ks) 0 (by omega)
      rw [e] at c3
      rwa [if_neg (fun r => c3 r.2)] at hP'
    · rwa [if_neg (fun r => c2 (by omega))] at hP'
  · rwa [if_neg (fun r => c ((tk1 hok).mpr ⟨r.1.1, r.1.2.1⟩))] at hP'
theorem sc_isSign (hX : cTx T n s I) {c : Int} (hc : (0 ≤ c ∧ c ≤ 255) ∧ ¬ fL c = true ∧ ¬ fN c = true) (hP : P (if lc T n s.1 = c then 1 else 0) I J) : zc_i (d + 2) 95 [.inr (.inr (some 3)), .inl c] hf pf I J P := by
  have hok := hX.ok
  have hn := hok.n
  have hsp := hok.1
  have ht := tk_in T n s
  have hl := lc_in hok hsp.1
  refine zc_ini (M := ax_m95) rfl (Nat.le_of_ble_eq_true rfl) (zk_Tokens_isSign_0 hf pf I J c ?_)
  rw [hX.2.2.1, zb_w (x := tk T n s) (by omega) (by omega)]
  refine ⟨fun e => ?_, fun e => zc_Qi.of ?_⟩
  · rw [hX.2.2.2.1]
    refine sc_at hX.t ⟨by omega, by omega⟩ ?_
    rw [lc_at hsp.1]
    refine be ⟨by omega, by omega⟩ ⟨by omega, by omega⟩ (fun e2 => zc_Qi.of ?_) (fun e2 => zc_Qi.of ?_)
    · rwa [if_pos e2] at hP
    · rwa [if_neg e2] at hP
  · rw [if_neg (fun r => e ?_)] at hP
    · exact hP
    · obtain ⟨l1, l2⟩ := lc_lt r (by omega)
      show tk T n s = 3
      unfold tk
      rw [if_pos l1, l2, if_neg hc.2.1, if_neg hc.2.2]
theorem sc_adv_W (hX : cTx T n s I) (h : (s.1 < n ∧ fL (T s.1.toNat) = true) ∧ s.1 ≠ s.2) (hP : ∀ I', cY I I' → cTx T n (aWd T n s) I' → I' 3 4 = I 3 4 → I' 3 5 = I 3 5 → P0 I' J) : zc_v (d + 3) 91 [.inr (.inr (some 3))] hf pf I J P0 := by
  have hok := hX.ok
  have hsp := hok.1
  have z := te1 h.1
  have e1 := (tk1 hok).mpr h
  have r1 := rn_le T n fL s.1
  have r2 := rn_n (T := T) (f := fL) hsp.2
  refine sc_advance_g (aWd_ok hok) hX.t (f := rn T n fL s.1) ?_ ?_ ⟨by omega, r2⟩ rfl ?_ hX.2.2.2.2.2 hP
  · rw [hX.2.2.1, e1]; decide
  · rw [hX.2.2.2.1, hX.2.2.2.2.1, z]; omega
  · rw [hX.2.2.1, e1]
    exact ⟨fun q => q.2, fun q => ⟨Or.inl rfl, q⟩⟩
theorem sc_adv_S (hX : cTx T n s I) {c : Int} (hc : (0 ≤ c ∧ c ≤ 255) ∧ ¬ fL c = true ∧ ¬ fN c = true) (h : lc T n s.1 = c) (hP : ∀ I', cY I I' → cTx T n (aS T n s) I' → I' 3 4 = I 3 4 → I' 3 5 = I 3 5 → P0 I' J) : zc_v (d + 3) 91 [.inr (.inr (some 3))] hf pf I J P0 := by
  have hok := hX.ok
  have hsp := hok.1
  have hs2 := hok.2.1
  obtain ⟨l1, l2⟩ := lc_lt h (by omega)
  have e1 : tk T n s = 3 := by unfold tk; rw [if_pos l1, l2, if_neg hc.2.1, if_neg hc.2.2]
  have e2 : te T n s = s.1 + 1 := by unfold te; rw [if_pos l1, l2, if_neg hc.2.1, if_neg hc.2.2]
  have r1 := rn_le T n fB (s.1 + 1)
  refine sc_advance_g (aS_ok hok l1) hX.t (f := s.1 + 1) ?_ ?_ ⟨by omega, by omega⟩ rfl ?_ hX.2.2.2.2.2 hP
  · rw [hX.2.2.1, e1]; decide
  · rw [hX.2.2.2.1, hX.2.2.2.2.1, e2]; omega
  · rw [hX.2.2.1, e1]
    refine ⟨fun q => absurd q.1 (by decide), fun q => ?_⟩
    have q' : rn T n fB (s.1 + 1) = s.2 := q
    omega
theorem sc_fail {k q : Int} (hP : P 0 (ax_u (ax_u I 3 6 k) 3 7 q) J) : zc_i (d + 1) 105 [.inr (.inr (some 3)), .inl k, .inl q] hf pf I J P := zc_ini (M := ax_m105) rfl (Nat.le_of_ble_eq_true rfl) (zk_Tokens_fail_0 hf pf I J k q (zc_Qi.of hP))
theorem sc_failHere (hX : I 3 2 = s.1) {k : Int} (hP : ∀ I', cY I I' → cBad k s.1 I' → P 0 I' J) : zc_i (d + 2) 103 [.inr (.inr (some 3)), .inl k] hf pf I J P := by
  refine zc_ini (M := ax_m103) rfl (Nat.le_of_ble_eq_true rfl) (zk_Tokens_failHere_0 hf pf I J k ?_)
  rw [hX]
  exact sc_fail ⟨Or.inl rfl, zc_Qi.of (hP _ (((cY.refl I).u (by omega)).u (by omega)) ⟨by rw [zu_ne (by omega), zu_eq], zu_eq⟩)⟩
theorem sc_failAtNumber {k q : Int} (hX : I 3 5 = q) (hP : ∀ I', cY I I' → cBad k q I' → P 0 I' J) : zc_i (d + 2) 104 [.inr (.inr (some 3)), .inl k] hf pf I J P := by
  refine zc_ini (M := ax_m104) rfl (Nat.le_of_ble_eq_true rfl) (zk_Tokens_failAtNumber_0 hf pf I J k ?_)
  rw [hX]
  exact sc_fail ⟨Or.inl rfl, zc_Qi.of (hP _ (((cY.refl I).u (by omega)).u (by omega)) ⟨by rw [zu_ne (by omega), zu_eq], zu_eq⟩)⟩
theorem sc_takeWord (hX : cTx T n s I) {ks : Nat} (hks : ks < 35) (hm : ks ∈ wAll) (hP1 : wd T n s = (ks : Int) → ∀ I', cY I I' → cTx T n (aWd T n s) I' → I' 3 4 = I 3 4 → I' 3 5 = I 3 5 → P 1 I' J) (hP0 : wd T n s ≠ (ks : Int) → ∀ I', cY I I' → cBad 1 s.1 I' → P 0 I' J) : zc_i (d + 4) 98 [.inr (.inr (some 3)), .inr (.inr (some ((1000000 + ks))))] hf pf I J P := by
  refine zc_ini (M := ax_m98) rfl (Nat.le_of_ble_eq_true rfl) (zk_Tokens_takeWord_0 hf pf I J ks hks (sc_is hX hks hm (bc (fun c => ?_) (fun c => sc_failHere hX.2.2.2.1 (fun I' a b => ⟨Or.inl rfl, zc_Qi.of (hP0 c I' a b)⟩)))))
  obtain ⟨w1, w2, w3, w4⟩ := wd_len hm c
  exact sc_adv_W hX ⟨⟨w1, w3⟩, w4⟩ (fun I' a b e f => zc_Qi.of (hP1 c I' a b e f))
theorem sc_takeSign (hX : cTx T n s I) {c : Int} (hc : (0 ≤ c ∧ c ≤ 255) ∧ ¬ fL c = true ∧ ¬ fN c = true) (hP1 : lc T n s.1 = c → ∀ I', cY I I' → cTx T n (aS T n s) I' → P 1 I' J) (hP0 : lc T n s.1 ≠ c → ∀ I', cY I I' → cBad 1 s.1 I' → P 0 I' J) : zc_i (d + 4) 99 [.inr (.inr (some 3)), .inl c] hf pf I J P := by
  refine zc_ini (M := ax_m99) rfl (Nat.le_of_ble_eq_true rfl) (zk_Tokens_takeSign_0 hf pf I J c (sc_isSign hX hc (bc (fun e => sc_adv_S hX hc e (fun I' a b _ _ => zc_Qi.of (hP1 e I' a b))) (fun e => sc_failHere hX.2.2.2.1 (fun I' a b => ⟨Or.inl rfl, zc_Qi.of (hP0 e I' a b)⟩)))))
end ZCF
