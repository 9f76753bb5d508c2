/-! THE CLASS: numbers, names, the beginning -/
def ownT : List (Nat × Nat) := [(0, 0), (2, 7), (3, 12), (4, 15), (5, 20), (6, 26), (7, 124), (8, 128), (9, 101), (10, 106), (11, 48), (12, 53), (13, 58), (14, 62), (15, 69), (16, 73), (17, 79), (18, 84), (19, 89), (20, 96), (21, 32), (22, 120), (23, 116), (24, 112), (25, 109), (26, 132), (27, 43), (28, 37)]
theorem ownT_ok : ownT.all (fun x => decide (x.1 ∈ wAll ∧ x.1 ≤ 28) && decide (ax_sc 1 x.2 = 32 ∧ ax_sc 1 (x.2 + ax_sl x.1 + 1) = 32 ∧ x.2 + ax_sl x.1 + 1 < ax_sl 1) && (List.range (ax_sl x.1)).all (fun j => decide (ax_sc 1 (x.2 + 1 + j) = ax_sc x.1 j ∧ 97 ≤ ax_sc x.1 j ∧ ax_sc x.1 j ≤ 122))) = true := by decide +kernel
theorem ownT_b : (List.range (ax_sl 1)).all (fun i => decide (ax_sc 1 i ≠ 32) || decide (i + 1 = ax_sl 1) || ownT.any (fun x => decide (x.2 = i))) = true := by decide +kernel
theorem ownT_k : (List.range 29).all (fun k => decide (k = 1) || ownT.any (fun x => decide (x.1 = k))) = true := by decide +kernel
theorem ownT_in {ks p : Nat} (h : (ks, p) ∈ ownT) : (ks ∈ wAll ∧ ks ≤ 28) ∧ (ax_sc 1 p = 32 ∧ ax_sc 1 (p + ax_sl ks + 1) = 32 ∧ p + ax_sl ks + 1 < ax_sl 1) ∧ ∀ j, j < ax_sl ks → ax_sc 1 (p + 1 + j) = ax_sc ks j ∧ 97 ≤ ax_sc ks j ∧ ax_sc ks j ≤ 122 := by
  have := List.all_eq_true.mp ownT_ok (ks, p) h
  rw [Bool.and_eq_true, Bool.and_eq_true, decide_eq_true_eq, decide_eq_true_eq] at this
  exact ⟨this.1.1, this.1.2, fun j hj => of_decide_eq_true (List.all_eq_true.mp this.2 j (List.mem_range.mpr hj))⟩
theorem lsp_all {T : Nat → Int} {ks : Nat} {p a : Int} : ∀ (m : Nat) (j : Int), lsp T ks p a m j = true ↔ ∀ i : Int, j ≤ i → i < j + m → a + i < ((ax_sl ks : Nat) : Int) ∧ ax_sc ks (a + i).toNat = T (p + i).toNat := by
  intro m
  induction m with
  | zero => intro j; exact ⟨fun _ i a b => by omega, fun _ => rfl⟩
  | succ m ih =>
    intro j
    by_cases c : a + j < ((ax_sl ks : Nat) : Int) ∧ ax_sc ks (a + j).toNat = T (p + j).toNat
    · rw [show lsp T ks p a (m + 1) j = lsp T ks p a m (j + 1) from if_pos c, ih (j + 1)]
      refine ⟨fun h i h1 h2 => ?_, fun h i h1 h2 => h i (by omega) (by omega)⟩
      by_cases e : i = j
      · rw [e]; exact c
      · exact h i (by omega) (by omega)
    · rw [show lsp T ks p a (m + 1) j = false from if_neg c]
      exact ⟨fun h => absurd h (by decide), fun h => absurd (h j (by omega) (by omega)) c⟩
theorem lwm_of {T : Nat → Int} {ks : Nat} {p : Int} : ∀ (m j : Nat), (∀ i : Nat, j ≤ i → i < j + m → T (p + (i : Int)).toNat = ax_sc ks i) → lwm T ks p m j = true := by
  intro m
  induction m with
  | zero => intro j _; rfl
  | succ m ih =>
    intro j h
    unfold lwm
    rw [if_pos (h j (by omega) (by omega))]
    exact ih (j + 1) (fun i a b => h i (by omega) (by omega))
/-- the own word at i is what is here -/
def ownAt (T : Nat → Int) (n : Int) (s : zs) (i : Int) : Prop := i + (te T n s - s.1) + 1 < ((ax_sl 1 : Nat) : Int) ∧ ax_sc 1 i.toNat = 32 ∧ ax_sc 1 (i + (te T n s - s.1) + 1).toNat = 32 ∧ lsp T 1 s.1 (i + 1) (te T n s - s.1).toNat 0 = true
theorem own_iff {T : Nat → Int} {n : Int} {s : zs} (hok : sOk T n s) (h : (s.1 < n ∧ fL (T s.1.toNat) = true) ∧ s.1 ≠ s.2) : own T n s ↔ ∃ i, 0 ≤ i ∧ ownAt T n s i := by
  have hsp := hok.1
  have zt := te1 h.1
  have hte := te_in hok
  have r1 : s.1 < rn T n fL s.1 := by
    have := rn_in h.1.1 h.1.2
    have := rn_le T n fL (s.1 + 1)
    omega
  constructor
  · intro ho
    have n1 := wd_ne1 T n s
    obtain ⟨k, hk⟩ := Int.eq_ofNat_of_zero_le ho.1
    have hk' : wd T n s = (k : Int) := hk
    have ho2 := ho.2
    have := List.all_eq_true.mp ownT_k k (List.mem_range.mpr (by omega))
    rw [Bool.or_eq_true, decide_eq_true_eq, List.any_eq_true] at this
    rcases this with e | ⟨⟨ks, p⟩, m, e⟩
    · exact absurd (show wd T n s = 1 by omega) n1
    · have e' : ks = k := of_decide_eq_true e
      subst e'
      obtain ⟨⟨t1, t2⟩, ⟨t3, t4, t5⟩, t6⟩ := ownT_in m
      have hw := isW_wd (T := T) (n := n) (s := s) t1
      rw [decide_eq_true hk'] at hw
      unfold isW at hw
      rw [Bool.and_eq_true, decide_eq_true_eq] at hw
      have hl := hw.1.2.2
      refine ⟨(p : Int), by omega, by omega, ?_, ?_, (lsp_all _ _).mpr (fun i a b => ⟨by omega, ?_⟩)⟩
      · rw [show (p : Int).toNat = p by omega]; exact t3
      · rw [show ((p : Int) + (te T n s - s.1) + 1).toNat = p + ax_sl ks + 1 by omega]; exact t4
      · have := lwm_all _ _ hw.2 i.toNat (by omega) (by omega)
        rw [show s.1 + ((i.toNat : Nat) : Int) = s.1 + i by omega] at this
        rw [this, show ((p : Int) + 1 + i).toNat = p + 1 + i.toNat by omega]
        exact (t6 i.toNat (by omega)).1
  · rintro ⟨i, i0, a1, a2, a3, a4⟩
    have := List.all_eq_true.mp ownT_b i.toNat (List.mem_range.mpr (by omega))
    rw [Bool.or_eq_true, Bool.or_eq_true, decide_eq_true_eq, decide_eq_true_eq, List.any_eq_true] at this
    rcases this with (e | e) | ⟨⟨ks, p⟩, m, e⟩
    · exact absurd a2 e
    · omega
    · have e' : p = i.toNat := of_decide_eq_true e
      obtain ⟨⟨t1, t2⟩, ⟨t3, t4, t5⟩, t6⟩ := ownT_in m
      have sp := (lsp_all _ _).mp a4
      have lt : ∀ j : Int, 0 ≤ j → j < te T n s - s.1 → 97 ≤ T (s.1 + j).toNat := fun j j0 j1 => by
        have := (rn_all (T := T) (n := n) (f := fL) (q := s.1) (j := s.1 + j) (by omega) (by omega)).2
        exact (of_decide_eq_true this).1
      have el : te T n s - s.1 = (ax_sl ks : Nat) := by
        rcases Int.lt_trichotomy (te T n s - s.1) ((ax_sl ks : Nat) : Int) with c | c | c
        · have x := (t6 (te T n s - s.1).toNat (by omega))
          rw [show p + 1 + (te T n s - s.1).toNat = (i + (te T n s - s.1) + 1).toNat by omega, a3] at x
          omega
        · exact c
        · have x := sp (ax_sl ks : Nat) (by omega) (by omega)
          have y := lt (ax_sl ks : Nat) (by omega) (by omega)
          rw [← x.2, show (i + 1 + ((ax_sl ks : Nat) : Int)).toNat = p + ax_sl ks + 1 by omega, t4] at y
          omega
      have hw : isW T n s ks = true := by
        unfold isW
        rw [Bool.and_eq_true, decide_eq_true_eq]
        refine ⟨⟨h.1, h.2, by omega⟩, lwm_of _ _ (fun j _ j2 => ?_)⟩
        have x := sp (j : Int) (by omega) (by omega)
        rw [← x.2, show (i + 1 + (j : Int)).toNat = p + 1 + j by omega]
        exact (t6 j (by omega)).1
      rw [isW_wd t1, decide_eq_true_eq] at hw
      show 0 ≤ wd T n s ∧ wd T n s ≤ 28
      omega
theorem lnv_b {T : Nat → Int} : ∀ (m : Nat) (q : Int), m ≤ 4 → (∀ j, q ≤ j → j < q + m → 48 ≤ T j.toNat ∧ T j.toNat ≤ 57) → 0 ≤ lnv T m q 0 ∧ lnv T m q 0 ≤ 9999 := by
  intro m q hm h
  match m, hm, h with
  | 0, _, _ => exact ⟨Int.le_refl 0, by show (0 : Int) ≤ 9999; decide⟩
  | 1, _, h => have a := h q (by omega) (by omega); simp only [lnv]; omega
  | 2, _, h => have a := h q (by omega) (by omega); have b := h (q + 1) (by omega) (by omega); simp only [lnv]; omega
  | 3, _, h => have a := h q (by omega) (by omega); have b := h (q + 1) (by omega) (by omega); have c := h (q + 1 + 1) (by omega) (by omega); simp only [lnv]; omega
  | 4, _, h => have a := h q (by omega) (by omega); have b := h (q + 1) (by omega) (by omega); have c := h (q + 1 + 1) (by omega) (by omega); have e := h (q + 1 + 1 + 1) (by omega) (by omega); simp only [lnv]; omega
section ZCG
variable {d hf pf : Nat} {I J : zF} {T : Nat → Int} {n : Int} {s : zs} {P : Int → zF → zF → Prop} {P0 : zF → zF → Prop}
theorem sc_isOwnWord_2 (hX : cTx T n s I) (h : (s.1 < n ∧ fL (T s.1.toNat) = true) ∧ s.1 ≠ s.2) (hP : P (if own T n s then 1 else 0) I J) : ∀ (m : Nat) (i : Int), 0 ≤ i → i + m = 200 → (∀ j, 0 ≤ j → j < i → ¬ ownAt T n s j) → zb_W (d + 1) ax_m97 (2, [some (.inr (.inr (some 3))), some (.inl i)], [], zc_S hf pf I J) (zc_Qi hf pf P) := by
  have hok := hX.ok
  have hn := hok.n
  have hsp := hok.1
  have hte := te_in hok
  obtain ⟨k1, k2⟩ := sc_rng (ks := 1) (by decide)
  intro m
  induction m with
  | zero =>
    intro i i0 im hno
    refine zk_Tokens_isOwnWord_2 hf pf I J i ?_
    rw [show 1000001 - 1000000 = 1 from rfl, hX.2.2.2.2.1, zb_w (x := i + (te T n s - s.1) + 1) (by omega) (by omega), zb_w (x := ((ax_sl 1 : Nat) : Int)) (by omega) (by omega)]
    refine ⟨fun c => by omega, fun c => zc_Qi.of ?_⟩
    rw [if_neg (fun r => ?_)] at hP
    · exact hP
    · obtain ⟨j, j0, jo⟩ := (own_iff hok h).mp r
      by_cases c' : j < i
      · exact hno j j0 c' jo
      · have := jo.1
        omega
  | succ m ih =>
    intro i i0 im hno
    have nxt : ¬ ownAt T n s i → zb_W (d + 1) ax_m97 (61, [some (.inr (.inr (some 3))), some (.inl i)], [], zc_S hf pf I J) (zc_Qi hf pf P) := fun c => zk_Tokens_isOwnWord_61 hf pf I J i (ih (i + 1) (by omega) (by omega) (fun j j0 j1 => by
      by_cases e : j = i
      · rw [e]; exact c
      · exact hno j j0 (by omega)))
    refine zk_Tokens_isOwnWord_2 hf pf I J i ?_
    rw [show 1000001 - 1000000 = 1 from rfl, hX.2.2.2.2.1, zb_w (x := i + (te T n s - s.1) + 1) (by omega) (by omega), zb_w (x := ((ax_sl 1 : Nat) : Int)) (by omega) (by omega), zb_w (x := i) (by omega) (by omega)]
    refine ⟨fun c => ⟨by omega, ?_⟩, fun c => zc_Qi.of ?_⟩
    · have q1 := k2 i.toNat (by omega)
      have q2 := k2 (i + (te T n s - s.1) + 1).toNat (by omega)
      rw [zb_w (x := ax_sc 1 i.toNat) (by omega) (by omega), zb_w (x := ax_sc 1 (i + (te T n s - s.1) + 1).toNat) (by omega) (by omega)]
      refine ⟨fun c1 => ⟨by omega, fun c2 => zc_ini (M := ax_m96) rfl (Nat.le_of_ble_eq_true rfl) (zk_Tokens_spells_0 hf pf I J (i + 1) 1 (by decide) (sc_spells_2 hX (by decide) (by omega) (te T n s - s.1).toNat 0 (by omega) (by decide) (zc_Qi.of (bc (fun c3 => zc_Qi.of ?_) (fun c3 => nxt (fun r => c3 r.2.2.2)))))), fun c2 => nxt (fun r => c2 r.2.2.1)⟩, fun c1 => nxt (fun r => c1 r.2.1)⟩
      rwa [if_pos ((own_iff hok h).mpr ⟨i, i0, c, c1, c2, c3⟩)] at hP
    · rw [if_neg (fun r => ?_)] at hP
      · exact hP
      · obtain ⟨j, j0, jo⟩ := (own_iff hok h).mp r
        by_cases c' : j < i
        · exact hno j j0 c' jo
        · have := jo.1
          omega
theorem sc_isName (hX : cTx T n s I) {most : Int} (hm : 1 ≤ most ∧ most ≤ 6) (hP1 : (s.1 < n ∧ fL (T s.1.toNat) = true) ∧ s.1 ≠ s.2 → pName T n s most = .inr (aWd T n s) → rn T n fL s.1 - s.1 ≤ most → P 1 I J) (hP0 : ∀ k q, pName T n s most = .inl (k, q) → ∀ I', cY I I' → cBad k q I' → P 0 I' J) : zc_i (d + 3) 101 [.inr (.inr (some 3)), .inl most] hf pf I J P := by
  have hok := hX.ok
  have hn := hok.n
  have hsp := hok.1
  have hte := te_in hok
  have ht := tk_in T n s
  refine zc_ini (M := ax_m101) rfl (Nat.le_of_ble_eq_true rfl) (zk_Tokens_isName_0 hf pf I J most ?_)
  rw [hX.2.2.1, zb_w (x := tk T n s) (by omega) (by omega)]
  refine ⟨fun c => ?_, fun c => sc_failHere hX.2.2.2.1 (fun I' a b => ⟨Or.inl rfl, zc_Qi.of (hP0 _ _ ?_ I' a b)⟩)⟩
  · have z := (tk1 hok).mp c
    have zt := te1 z.1
    refine zc_ini (M := ax_m97) rfl (Nat.le_of_ble_eq_true rfl) (zk_Tokens_isOwnWord_0 hf pf I J (sc_isOwnWord_2 hX z ?_ 200 0 (by decide) (by decide) (fun j a b => by omega)))
    refine bc (fun o => sc_failHere hX.2.2.2.1 (fun I' a b => ⟨Or.inl rfl, zc_Qi.of (hP0 _ _ ?_ I' a b)⟩)) (fun o => ?_)
    · unfold pName
      rw [if_neg (fun r => r.2.2 o)]
    · rw [hX.2.2.2.2.1, zb_w (x := most) (by omega) (by omega), zb_w (x := te T n s - s.1) (by omega) (by omega)]
      refine ⟨fun c2 => ?_, fun c2 => zc_Qi.of (hP1 z ?_ (by omega))⟩
      · rw [hX.2.2.2.1]
        refine sc_fail (b0 (zc_Qi.of (hP0 1 (s.1 + most) ?_ _ (((cY.refl I).u (by omega)).u (by omega)) ⟨by rw [zu_ne (by omega), zu_eq], zu_eq⟩)))
        unfold pName
        rw [if_pos ⟨z.1, z.2, o⟩, if_pos (by omega)]
      · unfold pName
        rw [if_pos ⟨z.1, z.2, o⟩, if_neg (by omega)]
  · unfold pName
    rw [if_neg (fun r => c ((tk1 hok).mpr ⟨r.1, r.2.1⟩))]
theorem sc_adv_N {v4 v5 : Int} {I0 : zF} (hX0 : cTx T n s I0) (hY : cY I0 I) (hj : ∀ j, j ≠ 4 → j ≠ 5 → I 3 j = I0 3 j) (e4 : I 3 4 = v4) (e5 : I 3 5 = v5) (h : (s.1 < n ∧ fN (T s.1.toNat) = true) ∧ s.1 ≠ s.2) (hP : ∀ I', cY I I' → cTx T n (aW T n (rn T n fN s.1)) I' → I' 3 4 = v4 → I' 3 5 = v5 → P0 I' J) : zc_v (d + 3) 91 [.inr (.inr (some 3))] hf pf I J P0 := by
  have hok := hX0.ok
  have hsp := hok.1
  have z := te2 h.1
  have e1 := (tk2 hok).mpr h
  have r1 := rn_le T n fN s.1
  have r2 := rn_n (T := T) (f := fN) hsp.2
  have x1 : I 3 1 = 2 := by rw [hj 1 (by omega) (by omega), hX0.2.2.1, e1]
  refine sc_advance_g (aW_ok hok ⟨r1, r2⟩) (hY.t hX0.t) (f := rn T n fN s.1) ?_ ?_ ⟨by omega, r2⟩ rfl ?_ ?_ (fun I' a b c e => hP I' a b (by rw [c, e4]) (by rw [e, e5]))
  · rw [x1]; decide
  · rw [hj 2 (by omega) (by omega), hj 3 (by omega) (by omega), hX0.2.2.2.1, hX0.2.2.2.2.1, z]; omega
  · rw [x1]
    exact ⟨fun q => q.2, fun q => ⟨Or.inr rfl, q⟩⟩
  · rw [hj 6 (by omega) (by omega), hj 7 (by omega) (by omega)]
    exact hX0.2.2.2.2.2
theorem sc_takeNumber_41 {I0 : zF} (hX0 : cTx T n s I0) (h : (s.1 < n ∧ fN (T s.1.toNat) = true) ∧ s.1 ≠ s.2) (h4 : rn T n fN s.1 - s.1 ≤ 4) {most : Int} (hm : 0 ≤ most ∧ most ≤ 9999) (hP1 : ∀ s' v, pNum T n s most = .inr (s', v) → ∀ I', cY I0 I' → cTx T n s' I' → I' 3 4 = v → I' 3 5 = s.1 → 0 ≤ v ∧ v ≤ 9999 → P 1 I' J) (hP0 : ∀ k q, pNum T n s most = .inl (k, q) → ∀ I', cY I0 I' → cBad k q I' → P 0 I' J) : ∀ (m : Nat) (j a : Int) (I : zF), j + m = rn T n fN s.1 - s.1 → 0 ≤ j → cY I0 I → (∀ k, k ≠ 4 → I 3 k = I0 3 k) → I 3 4 = a → lnv T m (s.1 + j) a = lnv T (rn T n fN s.1 - s.1).toNat s.1 0 → zb_W (d + 3) ax_m100 (41, [some (.inr (.inr (some 3))), some (.inl most), some (.inl j)], [], zc_S hf pf I J) (zc_Qi hf pf P) := by
  have hok := hX0.ok
  have hn := hok.n
  have hsp := hok.1
  have r1 := rn_le T n fN s.1
  have r2 := rn_n (T := T) (f := fN) hsp.2
  have zt := te2 h.1
  have lb := lnv_b (T := T) (rn T n fN s.1 - s.1).toNat s.1 (by omega) (fun j a b => of_decide_eq_true (rn_all (T := T) (n := n) (f := fN) a (by omega)).2)
  intro m
  induction m with
  | zero =>
    intro j a I hj h0 hY hk e4 hv
    have hv' : a = lnv T (rn T n fN s.1 - s.1).toNat s.1 0 := hv
    have e3 : I 3 3 = rn T n fN s.1 - s.1 := by rw [hk 3 (by omega), hX0.2.2.2.2.1, zt]
    have e2 : I 3 2 = s.1 := by rw [hk 2 (by omega)]; exact hX0.2.2.2.1
    refine zk_Tokens_takeNumber_41 hf pf I J most j ?_
    have e4' : (ax_u I 3 5 (I 3 2)) 3 4 = a := by rw [zu_ne (by omega)]; exact e4
    rw [e3, e4', zb_w (x := j) (by omega) (by omega), zb_w (x := rn T n fN s.1 - s.1) (by omega) (by omega), zb_w (x := most) (by omega) (by omega), zb_w (x := a) (by omega) (by omega)]
    refine ⟨fun c => by omega, fun _ => ⟨fun c => sc_failHere (s := s) (by rw [zu_ne (by omega)]; exact e2) (fun I' y b => ⟨Or.inl rfl, zc_Qi.of (hP0 2 s.1 ?_ I' ((hY.u (by omega)).trans y) b)⟩), fun c => ?_⟩⟩
    · unfold pNum
      rw [if_pos h, if_neg (by omega), if_pos (by omega)]
    · refine sc_adv_N (v4 := a) (v5 := s.1) hX0 (hY.u (by omega)) (fun k k1 k2 => by rw [zu_ne (by omega)]; exact hk k k1) e4' (by rw [zu_eq]; exact e2) h (fun I' y b c e => zc_Qi.of (hP1 _ _ ?_ I' ((hY.u (by omega)).trans y) b c e (by omega)))
      unfold pNum
      rw [if_pos h, if_neg (by omega), if_neg (by omega), ← hv']
  | succ m ih =>
    intro j a I hj h0 hY hk e4 hv
    have e3 : I 3 3 = rn T n fN s.1 - s.1 := by rw [hk 3 (by omega), hX0.2.2.2.2.1, zt]
    have e2 : I 3 2 = s.1 := by rw [hk 2 (by omega)]; exact hX0.2.2.2.1
    refine zk_Tokens_takeNumber_41 hf pf I J most j ?_
    rw [e3, e2, zb_w (x := j) (by omega) (by omega), zb_w (x := rn T n fN s.1 - s.1) (by omega) (by omega)]
    refine ⟨fun _ => sc_at (hY.t hX0.t) ⟨by omega, by omega⟩ ?_, fun c => absurd (show j < rn T n fN s.1 - s.1 by omega) c⟩
    rw [if_pos (by omega), e4]
    refine ih (j + 1) (a * 10 + T (s.1 + j).toNat - 48) _ (by omega) (by omega) (hY.u (by omega)) (fun k k1 => by rw [zu_ne (by omega)]; exact hk k k1) zu_eq ?_
    rw [← hv, show a * 10 = 10 * a by omega, show s.1 + (j + 1) = s.1 + j + 1 by omega]
    rfl
theorem sc_takeNumber (hX : cTx T n s I) {most : Int} (hm : 0 ≤ most ∧ most ≤ 9999) (hP1 : ∀ s' v, pNum T n s most = .inr (s', v) → ∀ I', cY I I' → cTx T n s' I' → I' 3 4 = v → I' 3 5 = s.1 → 0 ≤ v ∧ v ≤ 9999 → P 1 I' J) (hP0 : ∀ k q, pNum T n s most = .inl (k, q) → ∀ I', cY I I' → cBad k q I' → P 0 I' J) : zc_i (d + 4) 100 [.inr (.inr (some 3)), .inl most] hf pf I J P := by
  have hok := hX.ok
  have hn := hok.n
  have hsp := hok.1
  have hte := te_in hok
  have ht := tk_in T n s
  refine zc_ini (M := ax_m100) rfl (Nat.le_of_ble_eq_true rfl) (zk_Tokens_takeNumber_0 hf pf I J most ?_)
  rw [hX.2.2.1, hX.2.2.2.2.1, zb_w (x := tk T n s) (by omega) (by omega), zb_w (x := te T n s - s.1) (by omega) (by omega)]
  refine ⟨fun c => ?_, fun c => sc_failHere hX.2.2.2.1 (fun I' a b => ⟨Or.inl rfl, zc_Qi.of (hP0 _ _ ?_ I' a b)⟩)⟩
  · have z := (tk2 hok).mp c
    have zt := te2 z.1
    refine ⟨fun c2 => ?_, fun c2 => ?_⟩
    · have c2' : 4 < te T n s - s.1 := c2
      rw [hX.2.2.2.1]
      refine sc_fail ⟨Or.inl rfl, zc_Qi.of (hP0 1 (s.1 + 4) ?_ _ (((cY.refl I).u (by omega)).u (by omega)) ⟨by rw [zu_ne (by omega), zu_eq], zu_eq⟩)⟩
      unfold pNum
      rw [if_pos z, if_pos (by omega)]
    · have c2' : ¬ 4 < te T n s - s.1 := c2
      exact sc_takeNumber_41 hX z (by omega) hm hP1 hP0 (rn T n fN s.1 - s.1).toNat 0 0 _ (by omega) (by decide) ((cY.refl I).u (by omega)) (fun k k1 => zu_ne (by omega)) zu_eq (by rw [Int.add_zero])
  · unfold pNum
    rw [if_neg (fun r => c ((tk2 hok).mpr r))]
theorem sc_copyName_2 {I0 : zF} (hX0 : cTx T n s I0) (h : s.1 < n ∧ fL (T s.1.toNat) = true) (h6 : rn T n fL s.1 - s.1 ≤ 6) (hP : ∀ I', (∀ i j, i ≠ 9 → I' i j = I0 i j) → (∀ i : Int, 0 ≤ i → i < rn T n fL s.1 - s.1 → I' 9 i.toNat = T (s.1 + i).toNat - 96) → P (rn T n fL s.1 - s.1) I' J) : ∀ (m : Nat) (c : Int) (I : zF), c + m = rn T n fL s.1 - s.1 → 0 ≤ c → (∀ i j, i ≠ 9 → I i j = I0 i j) → (∀ i : Int, 0 ≤ i → i < c → I 9 i.toNat = T (s.1 + i).toNat - 96) → zb_W (d + 1) ax_m102 (2, [some (.inr (.inr (some 3))), some (.inr (.inr (some 9))), some (.inl c)], [], zc_S hf pf I J) (zc_Qi hf pf P) := by
  have hok := hX0.ok
  have hn := hok.n
  have hsp := hok.1
  have r1 := rn_le T n fL s.1
  have r2 := rn_n (T := T) (f := fL) hsp.2
  have zt := te1 h
  intro m
  induction m with
  | zero =>
    intro c I hc h0 hF hl
    have e3 : I 3 3 = rn T n fL s.1 - s.1 := by rw [hF 3 3 (by omega), hX0.2.2.2.2.1, zt]
    refine zk_Tokens_copyName_2 hf pf I J c ?_
    rw [e3, zb_w (x := c) (by omega) (by omega), zb_w (x := rn T n fL s.1 - s.1) (by omega) (by omega)]
    refine ⟨fun q => by omega, fun _ => sc_min ⟨by omega, by omega⟩ ⟨by decide, by decide⟩ (zc_Qi.of ?_)⟩
    have := hP I hF (fun i a b => hl i a (by omega))
    rwa [if_neg (by omega)]
  | succ m ih =>
    intro c I hc h0 hF hl
    have e3 : I 3 3 = rn T n fL s.1 - s.1 := by rw [hF 3 3 (by omega), hX0.2.2.2.2.1, zt]
    have e2 : I 3 2 = s.1 := by rw [hF 3 2 (by omega)]; exact hX0.2.2.2.1
    have tI : tC T n I := ⟨by rw [hF 1 1 (by omega)]; exact hX0.t.1, hX0.t.2.1, fun j hj => by rw [hF 2 j (by omega)]; exact hX0.t.2.2 j hj⟩
    refine zk_Tokens_copyName_2 hf pf I J c ?_
    rw [e3, e2, zb_w (x := c) (by omega) (by omega), zb_w (x := rn T n fL s.1 - s.1) (by omega) (by omega)]
    refine ⟨fun _ => ⟨fun _ => sc_at tI ⟨by omega, by omega⟩ ⟨by omega, ?_⟩, fun q => absurd (show c < 6 by omega) q⟩, fun q => absurd (show c < rn T n fL s.1 - s.1 by omega) q⟩
    rw [if_pos (by omega)]
    refine ih (c + 1) _ (by omega) (by omega) (fun i j q => by rw [zu_ne (by omega)]; exact hF i j q) (fun i a b => ?_)
    by_cases e : i = c
    · rw [e, zu_eq]; omega
    · rw [zu_ne (by omega)]; exact hl i a (by omega)
theorem sc_copyName (hX : cTx T n s I) (h : s.1 < n ∧ fL (T s.1.toNat) = true) (h6 : rn T n fL s.1 - s.1 ≤ 6) (hP : ∀ I', (∀ i j, i ≠ 9 → I' i j = I i j) → (∀ i : Int, 0 ≤ i → i < rn T n fL s.1 - s.1 → I' 9 i.toNat = T (s.1 + i).toNat - 96) → P (rn T n fL s.1 - s.1) I' J) : zc_i (d + 2) 102 [.inr (.inr (some 3)), .inr (.inr (some 9))] hf pf I J P := by
  have r1 := rn_le T n fL s.1
  exact zc_ini (M := ax_m102) rfl (Nat.le_of_ble_eq_true rfl) (zk_Tokens_copyName_0 hf pf I J (sc_copyName_2 hX h h6 hP (rn T n fL s.1 - s.1).toNat 0 I (by omega) (by decide) (fun _ _ _ => rfl) (fun i a b => by omega)))
theorem tk0 (hok : sOk T n s) : tk T n s = 0 ↔ s.1 = n := by
  have hsp := hok.1
  unfold tk
  by_cases c : s.1 < n
  · rw [if_pos c]
    refine ⟨fun q => ?_, fun q => by omega⟩
    split at q
    · split at q <;> exact absurd q (by decide)
    · split at q
      · split at q <;> exact absurd q (by decide)
      · exact absurd q (by decide)
  · rw [if_neg c]; exact ⟨fun _ => by omega, fun _ => rfl⟩
theorem sc_atEnd (hX : cTx T n s I) (hP : P (if s.1 = n then 1 else 0) I J) : zc_i (d + 1) 93 [.inr (.inr (some 3))] hf pf I J P := by
  have ht := tk_in T n s
  refine zc_ini (M := ax_m93) rfl (Nat.le_of_ble_eq_true rfl) (zk_Tokens_atEnd_0 hf pf I J ?_)
  rw [hX.2.2.1, zb_w (x := tk T n s) (by omega) (by omega)]
  refine ⟨fun c => zc_Qi.of ?_, fun c => zc_Qi.of ?_⟩
  · rwa [if_pos ((tk0 hX.ok).mp c)] at hP
  · rwa [if_neg (fun r => c ((tk0 hX.ok).mpr r))] at hP
/-- the place where a text begins -/
def s0 (T : Nat → Int) (n : Int) : zs := (rn T n fB 0, -1)
theorem s0_ok (hT : tC T n I) : sOk T n (s0 T n) := by
  have h1 := rn_le T n fB 0
  have h2 := rn_n (T := T) (f := fB) hT.2.1.1
  exact ⟨⟨h1, h2⟩, ⟨by show (-1 : Int) ≤ -1; decide, by show (-1 : Int) ≤ rn T n fB 0; omega⟩, sk_sk T n 0, hT.2.1, fun j hj => (hT.2.2 j hj).2⟩
theorem sc_beginT (hT : tC T n I) (hP : ∀ I', cY I I' → cTx T n (s0 T n) I' → P0 I' J) : zc_v (d + 4) 90 [.inr (.inr (some 3))] hf pf I J P0 := by
  have h1 := rn_le T n fB 0
  have y : cY I (ax_u (ax_u (ax_u (ax_u (ax_u I 3 6 0) 3 7 (-1)) 3 1 3) 3 2 0) 3 3 0) := ((((((cY.refl I).u (by omega)).u (by omega)).u (by omega)).u (by omega)).u (by omega))
  refine zc_inv (M := ax_m90) rfl (Nat.le_of_ble_eq_true rfl) (zk_Tokens_begin_0 hf pf I J (sc_advance_g (s0_ok hT) (y.t hT) (f := 0) ?_ ?_ ⟨by decide, hT.2.1.1⟩ rfl ?_ ?_ (fun I' a b _ _ => zc_Qv.of (hP I' (y.trans a) b))))
  · rw [zu_ne (by omega), zu_ne (by omega), zu_eq]; decide
  · rw [zu_ne (by omega), zu_eq, zu_eq]; rfl
  · rw [zu_ne (by omega), zu_ne (by omega), zu_eq]
    refine ⟨fun q => absurd q.1 (by decide), fun q => ?_⟩
    have q' : rn T n fB 0 = -1 := q
    omega
  · exact ⟨by rw [zu_ne (by omega), zu_ne (by omega), zu_ne (by omega), zu_ne (by omega), zu_eq], by rw [zu_ne (by omega), zu_ne (by omega), zu_ne (by omega), zu_eq]⟩
end ZCG
