/-! THE REFERENCE: ask -/
theorem pAsk_ok {T : Nat → Int} {n k : Int} {cs : List Int} (hs : sOk T n (s0 T n)) (e : pAsk T n = .inr (k, cs)) : (0 ≤ k ∧ k ≤ 5) ∧ pf_tr 2 cs [] = some [decide (k < 3)] ∧ cs.length ≤ 1600 := by
  have hn := hs.n
  have ha := aWd_ok hs
  unfold pAsk at e
  split at e
  case isFalse => cases e
  rename_i hw
  cases h : pQf T n (wd T n (s0 T n) - 29) (aWd T n (s0 T n)) with
  | inl e' => rw [h] at e; cases e
  | inr q =>
    obtain ⟨s', out⟩ := q
    rw [h] at e
    have e2 : (if s'.1 = n then Sum.inr (wd T n (s0 T n) - 29, out) else Sum.inl ((1 : Int), s'.1)) = (Sum.inr (k, cs) : Sum (Int × Int) (Int × List Int)) := e
    split at e2
    case isFalse => cases e2
    cases e2
    refine ⟨by omega, ?_⟩
    unfold pQf at h
    split at h
    · rename_i h3
      obtain ⟨t1, t2, t3, t4⟩ := tyR_tst (tyR_fact (T := T) (n := n) (kd := 2) 6) _ s' _ ha h
      have h0 := ha.1
      have h1 := t3.1
      rw [decide_eq_true h3]
      exact ⟨t1 [] (by decide), by omega⟩
    · rename_i h3
      obtain ⟨t1, t2, t3, t4⟩ := tyR_sum (tyR_part (T := T) (n := n) (kd := 2) 6) _ s' _ ha h
      have h0 := ha.1
      have h1 := t3.1
      rw [decide_eq_false h3]
      exact ⟨t1 [] (by decide), by omega⟩
theorem pTk_b {k v i r : Int} {nw : Bool} (hv : b6 v) (hi : 0 ≤ i ∧ i ≤ 8) (hr : -(1000000 * (i + 1)) ≤ r ∧ r ≤ 1000000 * (i + 1)) : -(1000000 * (i + 2)) ≤ pTk k v i nw r ∧ pTk k v i nw r ≤ 1000000 * (i + 2) := by
  have h1 := hv.1
  have h2 := hv.2
  unfold pTk
  repeat' split
  all_goals omega
/-- what is kept while lines are laid -/
def rXl (I J I' J' : zF) : Prop := (∀ i j, i ≠ 40 → ¬ (44 ≤ i ∧ i ≤ 49) → ¬ (i = 0 ∧ (j = 56 ∨ (59 ≤ j ∧ j ≤ 65) ∨ j = 74 ∨ j = 112)) → I' i j = I i j) ∧ J' 0 = J 0
/-- what is kept by a question -/
def rAk (I I' : zF) : Prop := ∀ i j, i ≠ 40 → ¬ (44 ≤ i ∧ i ≤ 49) → i ≠ 75 → i ≠ 76 → ¬ (i = 0 ∧ (j = 1 ∨ j = 2 ∨ j = 3 ∨ j = 4 ∨ j = 5 ∨ j = 6 ∨ j = 7 ∨ j = 8 ∨ j = 10 ∨ j = 56 ∨ (59 ≤ j ∧ j ≤ 65) ∨ j = 74 ∨ j = 106 ∨ j = 108 ∨ j = 109 ∨ j = 110 ∨ j = 112 ∨ j = 114)) → I' i j = I i j
def lnT (D : zD) (pg : zG) (a b : Int) (I : zF) : Prop := ∀ o t, 0 ≤ o → 0 ≤ t → t < D 3 0 0 → (o < a ∨ (o = a ∧ t < b)) → I 47 (8 * o + t).toNat = (pf_L D pg o t 0 0 0).1
section ZAW
variable {d : Nat} {I J : zF} {D : zD} {pg : zG} {W : zD} {T : Nat → Int} {n : Int} {P : Int → zF → zF → Prop} {Q : Option ax_v → ax_S → Prop}
theorem rB_47 (h : rB D pg W I) {j : Nat} {x : Int} : rB D pg W (ax_u I 47 j x) := ⟨rS_cong h.S (fun i j a b _ => zu_ne (by omega)) (zu_ne (by omega)) (zu_ne (by omega)), h.W, by rw [zu_oth (by decide)]; exact h.2.2⟩
theorem rB_0 (h : rB D pg W I) {j : Nat} {x : Int} (hj : j ≠ 45 ∧ j ≠ 48) : rB D pg W (ax_u I 0 j x) := ⟨rS_cong h.S (fun i j a b _ => zu_ne (by omega)) (zu_ne (by omega)) (zu_ne (by omega)), h.W, by rw [zu_oth (by decide)]; exact h.2.2⟩
theorem ak_177 {I0 J0 : zF} {a1 a2 : Int} (h2 : 0 ≤ a2 ∧ a2 < D 3 0 0) (hQ : ∀ I' J', rXl I0 J0 I' J' → rB D pg W I' → lnT D pg (a2 + 1) 0 I' → zb_W (d + 9) ax_m305 (167, [some (.inr (.inr (some 0))), some (.inl a1), some (.inl (a2 + 1)), none], [], zr_S I' J') Q) : ∀ (m : Nat) (a3 : Int) (I J : zF), 0 ≤ a3 → a3 + m = D 3 0 0 → rXl I0 J0 I J → rB D pg W I → lnT D pg a2 a3 I → zb_W (d + 9) ax_m305 (177, [some (.inr (.inr (some 0))), some (.inl a1), some (.inl a2), some (.inl a3)], [], zr_S I J) Q := by
  intro m
  induction m with
  | zero =>
    intro a3 I J h0 hm hX hB hl
    have h3 := hB.S.ok.a3 0 0
    refine zq_ask_177 I J a1 a2 a3 (sr_wordMany hB.S ?_)
    rw [zb_w (x := a3) (by omega) (by omega), zb_w (x := D 3 0 0) (by omega) (by omega)]
    exact ⟨fun q => by omega, fun _ => hQ I J hX hB (fun o t g0 g1 g2 g3 => hl o t g0 g1 g2 (by omega))⟩
  | succ m ih =>
    intro a3 I J h0 hm hX hB hl
    have h3 := hB.S.ok.a3 0 0
    have ok := hB.S.ok
    refine zq_ask_177 I J a1 a2 a3 (sr_wordMany hB.S ?_)
    rw [zb_w (x := a3) (by omega) (by omega), zb_w (x := D 3 0 0) (by omega) (by omega)]
    refine ⟨fun _ => sr_laysLine_s hB (by decide) h2 (by omega) (fun I1 J1 x1 B1 l1 => ?_), fun q => by omega⟩
    rw [zb_w (x := 8 * a2 + a3) (by omega) (by omega), show (ax_w 0).toNat = 0 from rfl, (l1.2 ⟨can0 ok h2, can0 ok (by omega)⟩).1]
    refine ⟨by omega, ih (a3 + 1) _ _ (by omega) (by omega) ⟨fun i j g1 g2 g3 => ?_, x1.2.trans hX.2⟩ (rB_47 B1) (fun o t g0 g1 g2 g3 => ?_)⟩
    · rw [zu_ne (by omega), x1.1 i j g1 (by omega) g3]
      exact hX.1 i j g1 g2 g3
    · by_cases e : o = a2 ∧ t = a3
      · rw [e.1, e.2, zu_eq]
      · rw [zu_ne (by omega), x1.1 47 _ (by omega) (by omega) (by omega)]
        exact hl o t g0 g1 g2 (by omega)
theorem ak_167 {I0 J0 : zF} {a1 : Int} (hQ : ∀ I' J', rXl I0 J0 I' J' → rB D pg W I' → (∀ i, 0 ≤ i → i < D 3 0 0 → lnR D pg i I') → zb_W (d + 9) ax_m305 (228, [some (.inr (.inr (some 0))), some (.inl a1), some (.inl 0), none], [], zr_S (ax_u I' 0 56 2) J') Q) : ∀ (m : Nat) (a2 : Int) (I J : zF), 0 ≤ a2 → a2 + m = D 3 0 0 → rXl I0 J0 I J → rB D pg W I → lnT D pg a2 0 I → zb_W (d + 9) ax_m305 (167, [some (.inr (.inr (some 0))), some (.inl a1), some (.inl a2), none], [], zr_S I J) Q := by
  intro m
  induction m with
  | zero =>
    intro a2 I J h0 hm hX hB hl
    have h3 := hB.S.ok.a3 0 0
    refine zq_ask_167 I J a1 a2 (sr_wordMany hB.S ?_)
    rw [zb_w (x := a2) (by omega) (by omega), zb_w (x := D 3 0 0) (by omega) (by omega)]
    exact ⟨fun q => by omega, fun _ => hQ I J hX hB (fun i g0 g1 a g2 g3 => hl i a g0 g2 g3 (by omega))⟩
  | succ m ih =>
    intro a2 I J h0 hm hX hB hl
    have h3 := hB.S.ok.a3 0 0
    refine zq_ask_167 I J a1 a2 (sr_wordMany hB.S ?_)
    rw [zb_w (x := a2) (by omega) (by omega), zb_w (x := D 3 0 0) (by omega) (by omega)]
    exact ⟨fun _ => ak_177 (I0 := I0) (J0 := J0) (by omega) (fun I' J' hX' hB' hl' => ih (a2 + 1) I' J' (by omega) (by omega) hX' hB' hl') (D 3 0 0).toNat 0 I J (by decide) (by omega) hX hB hl, fun q => by omega⟩
theorem ak_228 {I0 J0 : zF} {k : Int} {cs : List Int} (hk : 0 ≤ k ∧ k ≤ 5) (hcl : cs.length ≤ 1600) {b : Bool} (ht : pf_tr 2 cs [] = some [b]) {fin : Int} (hQ : ∀ I' J', rAk I0 I' → rB D pg W I' → I' 0 1 = I0 0 1 → I' 0 7 = I0 0 7 → I' 0 8 = I0 0 8 → J' 0 80 = J0 0 80 → Q (some (.inr (.inl fin))) (zr_S I' J')) : ∀ (m : Nat) (i r : Int) (nw : Bool) (I J : zF), 0 ≤ i → i + m = D 3 0 0 → (∀ a c, a ≠ 40 → ¬ (44 ≤ a ∧ a ≤ 49) → ¬ (a = 0 ∧ (c = 56 ∨ (59 ≤ c ∧ c ≤ 65) ∨ c = 74 ∨ c = 112 ∨ c = 114)) → I a c = I0 a c) → J 0 80 = J0 0 80 → rB D pg W I → (∀ i, 0 ≤ i → i < D 3 0 0 → lnR D pg i I) → I 0 56 = 2 → I 0 106 = (cs.length : Int) → (∀ q, q < cs.length → I 75 q = cs.getD q 0) → I 0 114 = (if nw = true then 1 else 0) → J 0 113 = r → (-(1000000 * (i + 1)) ≤ r ∧ r ≤ 1000000 * (i + 1)) → pAn D pg (W 0 0 0) k cs m i nw r = fin → zb_W (d + 9) ax_m305 (228, [some (.inr (.inr (some 0))), some (.inl k), some (.inl i), none], [], zr_S I J) Q := by
  intro m
  induction m with
  | zero =>
    intro i r nw I J h0 hm hF hJ hB hl h56 h106 hc hn h113 hr hfin
    have h3 := hB.S.ok.a3 0 0
    refine zq_ask_228 I J k i (sr_wordMany hB.S ?_)
    rw [zb_w (x := i) (by omega) (by omega), zb_w (x := D 3 0 0) (by omega) (by omega)]
    refine ⟨fun q => by omega, fun _ => ?_⟩
    rw [h113, show r = fin from hfin]
    exact hQ I J (fun a c g1 g2 g3 g4 g5 => hF a c g1 g2 (by omega)) hB (hF 0 1 (by omega) (by omega) (by omega)) (hF 0 7 (by omega) (by omega) (by omega)) (hF 0 8 (by omega) (by omega) (by omega)) hJ
  | succ m ih =>
    intro i r nw I J h0 hm hF hJ hB hl h56 h106 hc hn h113 hr hfin
    have h3 := hB.S.ok.a3 0 0
    have hi : 0 ≤ i ∧ i < D 3 0 0 := by omega
    refine zq_ask_228 I J k i (sr_wordMany hB.S ?_)
    rw [zb_w (x := i) (by omega) (by omega), zb_w (x := D 3 0 0) (by omega) (by omega)]
    refine ⟨fun _ => sr_qTold hB hi (hl i hi.1 hi.2) h106 hcl hc h56 ht (fun I1 J1 e1 g56 => ?_), fun q => by omega⟩
    have hv := (pf_res_ok (kd := 2) (fun p _ => qv_b hB.S.ok hB.W hi p) (fun c a => qq_b (i := i) hB.S.ok c a) ht).1
    have B1 := e1.rB hB
    have j1 : J1 0 113 = r := by rw [e1.2 0 113 (by decide)]; exact h113
    have hb := pTk_b (k := k) (nw := nw) hv ⟨hi.1, by omega⟩ hr
    refine sr_qTakes hk hv ⟨by omega, by omega⟩ ⟨by omega, by omega⟩ j1 (nw := nw) (by rw [e1.1 0 114 (by omega)]; exact hn) (fun J2 f2 t2 => ?_)
    refine ih (i + 1) _ false _ J2 (by omega) (by omega) (fun a c g1 g2 g3 => ?_) ?_ (rB_0 B1 (by decide)) (fun i' g0 g1 a g2 g3 => ?_) ?_ ?_ (fun q hq => ?_) ?_ t2 ?_ hfin
    · rw [zu_ne (by omega), e1.1 a c (by omega)]
      exact hF a c g1 g2 g3
    · rw [f2 0 80 (by decide), e1.2 0 80 (by decide)]; exact hJ
    · rw [zu_ne (by omega), e1.1 47 _ (by omega)]
      exact hl i' g0 g1 a g2 g3
    · rw [zu_ne (by omega)]; exact g56
    · rw [zu_ne (by omega), e1.1 0 106 (by omega)]; exact h106
    · rw [zu_ne (by omega), e1.1 75 q (by omega)]; exact hc q hq
    · rw [zu_eq]; rfl
    · rw [show i + 1 + 1 = i + 2 by omega]; exact hb
theorem sr_ask (hB : rB D pg W I) (hT : tR T n I) (hW : rW I) (hb : ∀ k q, pAsk T n = .inl (k, q) → ∀ I', rAk I I' → rB D pg W I' → I' 0 1 = 0 → I' 0 7 = k → I' 0 8 = q → P (-1000000000000000) I' J) (hg : ∀ k cs, pAsk T n = .inr (k, cs) → ∀ I' J', rAk I I' → rB D pg W I' → I' 0 1 = 0 → I' 0 7 = 0 → I' 0 8 = -1 → J' 0 80 = J 0 80 → P (an_ask D pg W k cs) I' J') : zr_l (d + 10) 305 [.inr (.inr (some 0))] I J P := by
  have afB : ∀ {I' : zF}, rAf I I' → rB D pg W I' := fun h => ⟨rS_cong hB.S (fun i j _ _ _ => h i j (by omega) (by omega) (by omega)) (h 0 45 (by omega) (by omega) (by omega)) (h 0 48 (by omega) (by omega) (by omega)), hB.W, by rw [show _ = I 40 from funext (fun j => h 40 j (by omega) (by omega) (by omega))]; exact hB.2.2⟩
  have hs := s0_okR hT
  have h3 := hB.S.ok.a3 0 0
  refine zr_inl (M := ax_m305) rfl (Nat.le_of_ble_eq_true rfl) (ak_0 hT hW (fun k q e I1 a1 A1 z1 b1 => ?_) (fun k cs e I1 dep A1 z1 z5 z6 q1 => ?_))
  · refine zq_ask_117 I1 J a1 ?_
    have hk := b1.2.2
    have w5 : (ax_u (ax_u I1 0 7 (I1 0 5)) 0 8 ((ax_u I1 0 7 (I1 0 5)) 0 6)) 0 5 = k := by rw [zu_ne (by omega), zu_ne (by omega)]; exact b1.1
    rw [w5, zb_w (x := k) (by omega) (by omega)]
    refine ⟨fun q => absurd q (show ¬ k = 0 by omega), fun _ => zr_Ql.of (hb k q e _ (fun i j g1 g2 g3 g4 g5 => ?_) (rB_0 (rB_0 (afB A1) (by decide)) (by decide)) ?_ ?_ ?_)⟩
    · rw [zu_ne (by omega), zu_ne (by omega)]; exact A1 i j (by omega) (by omega) (by omega)
    · rw [zu_ne (by omega), zu_ne (by omega)]; exact z1
    · rw [zu_ne (by omega), zu_eq]; exact b1.1
    · rw [zu_eq, zu_ne (by omega)]; exact b1.2.1
  · obtain ⟨hk, ht, hcl⟩ := pAsk_ok hs e
    refine zq_ask_117 I1 J k ?_
    have w5 : (ax_u (ax_u I1 0 7 (I1 0 5)) 0 8 ((ax_u I1 0 7 (I1 0 5)) 0 6)) 0 5 = 0 := by rw [zu_ne (by omega), zu_ne (by omega)]; exact z5
    rw [w5, zb_w (x := k) (by omega) (by omega)]
    have go : ∀ r : Int, r = (if k < 2 then -1 else 0) → zb_W (d + 9) ax_m305 (167, [some (.inr (.inr (some 0))), some (.inl k), some (.inl 0), none], [], zr_S (ax_u (ax_u (ax_u I1 0 7 (I1 0 5)) 0 8 ((ax_u I1 0 7 (I1 0 5)) 0 6)) 0 114 1) (ax_u J 0 113 r)) (zr_Ql P) := by
      intro r hr
      refine ak_167 (fun I2 J2 x2 B2 l2 => ?_) (D 3 0 0).toNat 0 _ _ (by decide) (by omega) ⟨fun _ _ _ _ _ => rfl, rfl⟩ (rB_0 (rB_0 (rB_0 (afB A1) (by decide)) (by decide)) (by decide)) (fun o t g0 g1 g2 g3 => by omega)
      have x2' : ∀ i j, i ≠ 40 → ¬ (44 ≤ i ∧ i ≤ 49) → ¬ (i = 0 ∧ (j = 56 ∨ (59 ≤ j ∧ j ≤ 65) ∨ j = 74 ∨ j = 112)) → I2 i j = (ax_u (ax_u (ax_u I1 0 7 (I1 0 5)) 0 8 ((ax_u I1 0 7 (I1 0 5)) 0 6)) 0 114 1) i j := x2.1
      have k80 : J2 0 80 = J 0 80 := by rw [congrFun x2.2 80, zu_ne (by omega)]
      have k113 : J2 0 113 = r := by rw [congrFun x2.2 113, zu_eq]
      refine ak_228 (I0 := ax_u I2 0 56 2) (J0 := J2) hk hcl ht (fin := an_ask D pg W k cs) (fun I' J' f1 f2 f3 f4 f5 f6 => zr_Ql.of (hg k cs e I' J' (fun i j g1 g2 g3 g4 g5 => ?_) f2 ?_ ?_ ?_ (f6.trans k80))) (D 3 0 0).toNat 0 r true _ J2 (by decide) (by omega) (fun _ _ _ _ _ => rfl) rfl (rB_0 B2 (by decide)) (fun i g0 g1 a g2 g3 => ?_) zu_eq ?_ (fun q hq => ?_) ?_ k113 ?_ ?_
      · rw [f1 i j g1 g2 g3 g4 g5, zu_ne (by omega), x2' i j g1 g2 (by omega), zu_ne (by omega), zu_ne (by omega), zu_ne (by omega)]
        exact A1 i j (by omega) (by omega) (by omega)
      · rw [f3, zu_ne (by omega), x2' 0 1 (by omega) (by omega) (by omega), zu_ne (by omega), zu_ne (by omega), zu_ne (by omega)]; exact z1
      · rw [f4, zu_ne (by omega), x2' 0 7 (by omega) (by omega) (by omega), zu_ne (by omega), zu_ne (by omega), zu_eq]; exact z5
      · rw [f5, zu_ne (by omega), x2' 0 8 (by omega) (by omega) (by omega), zu_ne (by omega), zu_eq, zu_ne (by omega)]; exact z6
      · rw [zu_ne (by omega)]; exact l2 i g0 g1 a g2 g3
      · rw [zu_ne (by omega), x2' 0 106 (by omega) (by omega) (by omega), zu_ne (by omega), zu_ne (by omega), zu_ne (by omega)]; exact q1.1
      · rw [zu_ne (by omega), x2' 75 q (by omega) (by omega) (by omega), zu_ne (by omega), zu_ne (by omega), zu_ne (by omega)]; exact q1.2.1 q hq
      · rw [zu_ne (by omega), x2' 0 114 (by omega) (by omega) (by omega), zu_eq]; rfl
      · rw [hr]; split <;> omega
      · rw [hr]; rfl
    refine ⟨fun _ => ⟨fun h => go (-1) ?_, fun h => go 0 ?_⟩, fun q => absurd rfl q⟩
    · exact (if_pos (show k < 2 from h)).symm
    · exact (if_neg (show ¬ k < 2 from h)).symm
end ZAW
