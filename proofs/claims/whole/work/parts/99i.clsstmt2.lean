/-! THE CLASS: statements -/
def xC (X : zX) (hs : Nat) (I : zF) : Prop := cKd X.1 hs I ∧ cP I (45 + 29 * hs) (X.2.1 0) ∧ cP I (58 + 29 * hs) (X.2.1 1) ∧ I 8 3 = X.2.2.1 ∧ I 8 4 = X.2.2.2
theorem cKd.cg {D : zD} {hs : Nat} {I I' : zF} (h : cKd D hs I) (g : ∀ i j, (39 + 29 * hs ≤ i ∧ i ≤ 43 + 29 * hs ∧ ¬ (i = 39 + 29 * hs ∧ j = 12)) ∨ (62 + 29 * hs ≤ i ∧ i ≤ 65 + 29 * hs) → I' i j = I i j) : cKd D hs I' := ⟨cL_cong h.1 (fun i j q => by unfold cLk at q; exact g i j (by omega)), fun b b0 b1 => by rw [g _ _ (by omega), g _ _ (by omega)]; exact h.2 b b0 b1⟩
/-- nothing has changed but what a statement writes -/
def cDf (hs : Nat) (I I' : zF) : Prop := ∀ i j, ¬ (i = 3 ∧ 1 ≤ j ∧ j ≤ 7) → i ≠ 9 → ¬ (i = 7 ∧ j = 2) → ¬ (i = 8 ∧ (j = 3 ∨ j = 4)) → ¬ (i = 39 + 29 * hs ∧ j ≠ 12) → ¬ (40 + 29 * hs ≤ i ∧ i ≤ 46 + 29 * hs) → ¬ (58 + 29 * hs ≤ i ∧ i ≤ 65 + 29 * hs) → I' i j = I i j
theorem cDf.refl (hs : Nat) (I : zF) : cDf hs I I := fun _ _ _ _ _ _ _ _ _ => rfl
theorem cDf.trans {hs : Nat} {I I' I2 : zF} (h : cDf hs I I') (h2 : cDf hs I' I2) : cDf hs I I2 := fun i j a b c e f g k => (h2 i j a b c e f g k).trans (h i j a b c e f g k)
theorem cLf.D {hs : Nat} {I I' : zF} (h : cLf hs I I') : cDf hs I I' := fun i j a b c e f g k => h i j a b f (by omega) (by omega) (by omega) (by omega) (by omega)
theorem cY.D {hs : Nat} {I I' : zF} (h : cY I I') : cDf hs I I' := fun i j a _ _ _ _ _ _ => h i j a
theorem xC.L {X : zX} {hs : Nat} {D' : zD} {I I' : zF} (h : xC X hs I) (hF : cLf hs I I') (hK : cKd D' hs I') : xC (D', X.2) hs I' := by
  obtain ⟨_, b, c, e, f⟩ := h
  refine ⟨hK, cP_cong ?_ (fun j => ?_) b, cP_cong ?_ (fun j => ?_) c, ?_, ?_⟩
  · exact hF _ _ (by omega) (by omega) (by omega) (by omega) (by omega) (by omega) (by omega) (by omega)
  · exact hF _ _ (by omega) (by omega) (by omega) (by omega) (by omega) (by omega) (by omega) (by omega)
  · exact hF _ _ (by omega) (by omega) (by omega) (by omega) (by omega) (by omega) (by omega) (by omega)
  · exact hF _ _ (by omega) (by omega) (by omega) (by omega) (by omega) (by omega) (by omega) (by omega)
  · rw [hF 8 3 (by omega) (by omega) (by omega) (by omega) (by omega) (by omega) (by omega) (by omega)]; exact e
  · rw [hF 8 4 (by omega) (by omega) (by omega) (by omega) (by omega) (by omega) (by omega) (by omega)]; exact f
theorem xC.cong {X : zX} {hs : Nat} {I I' : zF} (h : xC X hs I) (g : ∀ i j, (39 ≤ i ∧ ¬ (i = 39 + 29 * hs ∧ j = 12)) ∨ i = 8 → I' i j = I i j) : xC X hs I' := by
  obtain ⟨a, b, c, e, f⟩ := h
  exact ⟨a.cg (fun i j q => g i j (by omega)), cP_cong (g _ _ (by omega)) (fun j => g _ _ (by omega)) b, cP_cong (g _ _ (by omega)) (fun j => g _ _ (by omega)) c, by rw [g 8 3 (by omega)]; exact e, by rw [g 8 4 (by omega)]; exact f⟩
theorem isP45 {hs : Nat} (eh : hs = 0 ∨ hs = 1) : isP (45 + 29 * hs) := by unfold isP; omega
theorem isP58 {hs : Nat} (eh : hs = 0 ∨ hs = 1) : isP (58 + 29 * hs) := by unfold isP; omega
section ZCSe
variable {T : Nat → Int} {n : Int} {d hf pf hs : Nat} {I J : zF} {s : zs} {X : zX} {P : Nat → Int → zF → zF → Prop}
theorem cR_sum0 {p k : Nat} (hpf : isP p) (hk2 : k ≤ 2) : cRd T n hf p J k 18 32 0 (pSum T n (pPart T n k 6)) := cR_sums (T := T) (n := n) (hf := hf) (J := J) hpf hk2 (dd := 6) (by decide)
theorem sc_statement (eh : hs = 0 ∨ hs = 1) (hX : cTx T n s I) (hxk : xOk X) (hC : xC X hs I) (hP0 : ∀ p k q, pStm T n X s = .inl (k, q) → ∀ I', cDf hs I I' → cBad k q I' → P p 0 I' J) (hP1 : ∀ p s' X', pStm T n X s = .inr (s', X') → ∀ I', cDf hs I I' → cTx T n s' I' → xC X' hs I' → P p 1 I' J) : zc_ip (d + 36) 78 [.inr (.inr (some 8)), .inr (.inr (some ((39 + 29 * hs))))] hf pf I J P := by
  have hok := hX.ok
  obtain ⟨ok, hb, f1, f2, f3, f4, f5, f6⟩ := id hxk
  obtain ⟨K, cp0, cp1, t0, t1⟩ := id hC
  have lift0 : ∀ {r : Sum (Int × Int) (zs × zD)}, pStm T n X s = pLift X r → ∀ p k q, r = .inl (k, q) → ∀ I', cLf hs I I' → cBad k q I' → P p 0 I' J := fun e p k q er I' f b => by
    rw [er] at e
    exact hP0 p k q e I' f.D b
  have lift1 : ∀ {r : Sum (Int × Int) (zs × zD)}, pStm T n X s = pLift X r → ∀ p s' D', r = .inr (s', D') → ∀ I', cLf hs I I' → cTx T n s' I' → cKd D' hs I' → P p 1 I' J := fun e p s' D' er I' f t k => by
    rw [er] at e
    exact hP1 p s' (D', X.2) e I' f.D t (hC.L f k)
  refine zb_in (M := ax_m78) rfl (Nat.le_of_ble_eq_true rfl) (zkp_ShopReader_statement_0 hf pf I J hs eh (sc_is hX (ks := 0) (by decide) (by decide) (bc (fun c0 => ?_) (fun c0 => sc_is hX (ks := 4) (by decide) (by decide) (bc (fun c4 => ?_) (fun c4 => sc_is hX (ks := 5) (by decide) (by decide) (bc (fun c5 => ?_) (fun c5 => sc_is hX (ks := 6) (by decide) (by decide) (bc (fun c6 => ?_) (fun c6 => sc_is hX (ks := 21) (by decide) (by decide) (bc (fun c21 => ?_) (fun c21 => ?_))))))))))))
  · have c0' : wd T n s = 0 := c0
    have e : pStm T n X s = pLift X (pLet T n X.1 (aWd T n s)) := by unfold pStm; rw [if_pos c0']
    exact sc_letterStatement eh hX (by omega) K ok (fun k q er I' f b => ⟨Or.inl rfl, pf, _, _, _, rfl, rfl, lift0 e pf k q er I' f b⟩) (fun s' D' er I' f t k => ⟨Or.inr rfl, pf, _, _, _, rfl, rfl, lift1 e pf s' D' er I' f t k⟩)
  all_goals have c0' : ¬ wd T n s = 0 := c0
  · have c4' : wd T n s = 4 := c4
    have e : pStm T n X s = pLift X (pWrd T n X.1 (aWd T n s) s.1) := by unfold pStm; rw [if_neg c0', if_pos c4']
    exact sc_wordStatement eh hX (by omega) K ok (fun k q er I' f b => ⟨Or.inl rfl, pf, _, _, _, rfl, rfl, lift0 e pf k q er I' f b⟩) (fun s' D' er I' f t k => ⟨Or.inr rfl, pf, _, _, _, rfl, rfl, lift1 e pf s' D' er I' f t k⟩)
  all_goals have c4' : ¬ wd T n s = 4 := c4
  · have c5' : wd T n s = 5 := c5
    have e : pStm T n X s = pLift X (pBrd T n X.1 (aWd T n s) s.1) := by unfold pStm; rw [if_neg c0', if_neg c4', if_pos c5']
    exact sc_boardStatement eh hX (by omega) K ok (fun k q er I' f b => ⟨Or.inl rfl, pf, _, _, _, rfl, rfl, lift0 e pf k q er I' f b⟩) (fun s' D' er I' f t k => ⟨Or.inr rfl, pf, _, _, _, rfl, rfl, lift1 e pf s' D' er I' f t k⟩)
  all_goals have c5' : ¬ wd T n s = 5 := c5
  · have c6' : wd T n s = 6 := c6
    have hwp := wd_pos (T := T) (n := n) (s := s) (by omega)
    have e : pStm T n X s = (if X.2.2.1 = 0 then (match pSum T n (pPart T n 0 6) (aWd T n s) with | .inl e => .inl e | .inr (s1, cs) => .inr (s1, X.1, gPut X.2.1 0 cs, 1, X.2.2.2)) else .inl (5, s.1)) := by unfold pStm; rw [if_neg c0', if_neg c4', if_neg c5', if_pos c6']; rfl
    rw [t0]
    refine w_if ⟨by omega, by omega⟩ ⟨by decide, by decide⟩ (fun z => ?_) (fun z => sc_failHere (s := s) hX.2.2.2.1 (fun I1 y1 b1 => ⟨Or.inl rfl, pf, _, _, _, rfl, rfl, hP0 pf 5 s.1 ?_ I1 y1.D b1⟩))
    · rw [if_pos z] at e
      have X0 : cTx T n s (ax_u I 8 3 1) := hX.fr (fun i j q => zu_ne (by omega))
      refine sc_adv_W X0 hwp.1 (fun I1 y1 X1 _ _ => sc_aim (isP45 eh) (fun I2 g2 p2 k2 => ?_))
      have X2 : cTx T n (aWd T n s) I2 := X1.fr (fun i j q => g2 i j (by omega) (by omega))
      have F2 : cDf hs I I2 := fun i j a b c e f g k => by rw [g2 i j (by omega) (by omega), y1 i j a, zu_ne (by omega)]
      have h1 := X2.ok.1
      refine cR_sum0 (isP45 eh) (by decide) (d + 35) _ [] I2 _ (by omega) X2 p2 k2 (by simp; omega) (fun k q er I3 x3 b3 => ⟨Or.inl rfl, _, _, _, _, rfl, rfl, hP0 _ k q ?_ I3 (F2.trans (fun i j a b c e f g k => x3 i j a (by omega) (by omega))) b3⟩) (fun s' out er I3 x3 X3 p3 => ⟨Or.inr rfl, _, _, _, _, rfl, rfl, hP1 _ s' (X.1, gPut X.2.1 0 out, 1, X.2.2.2) ?_ I3 (F2.trans (fun i j a b c e f g k => x3 i j a (by omega) (by omega))) X3 ⟨?_, ?_, ?_, ?_, ?_⟩⟩)
      · rw [e, er]
      · rw [e, er]
      · exact K.cg (fun i j q => by rw [x3 i j (by omega) (by omega) (by omega), g2 i j (by omega) (by omega), y1 i j (by omega), zu_ne (by omega)])
      · exact p3
      · refine cP_cong ?_ (fun j => ?_) cp1
        · rw [x3 _ _ (by omega) (by omega) (by omega), g2 _ _ (by omega) (by omega), y1 _ _ (by omega), zu_ne (by omega)]
        · rw [x3 _ _ (by omega) (by omega) (by omega), g2 _ _ (by omega) (by omega), y1 _ _ (by omega), zu_ne (by omega)]
      · rw [x3 8 3 (by omega) (by omega) (by omega), g2 8 3 (by omega) (by omega), y1 8 3 (by omega), zu_eq]
      · rw [x3 8 4 (by omega) (by omega) (by omega), g2 8 4 (by omega) (by omega), y1 8 4 (by omega), zu_ne (by omega)]; exact t1
    · rw [e, if_neg z]
  all_goals have c6' : ¬ wd T n s = 6 := c6
  · have c21' : wd T n s = 21 := c21
    have hwp := wd_pos (T := T) (n := n) (s := s) (by omega)
    have e : pStm T n X s = (if X.2.2.2 = 0 then (match pTst T n (pFact T n 1 6) (aWd T n s) with | .inl e => .inl e | .inr (s1, cs) => .inr (s1, X.1, gPut X.2.1 1 cs, X.2.2.1, 1)) else .inl (5, s.1)) := by unfold pStm; rw [if_neg c0', if_neg c4', if_neg c5', if_neg c6', if_pos c21']; rfl
    rw [t1]
    refine w_if ⟨by omega, by omega⟩ ⟨by decide, by decide⟩ (fun z => ?_) (fun z => sc_failHere (s := s) hX.2.2.2.1 (fun I1 y1 b1 => ⟨Or.inl rfl, pf, _, _, _, rfl, rfl, hP0 pf 5 s.1 ?_ I1 y1.D b1⟩))
    · rw [if_pos z] at e
      have X0 : cTx T n s (ax_u I 8 4 1) := hX.fr (fun i j q => zu_ne (by omega))
      refine sc_adv_W X0 hwp.1 (fun I1 y1 X1 _ _ => sc_aim (isP58 eh) (fun I2 g2 p2 k2 => ?_))
      have X2 : cTx T n (aWd T n s) I2 := X1.fr (fun i j q => g2 i j (by omega) (by omega))
      have F2 : cDf hs I I2 := fun i j a b c e f g k => by rw [g2 i j (by omega) (by omega), y1 i j a, zu_ne (by omega)]
      have h1 := X2.ok.1
      refine cR_tests (isP58 eh) (by decide) (d + 35) _ [] I2 _ (by omega) X2 p2 k2 (by simp; omega) (fun k q er I3 x3 b3 => ⟨Or.inl rfl, _, _, _, _, rfl, rfl, hP0 _ k q ?_ I3 (F2.trans (fun i j a b c e f g k => x3 i j a (by omega) (by omega))) b3⟩) (fun s' out er I3 x3 X3 p3 => ⟨Or.inr rfl, _, _, _, _, rfl, rfl, hP1 _ s' (X.1, gPut X.2.1 1 out, X.2.2.1, 1) ?_ I3 (F2.trans (fun i j a b c e f g k => x3 i j a (by omega) (by omega))) X3 ⟨?_, ?_, ?_, ?_, ?_⟩⟩)
      · rw [e, er]
      · rw [e, er]
      · exact K.cg (fun i j q => by rw [x3 i j (by omega) (by omega) (by omega), g2 i j (by omega) (by omega), y1 i j (by omega), zu_ne (by omega)])
      · refine cP_cong ?_ (fun j => ?_) cp0
        · rw [x3 _ _ (by omega) (by omega) (by omega), g2 _ _ (by omega) (by omega), y1 _ _ (by omega), zu_ne (by omega)]
        · rw [x3 _ _ (by omega) (by omega) (by omega), g2 _ _ (by omega) (by omega), y1 _ _ (by omega), zu_ne (by omega)]
      · exact p3
      · rw [x3 8 3 (by omega) (by omega) (by omega), g2 8 3 (by omega) (by omega), y1 8 3 (by omega), zu_ne (by omega)]; exact t0
      · rw [x3 8 4 (by omega) (by omega) (by omega), g2 8 4 (by omega) (by omega), y1 8 4 (by omega), zu_eq]
    · rw [e, if_neg z]
  · have c21' : ¬ wd T n s = 21 := c21
    refine zc_ini (M := ax_m79) rfl (Nat.le_of_ble_eq_true rfl) (zk_ShopReader_settingStatement_0 hf pf I J hs (sc_is hX (ks := 26) (by decide) (by decide) (sc_is hX (ks := 27) (by decide) (by decide) ?_)))
    by_cases c26 : wd T n s = 26
    · have c27 : ¬ wd T n s = 27 := by omega
      rw [if_pos (show wd T n s = ((26 : Nat) : Int) from c26), if_neg (show ¬ wd T n s = ((27 : Nat) : Int) from c27)]
      have e : pStm T n X s = pLift X (pSet T n X.1 (aWd T n s) 0 99) := by unfold pStm; rw [if_neg c0', if_neg c4', if_neg c5', if_neg c6', if_neg c21', if_pos c26]
      exact b1 (ss_49 eh hX (by omega) K (Or.inl ⟨rfl, rfl, rfl, rfl⟩) (fun k q er I' f b => ⟨Or.inl rfl, pf, _, _, _, rfl, rfl, lift0 e pf k q er I' f b⟩) (fun s' D' er I' f t k => ⟨Or.inr rfl, pf, _, _, _, rfl, rfl, lift1 e pf s' D' er I' f t k⟩))
    · rw [if_neg (show ¬ wd T n s = ((26 : Nat) : Int) from c26)]
      refine b0 ?_
      by_cases c27 : wd T n s = 27
      · rw [if_pos (show wd T n s = ((27 : Nat) : Int) from c27)]
        have e : pStm T n X s = pLift X (pSet T n X.1 (aWd T n s) 2 100) := by unfold pStm; rw [if_neg c0', if_neg c4', if_neg c5', if_neg c6', if_neg c21', if_neg c26, if_neg (by omega), if_pos c27]
        exact b1 (ss_49 eh hX (by omega) K (Or.inr (Or.inr ⟨rfl, rfl, rfl, rfl⟩)) (fun k q er I' f b => ⟨Or.inl rfl, pf, _, _, _, rfl, rfl, lift0 e pf k q er I' f b⟩) (fun s' D' er I' f t k => ⟨Or.inr rfl, pf, _, _, _, rfl, rfl, lift1 e pf s' D' er I' f t k⟩))
      · rw [if_neg (show ¬ wd T n s = ((27 : Nat) : Int) from c27)]
        refine b0 (sc_is hX (ks := 28) (by decide) (by decide) (bc (fun c28 => ?_) (fun c28 => ?_)))
        · have c28' : wd T n s = 28 := c28
          have e : pStm T n X s = pLift X (pSet T n X.1 (aWd T n s) 1 99) := by unfold pStm; rw [if_neg c0', if_neg c4', if_neg c5', if_neg c6', if_neg c21', if_neg c26, if_pos c28']
          exact ss_49 eh hX (by omega) K (Or.inr (Or.inl ⟨rfl, rfl, rfl, rfl⟩)) (fun k q er I' f b => ⟨Or.inl rfl, pf, _, _, _, rfl, rfl, lift0 e pf k q er I' f b⟩) (fun s' D' er I' f t k => ⟨Or.inr rfl, pf, _, _, _, rfl, rfl, lift1 e pf s' D' er I' f t k⟩)
        · have c28' : ¬ wd T n s = 28 := c28
          have e : pStm T n X s = .inl (1, s.1) := by unfold pStm; rw [if_neg c0', if_neg c4', if_neg c5', if_neg c6', if_neg c21', if_neg c26, if_neg c28', if_neg c27]
          exact sc_failHere (s := s) hX.2.2.2.1 (fun I1 y1 b1 => ⟨Or.inl rfl, zc_Qi.of ⟨Or.inl rfl, pf, _, _, _, rfl, rfl, hP0 pf 1 s.1 e I1 y1.D b1⟩⟩)
end ZCSe
