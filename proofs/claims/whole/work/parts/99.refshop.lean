/-! THE REFERENCE: statements -/
section ZRS2
variable {d : Nat} {I I0 J : zF} {T : Nat → Int} {n : Int} {s : zs} {X : zX} {m : Int} {P0 : zF → zF → Prop}
theorem dR_rul {D : zD} {k v : Int} (hR : dR D I) (hk : 0 ≤ k ∧ k < 3) : dR (dRul D k v) (ax_u I 36 k.toNat v) := by
  obtain ⟨a, b, c, e, f, g, l, m⟩ := hR
  refine ⟨fun h2 r1 r2 => ?_, fun h2 k2 r1 r2 r3 r4 => ?_, ?_, fun w r1 r2 => ?_, fun w k r1 r2 r3 r4 => ?_, ?_, fun b2 r1 r2 => ?_, fun k2 r1 r2 => ?_⟩
  · rw [zu_ne (by omega), dRul_lo (by decide)]; exact a h2 r1 r2
  · rw [dRul_lo (by decide)] at r4; rw [zu_ne (by omega), zu_ne (by omega), dRul_lo (by decide), dRul_lo (by decide)]; exact b h2 k2 r1 r2 r3 r4
  · rw [zu_ne (by omega), dRul_lo (by decide)]; exact c
  · rw [dRul_lo (by decide)] at r2 ⊢; rw [zu_ne (by omega)]; exact e w r1 r2
  · rw [dRul_lo (by decide)] at r2 r4 ⊢; rw [zu_ne (by omega)]; exact f w k r1 r2 r3 r4
  · rw [zu_ne (by omega), dRul_lo (by decide)]; exact g
  · rw [dRul_lo (by decide)] at r2; rw [zu_ne (by omega), zu_ne (by omega), dRul_lo (by decide), dRul_lo (by decide)]; exact l b2 r1 r2
  · unfold dRul
    by_cases q : k2 = k
    · rw [q, zu_eq, if_pos ⟨rfl, rfl⟩]
    · rw [zu_ne (by omega), if_neg (by omega)]; exact m k2 r1 r2
/-- how a statement comes out -/
def sE (T : Nat → Int) (n : Int) (X : zX) (s : zs) (k q : Int) : Prop := pStm T n X s = .inl (k, q) ∨ ∃ s1 X1, pStm T n X s = .inr (s1, X1) ∧ lc T n s1.1 ≠ 59 ∧ k = 1 ∧ q = s1.1
theorem st_bad {k q : Int} (e : pStm T n X s = .inl (k, q)) (hb : rBad k q I) (hF : rDf I0 I) (hPb : ∀ k q I', sE T n X s k q → rDf I0 I' → rBad k q I' → P0 I' J) : zr_v (d + 1) 187 [.inr (.inr (some 0)), .inl 59] I J (fun I' J' => zr_Qv P0 none (zr_S (ax_u I' 0 55 (I' 0 55 + 1)) J')) := sr_asksSign_b hb (zr_Qv.of (hPb k q _ (Or.inl e) (hF.trans (fun i j a b => zu_ne (by omega))) (hb.to (zu_ne (by omega)) (zu_ne (by omega)))))
theorem st_good {s1 : zs} {X1 : zX} (hX : xOk X) (hs : sOk T n s) (e : pStm T n X s = .inr (s1, X1)) (hL : rTx T n s1 I) (hR : xR X1 I) (h54 : I 0 54 ≤ s1.1) (h55 : I 0 55 = m) (hF : rDf I0 I) (hPb : ∀ k q I', sE T n X s k q → rDf I0 I' → rBad k q I' → P0 I' J) (hPg : ∀ s1 X1 I', pStm T n X s = .inr (s1, X1) → lc T n s1.1 = 59 → rDf I0 I' → rTx T n (aS T n s1) I' → xR X1 I' → xOk X1 → I' 0 54 ≤ s1.1 → I' 0 55 = m + 1 → P0 I' J) : zr_v (d + 3) 187 [.inr (.inr (some 0)), .inl 59] I J (fun I' J' => zr_Qv P0 none (zr_S (ax_u I' 0 55 (I' 0 55 + 1)) J')) := by
  refine sr_asksSign ⟨by decide, by decide⟩ hL (fun c I1 y1 t1 => zr_Qv.of ?_) (fun c I1 y1 b1 => zr_Qv.of ?_)
  · refine hPg s1 X1 _ e c (hF.trans (y1.D.trans (fun i j a b => zu_ne (by omega)))) (t1.dr (fun i j a b => zu_ne (by omega))) ((y1.x hR).cong (fun i j q => zu_ne (by omega))) (pStm_ok hs hX e).1 ?_ ?_
    · rw [zu_ne (by omega), y1 0 54 (by omega)]; exact h54
    · rw [zu_eq, y1 0 55 (by omega), h55]
  · exact hPb 1 s1.1 _ (Or.inr ⟨s1, X1, e, c, rfl, rfl⟩) (hF.trans (y1.D.trans (fun i j a b => zu_ne (by omega)))) (b1.to (zu_ne (by omega)) (zu_ne (by omega)))
theorem sr_statementTold (hL : rTx T n s I) (h2 : I 0 2 = s.1) (hX : xOk X) (hR : xR X I) (h54 : I 0 54 ≤ s.1) (h55 : I 0 55 = m) (hm : 0 ≤ m ∧ m ≤ 60) (hP6 : m = 60 → ∀ I', rDf I I' → rBad 5 s.1 I' → P0 I' J) (hPb : m ≠ 60 → ∀ k q I', sE T n X s k q → rDf I I' → rBad k q I' → P0 I' J) (hPg : m ≠ 60 → ∀ s1 X1 I', pStm T n X s = .inr (s1, X1) → lc T n s1.1 = 59 → rDf I I' → rTx T n (aS T n s1) I' → xR X1 I' → xOk X1 → I' 0 54 ≤ s1.1 → I' 0 55 = m + 1 → P0 I' J) : zr_v (d + 11) 199 [.inr (.inr (some 0))] I J P0 := by
  have hok := hL.ok
  obtain ⟨ok, hb, f1, f2, f3, f4, f5, f6⟩ := id hX
  refine zr_inv (M := ax_m199) rfl (Nat.le_of_ble_eq_true rfl) (zq_statementTold_0 I J ?_)
  rw [h55, h2]
  refine w_if ⟨by omega, by omega⟩ ⟨by decide, by decide⟩ (fun c60 => sr_fail hL.e ⟨by decide, by decide⟩ (fun I1 y1 _ b1 => zr_Qv.of (hP6 c60 I1 y1.D b1))) (fun c60 => ?_)
  have hPb := hPb c60
  have hPg := hPg c60
  have fy : ∀ {I' : zF}, rY I I' → I' 0 55 = m := fun y => by rw [y 0 55 (by omega)]; exact h55
  have fl : ∀ {I' : zF}, rLf I I' → I' 0 55 = m := fun y => by rw [y 0 55 (by omega) (by omega)]; exact h55
  have gl : ∀ {I' : zF} {s1 : zs}, rLf I I' → s.1 ≤ s1.1 → I' 0 54 ≤ s1.1 := fun y h => by rw [y 0 54 (by omega) (by omega)]; omega
  -- a statement without a formula
  have lift : ∀ {I1 I2 : zF} {r : Sum (Int × Int) (zs × zD)}, pStm T n X s = pLift X r → rLf I I1 → (∀ k q, r = .inl (k, q) → rLf I1 I2 → rBad k q I2 → zr_v (d + 10) 187 [.inr (.inr (some 0)), .inl 59] I2 J (fun I' J' => zr_Qv P0 none (zr_S (ax_u I' 0 55 (I' 0 55 + 1)) J'))) ∧ (∀ s' D', r = .inr (s', D') → rLf I1 I2 → rTx T n s' I2 → dR D' I2 → zr_v (d + 10) 187 [.inr (.inr (some 0)), .inl 59] I2 J (fun I' J' => zr_Qv P0 none (zr_S (ax_u I' 0 55 (I' 0 55 + 1)) J'))) := by
    intro I1 I2 r e y1
    refine ⟨fun k q er f b => ?_, fun s' D' er f t R => ?_⟩
    · rw [er] at e
      exact st_bad (I0 := I) (X := X) (s := s) e b (y1.trans f).D hPb
    · rw [er] at e
      have e' : pStm T n X s = .inr (s', (D', X.2)) := e
      exact st_good (I0 := I) hX hok e' t (hR.L (y1.trans f) R) (gl (y1.trans f) (by have := (pStm_ok hok hX e').2.2; omega)) (fl (y1.trans f)) (y1.trans f).D hPb hPg
  refine sr_takes (w := 3) (ks := 0) (by decide) hL (fun c0 I1 y1 t1 => b1 ?_) (fun c0 I1 y1 t1 _ => b0 (sr_takes (w := 6) (ks := 4) (by decide) t1 (fun c4 I2 y2 t2 => b1 ?_) (fun c4 I2 y2 t2 _ => b0 (sr_takes (w := 7) (ks := 5) (by decide) t2 (fun c5 I3 y3 t3 => b1 ?_) (fun c5 I3 y3 t3 _ => b0 (sr_takes (w := 8) (ks := 6) (by decide) t3 (fun c6 I4 y4 t4 => b1 ?_) (fun c6 I4 y4 t4 _ => b0 (sr_takes (w := 9) (ks := 21) (by decide) t4 (fun c21 I5 y5 t5 => b1 ?_) (fun c21 I5 y5 t5 _ => b0 (sr_takes (w := 30) (ks := 26) (by decide) t5 (fun c26 I6 y6 t6 => b1 ?_) (fun c26 I6 y6 t6 _ => b0 (sr_takes (w := 10) (ks := 28) (by decide) t6 (fun c28 I7 y7 t7 => b1 ?_) (fun c28 I7 y7 t7 _ => b0 ?_)))))))))))))
  · have c0' : wd T n s = 0 := c0
    have e : pStm T n X s = pLift X (pLet T n X.1 (aWd T n s)) := by unfold pStm; rw [if_pos c0']
    exact sr_letterTold t1 (y1.R hR.1) ok (fun k q er I9 f b => (lift e y1.L).1 k q er f b) (fun s' D' er I9 f t R => (lift e y1.L).2 s' D' er f t R)
  all_goals have c0' : ¬ wd T n s = 0 := c0
  · have c4' : wd T n s = 4 := c4
    have y := y1.trans y2
    have e : pStm T n X s = pLift X (pWrd T n X.1 (aWd T n s) s.1) := by unfold pStm; rw [if_neg c0', if_pos c4']
    exact sr_wordTold t2 (y.R hR.1) ok (fun k q er I9 f b => (lift e y.L).1 k q er f b) (fun s' D' er I9 f t R => (lift e y.L).2 s' D' er f t R)
  all_goals have c4' : ¬ wd T n s = 4 := c4
  · have c5' : wd T n s = 5 := c5
    have y := y1.trans (y2.trans y3)
    have e : pStm T n X s = pLift X (pBrd T n X.1 (aWd T n s) s.1) := by unfold pStm; rw [if_neg c0', if_neg c4', if_pos c5']
    exact sr_boardTold t3 (y.R hR.1) ok (fun k q er I9 f b => (lift e y.L).1 k q er f b) (fun s' D' er I9 f t R => (lift e y.L).2 s' D' er f t R)
  all_goals have c5' : ¬ wd T n s = 5 := c5
  · have c6' : wd T n s = 6 := c6
    have y := y1.trans (y2.trans (y3.trans y4))
    have hlt := wd_w (T := T) (n := n) (s := s) (by omega)
    have R4 := y.x hR
    have g54 : I4 0 54 = I 0 54 := y 0 54 (by omega)
    have e : pStm T n X s = (if X.2.2.1 = 0 then (match pSum T n (pPart T n 0 6) (aWd T n s) with | .inl e => .inl e | .inr (s1, cs) => .inr (s1, X.1, gPut X.2.1 0 cs, 1, X.2.2.2)) else .inl (5, s.1)) := by unfold pStm; rw [if_neg c0', if_neg c4', if_neg c5', if_pos c6']; rfl
    refine sr_codesTold (w := 0) (by decide) f1 R4.2.2.1 t4 ⟨R4.2.1, by omega⟩ (fun t0 I5 y5 b5 => ?_) (fun t0 k q er I5 f b => ?_) (fun t0 s' out er I5 f t g37 p w5 g39 => ?_)
    · rw [if_neg t0] at e
      exact st_bad (I0 := I) (X := X) (s := s) e b5 (y.trans y5).D hPb
    · have er' : pSum T n (pPart T n 0 6) (aWd T n s) = .inl (k, q) := er
      rw [if_pos t0, er'] at e
      exact st_bad (I0 := I) (X := X) (s := s) e b (y.D.trans f.D) hPb
    · have er' : pSum T n (pPart T n 0 6) (aWd T n s) = .inr (s', out) := er
      rw [if_pos t0, er'] at e
      have e' : pStm T n X s = .inr (s', X.1, gPut X.2.1 0 out, 1, X.2.2.2) := e
      refine st_good (I0 := I) hX hok e' t ⟨R4.1.cong (fun i j q => f i j (by omega) (by omega) (by omega) (by omega) (by omega) (by omega)), by have := R4.2.1; omega, p, R4.2.2.2.cong (g37 1 (by decide)).1 (g37 1 (by decide)).2 w5.1 g39⟩ w5.2 (by rw [f 0 55 (by omega) (by omega) (by omega) (by omega) (by omega) (by omega)]; exact fy y) (y.D.trans f.D) hPb hPg
  all_goals have c6' : ¬ wd T n s = 6 := c6
  · have c21' : wd T n s = 21 := c21
    have y := y1.trans (y2.trans (y3.trans (y4.trans y5)))
    have hlt := wd_w (T := T) (n := n) (s := s) (by omega)
    have R4 := y.x hR
    have g54 : I5 0 54 = I 0 54 := y 0 54 (by omega)
    have e : pStm T n X s = (if X.2.2.2 = 0 then (match pTst T n (pFact T n 1 6) (aWd T n s) with | .inl e => .inl e | .inr (s1, cs) => .inr (s1, X.1, gPut X.2.1 1 cs, X.2.2.1, 1)) else .inl (5, s.1)) := by unfold pStm; rw [if_neg c0', if_neg c4', if_neg c5', if_neg c6', if_pos c21']; rfl
    refine sr_codesTold (w := 1) (by decide) f2 R4.2.2.2 t5 ⟨R4.2.1, by omega⟩ (fun t0 I6 y6 b6 => ?_) (fun t0 k q er I6 f b => ?_) (fun t0 s' out er I6 f t g37 p w5 g39 => ?_)
    · rw [if_neg t0] at e
      exact st_bad (I0 := I) (X := X) (s := s) e b6 (y.trans y6).D hPb
    · have er' : pTst T n (pFact T n 1 6) (aWd T n s) = .inl (k, q) := er
      rw [if_pos t0, er'] at e
      exact st_bad (I0 := I) (X := X) (s := s) e b (y.D.trans f.D) hPb
    · have er' : pTst T n (pFact T n 1 6) (aWd T n s) = .inr (s', out) := er
      rw [if_pos t0, er'] at e
      have e' : pStm T n X s = .inr (s', X.1, gPut X.2.1 1 out, X.2.2.1, 1) := e
      refine st_good (I0 := I) hX hok e' t ⟨R4.1.cong (fun i j q => f i j (by omega) (by omega) (by omega) (by omega) (by omega) (by omega)), by have := R4.2.1; omega, R4.2.2.1.cong (g37 0 (by decide)).1 (g37 0 (by decide)).2 w5.1 g39, p⟩ w5.2 (by rw [f 0 55 (by omega) (by omega) (by omega) (by omega) (by omega) (by omega)]; exact fy y) (y.D.trans f.D) hPb hPg
  all_goals have c21' : ¬ wd T n s = 21 := c21
  · have c26' : wd T n s = 26 := c26
    have y := y1.trans (y2.trans (y3.trans (y4.trans (y5.trans y6))))
    have e : pStm T n X s = pLift X (pSet T n X.1 (aWd T n s) 0 99) := by unfold pStm; rw [if_neg c0', if_neg c4', if_neg c5', if_neg c6', if_neg c21', if_pos c26']
    refine sr_number t6 ⟨by decide, by decide⟩ (fun k q er r I9 hr y9 b9 => ?_) (fun s' v er I9 hv y9 t9 _ => ?_)
    · exact (lift (I1 := I6) e y.L).1 k q (by unfold pSet; rw [er]) (y9.L.trans (fun i j a b => zu_ne (fun z => a (by rw [z.1, z.2]; decide)))) (b9.to (zu_ne (by omega)) (zu_ne (by omega)))
    · exact (lift (I1 := I6) e y.L).2 s' (dRul X.1 0 v) (by unfold pSet; rw [er]) (y9.L.trans (fun i j a b => zu_ne (fun z => a (by rw [z.1, z.2]; decide)))) (t9.dr (fun i j a b => zu_ne (by omega))) (dR_rul (y9.R (y.R hR.1)) ⟨by decide, by decide⟩)
  all_goals have c26' : ¬ wd T n s = 26 := c26
  · have c28' : wd T n s = 28 := c28
    have y := y1.trans (y2.trans (y3.trans (y4.trans (y5.trans (y6.trans y7)))))
    have e : pStm T n X s = pLift X (pSet T n X.1 (aWd T n s) 1 99) := by unfold pStm; rw [if_neg c0', if_neg c4', if_neg c5', if_neg c6', if_neg c21', if_neg c26', if_pos c28']
    refine sr_number t7 ⟨by decide, by decide⟩ (fun k q er r I9 hr y9 b9 => ?_) (fun s' v er I9 hv y9 t9 _ => ?_)
    · exact (lift (I1 := I7) e y.L).1 k q (by unfold pSet; rw [er]) (y9.L.trans (fun i j a b => zu_ne (fun z => a (by rw [z.1, z.2]; decide)))) (b9.to (zu_ne (by omega)) (zu_ne (by omega)))
    · exact (lift (I1 := I7) e y.L).2 s' (dRul X.1 1 v) (by unfold pSet; rw [er]) (y9.L.trans (fun i j a b => zu_ne (fun z => a (by rw [z.1, z.2]; decide)))) (t9.dr (fun i j a b => zu_ne (by omega))) (dR_rul (y9.R (y.R hR.1)) ⟨by decide, by decide⟩)
  · have c28' : ¬ wd T n s = 28 := c28
    have y := y1.trans (y2.trans (y3.trans (y4.trans (y5.trans (y6.trans y7)))))
    refine sr_asks (w := 11) (ks := 27) (by decide) t7 (fun c27 I8 y8 t8 => ?_) (fun c27 I8 y8 b8 => sr_number_b b8 ?_)
    · have c27' : wd T n s = 27 := c27
      have e : pStm T n X s = pLift X (pSet T n X.1 (aWd T n s) 2 100) := by unfold pStm; rw [if_neg c0', if_neg c4', if_neg c5', if_neg c6', if_neg c21', if_neg c26', if_neg c28', if_pos c27']
      have yy := y.trans y8
      refine sr_number t8 ⟨by decide, by decide⟩ (fun k q er r I9 hr y9 b9 => ?_) (fun s' v er I9 hv y9 t9 _ => ?_)
      · exact (lift (I1 := I8) e yy.L).1 k q (by unfold pSet; rw [er]) (y9.L.trans (fun i j a b => zu_ne (fun z => a (by rw [z.1, z.2]; decide)))) (b9.to (zu_ne (by omega)) (zu_ne (by omega)))
      · exact (lift (I1 := I8) e yy.L).2 s' (dRul X.1 2 v) (by unfold pSet; rw [er]) (y9.L.trans (fun i j a b => zu_ne (fun z => a (by rw [z.1, z.2]; decide)))) (t9.dr (fun i j a b => zu_ne (by omega))) (dR_rul (y9.R (yy.R hR.1)) ⟨by decide, by decide⟩)
    · have c27' : ¬ wd T n s = 27 := c27
      have e : pStm T n X s = .inl (1, s.1) := by unfold pStm; rw [if_neg c0', if_neg c4', if_neg c5', if_neg c6', if_neg c21', if_neg c26', if_neg c28', if_neg c27']
      exact st_bad (I0 := I) (X := X) (s := s) e (b8.to (zu_ne (by omega)) (zu_ne (by omega))) ((y.trans y8).D.trans (fun i j a b => zu_ne (fun z => a (by rw [z.1, z.2]; decide)))) hPb
end ZRS2
