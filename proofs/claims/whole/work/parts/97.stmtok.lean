/-! STATEMENTS keep a shop as it may be -/
section ZSO
variable {T : Nat → Int} {n : Int} {s s' : zs} {D D' : zD} {pg : zG} {X X1 : zX}
theorem pLet_ok (hs : sOk T n s) (ok : zD_ok D pg) (hb : bOk D) (e : pLet T n D s = .inr (s', D')) : zD_ok D' pg ∧ bOk D' ∧ sOk T n s' ∧ s.1 < s'.1 := by
  unfold pLet at e
  cases hn : pName T n s 1 with
  | inl x => rw [hn] at e; cases e
  | inr s1 =>
    rw [hn] at e
    obtain ⟨k1, k2, _, k4, k5⟩ := pName_i hs hn
    have e : (if wd T n s1 = 2 then _ else _) = _ := e
    by_cases c : wd T n s1 = 2
    · rw [if_pos c] at e
      have hlt := wd_w (T := T) (n := n) (s := s1) (by omega)
      cases hv : pNum T n (aWd T n s1) 1 with
      | inl x => rw [hv] at e; cases e
      | inr x =>
        obtain ⟨s3, h⟩ := x
        rw [hv] at e
        obtain ⟨v1, v2, v3, v4⟩ := pNum_i (aWd_ok k1) hv
        have e : (if D 0 h 0 = 12 then _ else _) = _ := e
        by_cases c2 : D 0 h 0 = 12
        · rw [if_pos c2] at e; cases e
        · rw [if_neg c2] at e
          by_cases c3 : pf_at D h (nmL T s 0) = -1
          · rw [if_pos c3] at e
            by_cases c4 : wd T n s3 = 3
            · rw [if_pos c4] at e
              have hlt2 := wd_w (T := T) (n := n) (s := s3) (by omega)
              cases hr : pRows T n 5 0 0 (aWd T n s3) with
              | inl x => rw [hr] at e; cases e
              | inr x =>
                obtain ⟨s4, g⟩ := x
                rw [hr] at e
                obtain ⟨r1, r2, r3⟩ := pRows_i 5 0 0 _ s4 g (aWd_ok v1) (by decide) (by decide) ⟨by decide, by decide⟩ hr
                have e' := Sum.inr.inj (show (Sum.inr (s4, dLet D h (nmL T s 0) g) : Sum (Int × Int) (zs × zD)) = .inr (s', D') from e)
                have e1 : s4 = s' := congrArg Prod.fst e'
                have e2 : dLet D h (nmL T s 0) g = D' := congrArg Prod.snd e'
                have a0 := ok.a0 h 0
                rw [← e1, ← e2]
                exact ⟨dLet_ok ok (k5 0 (by decide) (by omega)) r3 (by omega), dLet_b ok hb, r1, by omega⟩
            · rw [if_neg c4] at e; cases e
          · rw [if_neg c3] at e; cases e
    · rw [if_neg c] at e; cases e
theorem pWrd_ok {b : Int} (hs : sOk T n s) (ok : zD_ok D pg) (hb : bOk D) (e : pWrd T n D s b = .inr (s', D')) : zD_ok D' pg ∧ bOk D' ∧ sOk T n s' ∧ s.1 < s'.1 := by
  unfold pWrd at e
  by_cases c8 : D 3 0 0 = 8
  · rw [if_pos c8] at e; cases e
  · rw [if_neg c8] at e
    cases hn : pName T n s 6 with
    | inl x => rw [hn] at e; cases e
    | inr s1 =>
      rw [hn] at e
      obtain ⟨k1, k2, _, k4, k5⟩ := pName_i hs hn
      have e : (if pFw T n D s = -1 ∧ pAllT D (nmL T s) (nmN T n s).toNat 0 = 1 then _ else _) = _ := e
      by_cases c : pFw T n D s = -1 ∧ pAllT D (nmL T s) (nmN T n s).toNat 0 = 1
      · rw [if_pos c] at e
        have e' := Sum.inr.inj e
        have e1 : s1 = s' := congrArg Prod.fst e'
        have e2 : dWrd D (nmL T s) (nmN T n s) = D' := congrArg Prod.snd e'
        have a3 := ok.a3 0 0
        have al := (pAllT_1 (D := D) (sd := nmL T s) (nmN T n s).toNat 0).mp c.2
        rw [← e1, ← e2]
        exact ⟨dWrd_ok ok k4 k5 (by omega) (fun k k0 k1 => al k k0 (by omega)), dWrd_b ok hb, k1, k2⟩
      · rw [if_neg c] at e; cases e
theorem pBrd_ok {b : Int} (hs : sOk T n s) (ok : zD_ok D pg) (hb : bOk D) (e : pBrd T n D s b = .inr (s', D')) : zD_ok D' pg ∧ bOk D' ∧ sOk T n s' ∧ s.1 < s'.1 := by
  unfold pBrd at e
  by_cases c8 : D 6 0 0 = 4
  · rw [if_pos c8] at e; cases e
  · rw [if_neg c8] at e
    cases hn : pName T n s 6 with
    | inl x => rw [hn] at e; cases e
    | inr s1 =>
      rw [hn] at e
      obtain ⟨k1, k2, _, k4, k5⟩ := pName_i hs hn
      have e : (if pFw T n D s = -1 then _ else _) = _ := e
      by_cases c : pFw T n D s = -1
      · rw [if_pos c] at e; cases e
      · rw [if_neg c] at e
        have pw := pFw_in (T := T) (n := n) (s := s) ok
        by_cases c2 : wd T n s1 = 2
        · rw [if_pos c2] at e
          have hlt := wd_w (T := T) (n := n) (s := s1) (by omega)
          cases hv : pNum T n (aWd T n s1) 1 with
          | inl x => rw [hv] at e; cases e
          | inr x =>
            obtain ⟨s3, h⟩ := x
            rw [hv] at e
            obtain ⟨v1, v2, v3, v4⟩ := pNum_i (aWd_ok k1) hv
            have e : (if pf_canPaint D (pFw T n D s) h = 1 then _ else _) = _ := e
            by_cases c3 : pf_canPaint D (pFw T n D s) h = 1
            · rw [if_pos c3] at e
              have e' := Sum.inr.inj e
              have e1 : s3 = s' := congrArg Prod.fst e'
              have e2 : dBrd D (pFw T n D s) h = D' := congrArg Prod.snd e'
              have a6 := ok.a6 0 0
              rw [← e1, ← e2]
              exact ⟨dBrd_ok ok (by omega), dBrd_b ok hb (by omega) (by omega) c3, v1, by omega⟩
            · rw [if_neg c3] at e; cases e
        · rw [if_neg c2] at e; cases e
theorem pSet_ok {k most : Int} (hm : most ≤ 100) (hs : sOk T n s) (ok : zD_ok D pg) (hb : bOk D) (e : pSet T n D s k most = .inr (s', D')) : zD_ok D' pg ∧ bOk D' ∧ sOk T n s' ∧ s.1 < s'.1 := by
  unfold pSet at e
  cases hv : pNum T n s most with
  | inl x => rw [hv] at e; cases e
  | inr x =>
    obtain ⟨s3, v⟩ := x
    rw [hv] at e
    obtain ⟨v1, v2, v3, v4⟩ := pNum_i hs hv
    have e' := Sum.inr.inj (show (Sum.inr (s3, dRul D k v) : Sum (Int × Int) (zs × zD)) = .inr (s', D') from e)
    have e1 : s3 = s' := congrArg Prod.fst e'
    have e2 : dRul D k v = D' := congrArg Prod.snd e'
    rw [← e1, ← e2]
    exact ⟨dRul_ok ok (by omega), dRul_b ok hb, v1, v2⟩
theorem pLift_i {r : Sum (Int × Int) (zs × zD)} (e : pLift X r = .inr (s', X1)) : ∃ D', r = .inr (s', D') ∧ X1 = (D', X.2) := by
  cases r with
  | inl x => cases e
  | inr x =>
    obtain ⟨s1, D1⟩ := x
    have e' := Sum.inr.inj (show (Sum.inr (s1, D1, X.2) : Sum (Int × Int) (zs × zX)) = .inr (s', X1) from e)
    have e1 : s1 = s' := congrArg Prod.fst e'
    have e2 : (D1, X.2) = X1 := congrArg Prod.snd e'
    exact ⟨D1, by rw [e1], e2.symm⟩
theorem pLift_n {r : Sum (Int × Int) (zs × zD)} {y : Int × Int} (e : pLift X r = .inl y) : r = .inl y := by
  cases r with
  | inl x => exact congrArg Sum.inl (Sum.inl.inj (show (Sum.inl x : Sum (Int × Int) (zs × zX)) = .inl y from e))
  | inr x => cases e
theorem xOk.dd {D' : zD} (h : xOk X) (h1 : zD_ok D' X.2.1) (h2 : bOk D') : xOk (D', X.2) := ⟨h1, h2, h.2.2⟩
theorem tr_ne {kd : Nat} {b : Bool} {cs : List Int} (h : pf_tr kd cs [] = some [b]) : cs ≠ [] := fun q => by
  rw [q] at h
  have h' : some ([] : List Bool) = some [b] := h
  cases h'
theorem sum_ok {s1 : zs} {cs : List Int} (hs : sOk T n s) (e : pSum T n (pPart T n 0 6) s = .inr (s1, cs)) : pf_tr 0 cs [] = some [false] ∧ (cs.length : Int) ≤ s1.1 - s.1 ∧ sOk T n s1 ∧ s.1 < s1.1 := by
  obtain ⟨t1, t2, t3, t4⟩ := tyR_sum (tyR_part (T := T) (n := n) (kd := 0) 6) s s1 cs hs e
  exact ⟨t1 [] (by decide), t2, t3, t4⟩
theorem tst_ok {s1 : zs} {cs : List Int} (hs : sOk T n s) (e : pTst T n (pFact T n 1 6) s = .inr (s1, cs)) : pf_tr 1 cs [] = some [true] ∧ (cs.length : Int) ≤ s1.1 - s.1 ∧ sOk T n s1 ∧ s.1 < s1.1 := by
  obtain ⟨t1, t2, t3, t4⟩ := tyR_tst (tyR_fact (T := T) (n := n) (kd := 1) 6) s s1 cs hs e
  exact ⟨t1 [] (by decide), t2, t3, t4⟩
theorem pStm_ok (hs : sOk T n s) (hX : xOk X) (e : pStm T n X s = .inr (s', X1)) : xOk X1 ∧ sOk T n s' ∧ s.1 < s'.1 := by
  obtain ⟨ok, hb, f1, f2, f3, f4, f5, f6⟩ := id hX
  have ha := aWd_ok hs
  unfold pStm at e
  by_cases c0 : wd T n s = 0
  · rw [if_pos c0] at e
    have hlt := wd_w (T := T) (n := n) (s := s) (by omega)
    obtain ⟨D', e1, e2⟩ := pLift_i e
    obtain ⟨q1, q2, q3, q4⟩ := pLet_ok ha ok hb e1
    rw [e2]; exact ⟨hX.dd q1 q2, q3, by omega⟩
  · rw [if_neg c0] at e
    by_cases c4 : wd T n s = 4
    · rw [if_pos c4] at e
      have hlt := wd_w (T := T) (n := n) (s := s) (by omega)
      obtain ⟨D', e1, e2⟩ := pLift_i e
      obtain ⟨q1, q2, q3, q4⟩ := pWrd_ok ha ok hb e1
      rw [e2]; exact ⟨hX.dd q1 q2, q3, by omega⟩
    · rw [if_neg c4] at e
      by_cases c5 : wd T n s = 5
      · rw [if_pos c5] at e
        have hlt := wd_w (T := T) (n := n) (s := s) (by omega)
        obtain ⟨D', e1, e2⟩ := pLift_i e
        obtain ⟨q1, q2, q3, q4⟩ := pBrd_ok ha ok hb e1
        rw [e2]; exact ⟨hX.dd q1 q2, q3, by omega⟩
      · rw [if_neg c5] at e
        by_cases c6 : wd T n s = 6
        · rw [if_pos c6] at e
          have hlt := wd_w (T := T) (n := n) (s := s) (by omega)
          by_cases t : X.2.2.1 = 0
          · rw [if_pos t] at e
            cases hp : pSum T n (pPart T n 0 6) (aWd T n s) with
            | inl x => rw [hp] at e; cases e
            | inr x =>
              obtain ⟨s1, cs⟩ := x
              rw [hp] at e
              obtain ⟨t1, t2, t3, t4⟩ := sum_ok ha hp
              have h3 := t3.1
              have hn := t3.n
              have e' := Sum.inr.inj (show (Sum.inr (s1, X.1, gPut X.2.1 0 cs, 1, X.2.2.2) : Sum (Int × Int) (zs × zX)) = .inr (s', X1) from e)
              have e1 : s1 = s' := congrArg Prod.fst e'
              have e2 : (X.1, gPut X.2.1 0 cs, 1, X.2.2.2) = X1 := congrArg Prod.snd e'
              have h1 := ha.1
              rw [← e1, ← e2]
              exact ⟨⟨gPut_0 ok t1 (by omega), hb, Or.inr rfl, f2, fun z => absurd z (by show ¬ (1 : Int) = 0; decide), f4, fun _ => tr_ne t1, f6⟩, t3, by omega⟩
          · rw [if_neg t] at e; cases e
        · rw [if_neg c6] at e
          by_cases c21 : wd T n s = 21
          · rw [if_pos c21] at e
            have hlt := wd_w (T := T) (n := n) (s := s) (by omega)
            by_cases t : X.2.2.2 = 0
            · rw [if_pos t] at e
              cases hp : pTst T n (pFact T n 1 6) (aWd T n s) with
              | inl x => rw [hp] at e; cases e
              | inr x =>
                obtain ⟨s1, cs⟩ := x
                rw [hp] at e
                obtain ⟨t1, t2, t3, t4⟩ := tst_ok ha hp
                have h3 := t3.1
                have hn := t3.n
                have e' := Sum.inr.inj (show (Sum.inr (s1, X.1, gPut X.2.1 1 cs, X.2.2.1, 1) : Sum (Int × Int) (zs × zX)) = .inr (s', X1) from e)
                have e1 : s1 = s' := congrArg Prod.fst e'
                have e2 : (X.1, gPut X.2.1 1 cs, X.2.2.1, 1) = X1 := congrArg Prod.snd e'
                have h1 := ha.1
                rw [← e1, ← e2]
                exact ⟨⟨gPut_1 ok t1 (by omega), hb, f1, Or.inr rfl, f3, fun z => absurd z (by show ¬ (1 : Int) = 0; decide), f5, fun _ => tr_ne t1⟩, t3, by omega⟩
            · rw [if_neg t] at e; cases e
          · rw [if_neg c21] at e
            by_cases c26 : wd T n s = 26
            · rw [if_pos c26] at e
              have hlt := wd_w (T := T) (n := n) (s := s) (by omega)
              obtain ⟨D', e1, e2⟩ := pLift_i e
              obtain ⟨q1, q2, q3, q4⟩ := pSet_ok (by decide) ha ok hb e1
              rw [e2]; exact ⟨hX.dd q1 q2, q3, by omega⟩
            · rw [if_neg c26] at e
              by_cases c28 : wd T n s = 28
              · rw [if_pos c28] at e
                have hlt := wd_w (T := T) (n := n) (s := s) (by omega)
                obtain ⟨D', e1, e2⟩ := pLift_i e
                obtain ⟨q1, q2, q3, q4⟩ := pSet_ok (by decide) ha ok hb e1
                rw [e2]; exact ⟨hX.dd q1 q2, q3, by omega⟩
              · rw [if_neg c28] at e
                by_cases c27 : wd T n s = 27
                · rw [if_pos c27] at e
                  have hlt := wd_w (T := T) (n := n) (s := s) (by omega)
                  obtain ⟨D', e1, e2⟩ := pLift_i e
                  obtain ⟨q1, q2, q3, q4⟩ := pSet_ok (by decide) ha ok hb e1
                  rw [e2]; exact ⟨hX.dd q1 q2, q3, by omega⟩
                · rw [if_neg c27] at e; cases e
end ZSO
