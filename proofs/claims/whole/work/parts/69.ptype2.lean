/-! FORMULAS, pure: types of parts and facts -/
section ZPI
variable {T : Nat → Int} {n : Int} {kd : Nat}
theorem pThen_i {c : Int} {r : zR} {s' : zs} {out : List Int} (h : pThen T n c r = .inr (s', out)) : ∃ s1, r = .inr (s1, out) ∧ lc T n s1.1 = c ∧ s' = aS T n s1 := by
  cases r with
  | inl e => exact absurd h (by simp [pThen])
  | inr y =>
    obtain ⟨s1, o1⟩ := y
    have h1 : (if lc T n s1.1 = c then (.inr (aS T n s1, o1) : zR) else .inl (1, s1.1)) = .inr (s', out) := h
    by_cases q : lc T n s1.1 = c
    · rw [if_pos q] at h1
      have h2 := Sum.inr.inj h1
      have e1 : aS T n s1 = s' := congrArg Prod.fst h2
      have e2 : o1 = out := congrArg Prod.snd h2
      exact ⟨s1, by rw [e2], q, e1.symm⟩
    · rw [if_neg q] at h1
      exact absurd h1 (by simp)
theorem pPut_i {r : zR} {l : List Int} {s' : zs} {out : List Int} (h : pPut r l = .inr (s', out)) : ∃ o1, r = .inr (s', o1) ∧ out = o1 ++ l := by
  cases r with
  | inl e => exact absurd h (by simp [pPut])
  | inr y =>
    obtain ⟨s1, o1⟩ := y
    have h2 : ((s1, o1 ++ l) : zs × List Int) = (s', out) := Sum.inr.inj h
    have e1 : s1 = s' := congrArg Prod.fst h2
    exact ⟨o1, by rw [e1], (congrArg Prod.snd h2).symm⟩
theorem pAdd_i {r : zR} {l : List Int} {s' : zs} {out : List Int} (h : pAdd r l = .inr (s', out)) : ∃ o1, r = .inr (s', o1) ∧ out = l ++ o1 := by
  cases r with
  | inl e => exact absurd h (by simp [pAdd])
  | inr y =>
    obtain ⟨s1, o1⟩ := y
    have h2 : ((s1, l ++ o1) : zs × List Int) = (s', out) := Sum.inr.inj h
    have e1 : s1 = s' := congrArg Prod.fst h2
    exact ⟨o1, by rw [e1], (congrArg Prod.snd h2).symm⟩
theorem pBnd_i {r : zR} {k : zs → List Int → zR} {y : zs × List Int} (h : pBnd r k = .inr y) : ∃ s1 c1, r = .inr (s1, c1) ∧ k s1 c1 = .inr y := by
  cases r with
  | inl e => exact absurd h (by simp [pBnd])
  | inr z => obtain ⟨s1, c1⟩ := z; exact ⟨s1, c1, rfl, h⟩
theorem tyR_part : ∀ d : Nat, tyR T n kd false (1 + 3 * d) (pPart T n kd d) := by
  intro d
  induction d with
  | zero =>
    intro s s' out hs e
    have eP : pPart T n kd 0 s = (if lc T n s.1 = 40 then .inl (4, s.1) else if wd T n s = 7 ∨ wd T n s = 8 then (if lc T n (aWd T n s).1 = 40 then .inl (4, (aWd T n s).1) else .inl (1, (aWd T n s).1)) else if pw T n kd s = -1 then pAtom T n kd s else .inl (4, s.1)) := rfl
    rw [eP] at e
    split at e
    · exact absurd e (by simp)
    · split at e
      · split at e <;> exact absurd e (by simp)
      · split at e
        · exact tyR_atom s s' out hs e
        · exact absurd e (by simp)
  | succ d ih =>
    have hS := tyR_sum ih
    intro s s' out hs e
    have eP : pPart T n kd (d + 1) s = (if lc T n s.1 = 40 then pThen T n 41 (pSum T n (pPart T n kd d) (aS T n s)) else if wd T n s = 7 ∨ wd T n s = 8 then (if lc T n (aWd T n s).1 = 40 then pBnd (pThen T n 44 (pSum T n (pPart T n kd d) (aS T n (aWd T n s)))) (fun s1 c1 => pThen T n 41 (pPut (pAdd (pSum T n (pPart T n kd d) s1) c1) [if wd T n s = 7 then 5 else 6])) else .inl (1, (aWd T n s).1)) else if pw T n kd s = -1 then pAtom T n kd s else pPut (pPart T n kd d (aWd T n s)) [pw T n kd s + 50]) := rfl
    rw [eP] at e
    by_cases c1 : lc T n s.1 = 40
    · rw [if_pos c1] at e
      obtain ⟨s1, e1, l1, rfl⟩ := pThen_i e
      obtain ⟨a1, a2, a3, a4⟩ := hS _ _ _ (aS_ok hs (lc_lt c1 (by decide)).1) e1
      have b1 := aS_lt T n s
      have b2 := aS_lt T n s1
      exact ⟨ty_mono (by omega) a1, by omega, aS_ok a3 (lc_lt l1 (by decide)).1, by omega⟩
    · rw [if_neg c1] at e
      by_cases c2 : wd T n s = 7 ∨ wd T n s = 8
      · rw [if_pos c2] at e
        have lw := aWd_lt (T := T) (n := n) (s := s) (by omega)
        by_cases c3 : lc T n (aWd T n s).1 = 40
        · rw [if_pos c3] at e
          obtain ⟨s1, c, e1, e2⟩ := pBnd_i e
          obtain ⟨s2, e3, l2, rfl⟩ := pThen_i e1
          obtain ⟨s3, e4, l3, rfl⟩ := pThen_i e2
          obtain ⟨o4, e5, rfl⟩ := pPut_i e4
          obtain ⟨o5, e6, rfl⟩ := pAdd_i e5
          obtain ⟨a1, a2, a3, a4⟩ := hS _ _ _ (aS_ok (aWd_ok hs) (lc_lt c3 (by decide)).1) e3
          obtain ⟨g1, g2, g3, g4⟩ := hS _ _ _ (aS_ok a3 (lc_lt l2 (by decide)).1) e6
          have b1 := aS_lt T n (aWd T n s)
          have b2 := aS_lt T n s2
          have b3 := aS_lt T n s3
          refine ⟨ty_2 (by omega) (by omega) (fun ts => t1_ar (by split <;> omega) ts) (ty_mono (by omega) a1) g1, ?_, aS_ok g3 (lc_lt l3 (by decide)).1, by omega⟩
          simp only [List.length_append, List.length_cons, List.length_nil]
          omega
        · rw [if_neg c3] at e
          exact absurd e (by simp)
      · rw [if_neg c2] at e
        by_cases c4 : pw T n kd s = -1
        · rw [if_pos c4] at e
          obtain ⟨a1, a2⟩ := tyR_atom s s' out hs e
          exact ⟨ty_mono (by omega) a1, a2⟩
        · rw [if_neg c4] at e
          obtain ⟨w1, w2⟩ := pw_in c4
          have lw := aWd_lt w1
          obtain ⟨o1, e1, rfl⟩ := pPut_i e
          obtain ⟨a1, a2, a3, a4⟩ := ih _ _ _ (aWd_ok hs) e1
          have hal : alw kd (pw T n kd s) = true := by
            unfold pw at *
            split at c4
            · rename_i q
              rw [if_pos q]
              exact q.2
            · exact absurd rfl c4
          refine ⟨ty_u (b := false) (by omega) (fun ts => ?_) (ty_mono (by omega) a1), ?_, a3, by omega⟩
          · unfold pf_t1
            rw [if_neg (by omega), if_pos (by omega), al_p w2 hal, if_pos rfl, if_pos (by omega)]
          · simp only [List.length_append, List.length_cons, List.length_nil]
            omega
theorem tyR_cmp (d : Nat) : tyR T n kd true (4 + 3 * d) (pCmp T n kd d) := by
  have hS := tyR_sum (tyR_part (T := T) (n := n) (kd := kd) d)
  intro s s' out hs e
  obtain ⟨s1, c, e1, e2⟩ := pBnd_i e
  obtain ⟨a1, a2, a3, a4⟩ := hS _ _ _ hs e1
  by_cases q : lc T n s1.1 = 60 ∨ lc T n s1.1 = 62 ∨ lc T n s1.1 = 61
  · rw [if_pos q] at e2
    obtain ⟨o4, e5, rfl⟩ := pPut_i e2
    obtain ⟨o5, e6, rfl⟩ := pAdd_i e5
    have lt : s1.1 < n := by rcases q with q | q | q <;> exact (lc_lt q (by decide)).1
    obtain ⟨g1, g2, g3, g4⟩ := hS _ _ _ (aS_ok a3 lt) e6
    have b2 := aS_lt T n s1
    refine ⟨ty_2 (by omega) (by omega) (fun ts => t1_cm (by split; omega; split <;> omega) ts) (ty_mono (by omega) a1) g1, ?_, g3, by omega⟩
    simp only [List.length_append, List.length_cons, List.length_nil]
    omega
  · rw [if_neg q] at e2
    exact absurd e2 (by simp)
theorem tyR_all (d : Nat) : tyR T n kd true (4 + 3 * d) (pAll T n kd d) := by
  intro s s' out hs e
  unfold pAll at e
  by_cases c : wd T n s = 22
  · rw [if_pos c] at e
    have h2 := Sum.inr.inj e
    have e1 : aWd T n s = s' := congrArg Prod.fst h2
    have e2 : [13] = out := congrArg Prod.snd h2
    subst e1 e2
    have lw := aWd_lt (T := T) (n := n) (s := s) (by omega)
    refine ⟨ty_mono (by omega) (ty_1 (fun ts => ?_)), by simp only [List.length_cons, List.length_nil]; omega, aWd_ok hs, lw⟩
    unfold pf_t1
    rw [if_neg (by omega), if_neg (by omega), if_pos rfl]
  · rw [if_neg c] at e
    exact tyR_cmp d s s' out hs e
theorem tyR_fact : ∀ d : Nat, tyR T n kd true (4 + 3 * d) (pFact T n kd d) := by
  intro d
  induction d with
  | zero =>
    intro s s' out hs e
    have eP : pFact T n kd 0 s = (if lc T n s.1 = 91 then .inl (4, s.1) else if wd T n s = 23 then .inl (4, s.1) else pAll T n kd 0 s) := rfl
    rw [eP] at e
    split at e
    · exact absurd e (by simp)
    · split at e
      · exact absurd e (by simp)
      · exact tyR_all 0 s s' out hs e
  | succ d ih =>
    have hS := tyR_tst ih
    intro s s' out hs e
    have eP : pFact T n kd (d + 1) s = (if lc T n s.1 = 91 then pThen T n 93 (pTst T n (pFact T n kd d) (aS T n s)) else if wd T n s = 23 then pPut (pFact T n kd d (aWd T n s)) [12] else pAll T n kd (d + 1) s) := rfl
    rw [eP] at e
    by_cases c1 : lc T n s.1 = 91
    · rw [if_pos c1] at e
      obtain ⟨s1, e1, l1, rfl⟩ := pThen_i e
      obtain ⟨a1, a2, a3, a4⟩ := hS _ _ _ (aS_ok hs (lc_lt c1 (by decide)).1) e1
      have b1 := aS_lt T n s
      have b2 := aS_lt T n s1
      exact ⟨ty_mono (by omega) a1, by omega, aS_ok a3 (lc_lt l1 (by decide)).1, by omega⟩
    · rw [if_neg c1] at e
      by_cases c2 : wd T n s = 23
      · rw [if_pos c2] at e
        have lw := aWd_lt (T := T) (n := n) (s := s) (by omega)
        obtain ⟨o1, e1, rfl⟩ := pPut_i e
        obtain ⟨a1, a2, a3, a4⟩ := ih _ _ _ (aWd_ok hs) e1
        refine ⟨ty_u (b := true) (by omega) (fun ts => ?_) (ty_mono (by omega) a1), ?_, a3, by omega⟩
        · unfold pf_t1
          rw [if_neg (by omega), if_neg (by omega), if_neg (by omega), if_pos rfl]
        · simp only [List.length_append, List.length_cons, List.length_nil]
          omega
      · rw [if_neg c2] at e
        exact tyR_all (d + 1) s s' out hs e
end ZPI
