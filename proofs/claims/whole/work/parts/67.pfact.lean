/-! FACTS, pure: facts by the stack -/
section ZPG
variable {T : Nat → Int} {n : Int} {kd : Nat} {dep : Int} {s : zs} {K C st cs : List Int} {r : zR}
theorem okAt_br : okAt (25 :: K) := fun y q e => by
  have : (25 : Int) = y := by injection e
  subst this
  exact ⟨by decide, by decide⟩
theorem closet_s {pd : List Int} (hpd : pdAt pd) (h93 : lc T n s.1 = 93) (hm : mMt T n kd 1 (aS T n s) K dep (C ++ pd) r) : mMt T n kd 2 s (pd ++ 25 :: K) (dep + 1) C r := by
  obtain ⟨b1, b2, b3⟩ := sU_br (K := K) (pdAt_br hpd)
  obtain ⟨f, hf⟩ := hm
  refine ⟨f + 1, ?_⟩
  show (if _ then _ else _) = _
  rw [if_pos ⟨h93, b3⟩, b1, b2, show dep + 1 - 1 = dep by omega]
  exact hf
theorem oMt_no (h : oMt T n s = none) : ¬ wd T n s = 24 := fun q => by unfold oMt at h; rw [if_pos q] at h; exact absurd h (by simp)
theorem oAt_no (h : oAt T n s = none) : ¬ wd T n s = 25 := fun q => by unfold oAt at h; rw [if_pos q] at h; exact absurd h (by simp)
theorem nocloset_s {pd : List Int} (hpd : pdAt pd) (hO : oMt T n s = none ∧ oAt T n s = none) (h93 : ¬ lc T n s.1 = 93) : mMt T n kd 2 s (pd ++ 25 :: K) dep C (.inl (1, s.1)) := by
  obtain ⟨b1, b2, b3⟩ := sU_br (K := K) (pdAt_br hpd)
  refine ⟨1, ?_⟩
  show (if _ then _ else _) = _
  rw [if_neg (fun q => h93 q.1), if_neg (oMt_no hO.1), if_neg (oAt_no hO.2), if_pos b3]
theorem m_endt (hO : oMt T n s = none ∧ oAt T n s = none) (hx : hB st = false) : mMt T n kd 2 s st dep cs (.inr (s, cs ++ st)) := by
  refine ⟨1, ?_⟩
  show (if _ then _ else _) = _
  rw [if_neg (fun q => by rw [hx] at q; exact absurd q.2 (by decide)), if_neg (oMt_no hO.1), if_neg (oAt_no hO.2), if_neg (by rw [hx]; decide)]
theorem pCmp_ok (hn : n ≤ 1600) {d : Nat} {s' : zs} {out : List Int} (hs : sOk T n s) (h : pCmp T n kd d s = .inr (s', out)) : sOk T n s' ∧ s.1 < s'.1 := by
  have hS := sum_s hn (part_s (T := T) (kd := kd) hn d)
  unfold pCmp at h
  cases hq : pSum T n (pPart T n kd d) s with
  | inl e => rw [hq] at h; exact absurd h (by simp [pBnd])
  | inr y =>
    obtain ⟨s1, o1⟩ := y
    obtain ⟨⟨z1, z2⟩, _⟩ := (hS s hs).2 _ _ hq
    rw [hq] at h
    have h1 : (if lc T n s1.1 = 60 ∨ lc T n s1.1 = 62 ∨ lc T n s1.1 = 61 then pPut (pAdd (pSum T n (pPart T n kd d) (aS T n s1)) o1) [if lc T n s1.1 = 60 then 7 else if lc T n s1.1 = 62 then 8 else 9] else .inl (1, s1.1)) = .inr (s', out) := h
    by_cases c : lc T n s1.1 = 60 ∨ lc T n s1.1 = 62 ∨ lc T n s1.1 = 61
    · rw [if_pos c] at h1
      have lt : s1.1 < n := by
        rcases c with c | c | c <;> exact (lc_lt c (by decide)).1
      have l1 := aS_lt T n s1
      cases hv : pSum T n (pPart T n kd d) (aS T n s1) with
      | inl e => rw [hv] at h1; exact absurd h1 (by simp [pAdd, pPut])
      | inr y2 =>
        obtain ⟨s2, o2⟩ := y2
        obtain ⟨⟨v1, v2⟩, _⟩ := (hS _ (aS_ok z1 lt)).2 _ _ hv
        rw [hv] at h1
        have e : s2 = s' := congrArg Prod.fst (Sum.inr.inj h1)
        subst e
        exact ⟨v1, by omega⟩
    · rw [if_neg c] at h1
      exact absurd h1 (by simp)
theorem pAll_ok (hn : n ≤ 1600) {d : Nat} {s' : zs} {out : List Int} (hs : sOk T n s) (h : pAll T n kd d s = .inr (s', out)) : sOk T n s' ∧ s.1 < s'.1 := by
  unfold pAll at h
  by_cases c : wd T n s = 22
  · rw [if_pos c] at h
    have e : aWd T n s = s' := congrArg Prod.fst (Sum.inr.inj h)
    subst e
    exact ⟨aWd_ok hs, aWd_lt (by omega)⟩
  · rw [if_neg c] at h
    exact pCmp_ok hn hs h
theorem m_all {d : Nat} (hd : (6 - dep).toNat = d) (h : ¬ lc T n s.1 = 91) (hw : ¬ wd T n s = 23) : (∀ e, pAll T n kd d s = .inl e → ∀ K C, mMt T n kd 0 s K dep C (.inl e)) ∧ (∀ s' out, pAll T n kd d s = .inr (s', out) → ∀ K C r, mMt T n kd 1 s' K dep (C ++ out) r → mMt T n kd 0 s K dep C r) := by
  refine ⟨fun e he K C => ⟨1, ?_⟩, fun s' out he K C r hm => ?_⟩
  · show (if _ then _ else _) = _
    rw [if_neg h, if_neg hw, hd, he]
  · obtain ⟨f, hf⟩ := hm
    refine ⟨f + 1, ?_⟩
    show (if _ then _ else _) = _
    rw [if_neg h, if_neg hw, hd, he]
    exact hf
theorem fact_0 (hn : n ≤ 1600) : sPt T n kd 6 (pFact T n kd 0) := by
  intro s hs
  have eP : pFact T n kd 0 s = (if lc T n s.1 = 91 then .inl (4, s.1) else if wd T n s = 23 then .inl (4, s.1) else pAll T n kd 0 s) := rfl
  rw [eP]
  by_cases c1 : lc T n s.1 = 91
  · rw [if_pos c1]
    refine ⟨fun e h K C => ?_, fun s' out h => absurd h (by simp)⟩
    cases h
    exact ⟨1, by show (if _ then _ else _) = _; rw [if_pos c1, if_pos rfl]⟩
  · rw [if_neg c1]
    by_cases c2 : wd T n s = 23
    · rw [if_pos c2]
      refine ⟨fun e h K C => ?_, fun s' out h => absurd h (by simp)⟩
      cases h
      exact ⟨1, by show (if _ then _ else _) = _; rw [if_neg c1, if_pos c2, if_pos rfl]⟩
    · rw [if_neg c2]
      obtain ⟨a1, a2⟩ := m_all (kd := kd) (dep := 6) (d := 0) (by decide) c1 c2
      exact ⟨a1, fun s' out h => ⟨pAll_ok hn hs h, a2 s' out h⟩⟩
theorem fact_1 {d : Nat} (hn : n ≤ 1600) (hd : dep ≠ 6) (hdd : (6 - dep).toNat = d + 1) (ih : sPt T n kd (dep + 1) (pFact T n kd d)) : sPt T n kd dep (pFact T n kd (d + 1)) := by
  have hS := sum_st hn ih
  intro s hs
  have eP : pFact T n kd (d + 1) s = (if lc T n s.1 = 91 then pThen T n 93 (pTst T n (pFact T n kd d) (aS T n s)) else if wd T n s = 23 then pPut (pFact T n kd d (aWd T n s)) [12] else pAll T n kd (d + 1) s) := rfl
  rw [eP]
  by_cases c1 : lc T n s.1 = 91
  · rw [if_pos c1]
    have lt := (lc_lt c1 (by decide)).1
    have hs1 := aS_ok hs lt
    have l1 := aS_lt T n s
    have op : ∀ K C r, mMt T n kd 0 (aS T n s) (25 :: K) (dep + 1) C r → mMt T n kd 0 s K dep C r := fun K C r hm => by
      obtain ⟨f, hf⟩ := hm
      refine ⟨f + 1, ?_⟩
      show (if _ then _ else _) = _
      rw [if_pos c1, if_neg hd]
      exact hf
    obtain ⟨q1, q2⟩ := hS _ hs1
    cases hq : pTst T n (pFact T n kd d) (aS T n s) with
    | inl e0 =>
      refine ⟨fun e h K C => ?_, fun s' out h => absurd h (by simp [pThen])⟩
      cases h
      exact op K C _ (q1 _ hq _ _ okAt_br)
    | inr y =>
      obtain ⟨s1, o1⟩ := y
      obtain ⟨⟨z1, z2⟩, z3, z4⟩ := q2 _ _ hq
      show (∀ e, (if lc T n s1.1 = 93 then (.inr (aS T n s1, o1) : zR) else .inl (1, s1.1)) = .inl e → _) ∧ (∀ s' out, (if lc T n s1.1 = 93 then (.inr (aS T n s1, o1) : zR) else .inl (1, s1.1)) = .inr (s', out) → _)
      by_cases c2 : lc T n s1.1 = 93
      · rw [if_pos c2]
        refine ⟨fun e h => absurd h (by simp), fun s' out h => ?_⟩
        cases h
        have l2 := aS_lt T n s1
        refine ⟨⟨aS_ok z1 (lc_lt c2 (by decide)).1, by omega⟩, fun K C r hm => op K C r (z4 _ _ _ okAt_br (fun pd C' hpd hC => closet_s hpd c2 ?_))⟩
        rw [hC]
        exact hm
      · rw [if_neg c2]
        refine ⟨fun e h K C => ?_, fun s' out h => absurd h (by simp)⟩
        cases h
        exact op K C _ (z4 _ _ _ okAt_br (fun pd C' hpd hC => nocloset_s hpd z3 c2))
  · rw [if_neg c1]
    by_cases c2 : wd T n s = 23
    · rw [if_pos c2]
      have lw := aWd_lt (T := T) (n := n) (s := s) (by omega)
      obtain ⟨p1, p2⟩ := ih _ (aWd_ok hs)
      have op : ∀ K C r, mMt T n kd 0 (aWd T n s) (12 :: K) (dep + 1) C r → mMt T n kd 0 s K dep C r := fun K C r hm => by
        obtain ⟨f, hf⟩ := hm
        refine ⟨f + 1, ?_⟩
        show (if _ then _ else _) = _
        rw [if_neg c1, if_pos c2, if_neg hd]
        exact hf
      cases hq : pFact T n kd d (aWd T n s) with
      | inl e0 =>
        refine ⟨fun e h K C => ?_, fun s' out h => absurd h (by simp [pPut])⟩
        cases h
        exact op K C _ (p1 _ hq _ _)
      | inr y =>
        obtain ⟨s1, o1⟩ := y
        obtain ⟨⟨z1, z2⟩, z3⟩ := p2 _ _ hq
        refine ⟨fun e h => absurd h (by simp [pPut]), fun s' out h => ?_⟩
        have h' : ((s1, o1 ++ [12]) : zs × List Int) = (s', out) := Sum.inr.inj h
        cases h'
        refine ⟨⟨z1, by omega⟩, fun K C r hm => op K C r (z3 _ _ _ ?_)⟩
        obtain ⟨f, hf⟩ := hm
        refine ⟨f + 1, ?_⟩
        show (if (12 : Int) = 12 then _ else _) = _
        rw [if_pos rfl, show dep + 1 - 1 = dep by omega, List.append_assoc]
        exact hf
    · rw [if_neg c2]
      obtain ⟨a1, a2⟩ := m_all (kd := kd) hdd c1 c2
      exact ⟨a1, fun s' out h => ⟨pAll_ok hn hs h, a2 s' out h⟩⟩
theorem fact_s (hn : n ≤ 1600) : ∀ d : Nat, d ≤ 6 → sPt T n kd (6 - (d : Int)) (pFact T n kd d) := by
  intro d
  induction d with
  | zero => intro _; exact fact_0 hn
  | succ d ih =>
    intro hd
    refine fact_1 hn (by omega) (by omega) ?_
    rw [show (6 : Int) - ((d + 1 : Nat) : Int) + 1 = 6 - (d : Int) by omega]
    exact ih (by omega)
/-- a test by the stack: the same -/
theorem test_eq (hn : n ≤ 1600) {d : Nat} (hd : d ≤ 6) (hs : sOk T n s) (C : List Int) : mMt T n kd 0 s [] (6 - (d : Int)) C (pAdd (pTst T n (pFact T n kd d) s) C) := by
  obtain ⟨q1, q2⟩ := sum_st hn (fact_s (kd := kd) hn d hd) s hs
  cases hq : pTst T n (pFact T n kd d) s with
  | inl e0 => exact q1 _ hq [] C (fun x r e => absurd e (by simp))
  | inr y =>
    obtain ⟨s1, o1⟩ := y
    obtain ⟨⟨z1, z2⟩, z3, z4⟩ := q2 _ _ hq
    refine z4 [] C _ (fun x r e => absurd e (by simp)) (fun pd C' hpd hC => ?_)
    rw [List.append_nil]
    have := m_endt (kd := kd) (dep := 6 - (d : Int)) (cs := C') (st := pd) z3 (hB_no (pdAt_br hpd))
    rw [hC] at this
    exact this
end ZPG
