/-! FORMULAS, pure: the stack does what the descent does -/
section ZPB
variable {T : Nat → Int} {n : Int} {kd : Nat} {s : zs} {st : List Int} {dep : Int} {cs : List Int} {r : zR}
theorem m_mul (h : lc T n s.1 = 42 ∨ lc T n s.1 = 47) (hm : mM T n kd 0 (aS T n s) ((if lc T n s.1 = 42 then 3 else 4) :: pD fM st) dep (cs ++ pU fM st) r) : mM T n kd 2 s st dep cs r := by
  obtain ⟨f, hf⟩ := hm
  refine ⟨f + 1, ?_⟩
  show (if _ then _ else _) = _
  rw [if_neg (by omega), if_pos h]
  exact hf
theorem m_add (h : lc T n s.1 = 43 ∨ lc T n s.1 = 45) (hm : mM T n kd 0 (aS T n s) ((if lc T n s.1 = 43 then 1 else 2) :: pD fA st) dep (cs ++ pU fA st) r) : mM T n kd 2 s st dep cs r := by
  obtain ⟨f, hf⟩ := hm
  refine ⟨f + 1, ?_⟩
  show (if _ then _ else _) = _
  rw [if_neg (by omega), if_neg (by omega), if_pos h]
  exact hf
theorem m_close (h : lc T n s.1 = 41) (hx : bX st = 20 ∨ bX st = 23 ∨ bX st = 24) (hm : mM T n kd 1 (aS T n s) (bD st) (dep - 1) (cs ++ bU st ++ (if bX st = 20 then [] else if bX st = 23 then [5] else [6])) r) : mM T n kd 2 s st dep cs r := by
  obtain ⟨f, hf⟩ := hm
  refine ⟨f + 1, ?_⟩
  show (if _ then _ else _) = _
  rw [if_pos ⟨h, hx⟩]
  exact hf
theorem m_comma (h : lc T n s.1 = 44) (hx : bX st = 21 ∨ bX st = 22) (hm : mM T n kd 0 (aS T n s) ((bX st + 2) :: bD st) dep (cs ++ bU st) r) : mM T n kd 2 s st dep cs r := by
  obtain ⟨f, hf⟩ := hm
  refine ⟨f + 1, ?_⟩
  show (if _ then _ else _) = _
  rw [if_neg (by omega), if_neg (by omega), if_neg (by omega), if_pos hx, if_pos h]
  exact hf
theorem m_bad (hM : oM T n s = none) (hA : oA T n s = none) (hx : bX st ≠ -1) (h1 : ¬ (lc T n s.1 = 41 ∧ (bX st = 20 ∨ bX st = 23 ∨ bX st = 24))) (h2 : ¬ (lc T n s.1 = 44 ∧ (bX st = 21 ∨ bX st = 22))) : mM T n kd 2 s st dep cs (.inl (1, s.1)) := by
  have a : ¬ (lc T n s.1 = 42 ∨ lc T n s.1 = 47) := by
    intro q
    unfold oM at hM
    rcases q with q | q
    · rw [if_pos q] at hM; exact absurd hM (by simp)
    · rw [if_neg (by omega), if_pos q] at hM; exact absurd hM (by simp)
  have b : ¬ (lc T n s.1 = 43 ∨ lc T n s.1 = 45) := by
    intro q
    unfold oA at hA
    rcases q with q | q
    · rw [if_pos q] at hA; exact absurd hA (by simp)
    · rw [if_neg (by omega), if_pos q] at hA; exact absurd hA (by simp)
  refine ⟨1, ?_⟩
  show (if _ then _ else _) = _
  rw [if_neg h1, if_neg a, if_neg b]
  by_cases c : bX st = 21 ∨ bX st = 22
  · rw [if_pos c, if_neg (fun q => h2 ⟨q, c⟩)]
  · rw [if_neg c, if_neg hx]
theorem m_end (hM : oM T n s = none) (hA : oA T n s = none) (hx : bX st = -1) : mM T n kd 2 s st dep cs (.inr (s, cs ++ st)) := by
  have a : ¬ (lc T n s.1 = 42 ∨ lc T n s.1 = 47) := by
    intro q
    unfold oM at hM
    rcases q with q | q
    · rw [if_pos q] at hM; exact absurd hM (by simp)
    · rw [if_neg (by omega), if_pos q] at hM; exact absurd hM (by simp)
  have b : ¬ (lc T n s.1 = 43 ∨ lc T n s.1 = 45) := by
    intro q
    unfold oA at hA
    rcases q with q | q
    · rw [if_pos q] at hA; exact absurd hA (by simp)
    · rw [if_neg (by omega), if_pos q] at hA; exact absurd hA (by simp)
  refine ⟨1, ?_⟩
  show (if _ then _ else _) = _
  rw [if_neg (by omega), if_neg a, if_neg b, if_neg (by omega), if_pos hx]
theorem oM_some {s2 : zs} {c : Int} (h : oM T n s = some (s2, c)) : s.1 < n ∧ s2 = aS T n s ∧ (c = 3 ∨ c = 4) ∧ (lc T n s.1 = 42 ∨ lc T n s.1 = 47) ∧ c = (if lc T n s.1 = 42 then 3 else 4) := by
  unfold oM at h
  by_cases q : lc T n s.1 = 42
  · rw [if_pos q] at h
    have h' := Option.some.inj h
    exact ⟨(lc_lt q (by decide)).1, (congrArg Prod.fst h').symm, Or.inl (congrArg Prod.snd h').symm, Or.inl q, by rw [if_pos q]; exact (congrArg Prod.snd h').symm⟩
  · rw [if_neg q] at h
    by_cases q2 : lc T n s.1 = 47
    · rw [if_pos q2] at h
      have h' := Option.some.inj h
      exact ⟨(lc_lt q2 (by decide)).1, (congrArg Prod.fst h').symm, Or.inr (congrArg Prod.snd h').symm, Or.inr q2, by rw [if_neg q]; exact (congrArg Prod.snd h').symm⟩
    · rw [if_neg q2] at h
      exact absurd h (by simp)
theorem oA_some {s2 : zs} {c : Int} (h : oA T n s = some (s2, c)) : s.1 < n ∧ s2 = aS T n s ∧ (c = 1 ∨ c = 2) ∧ (lc T n s.1 = 43 ∨ lc T n s.1 = 45) ∧ c = (if lc T n s.1 = 43 then 1 else 2) := by
  unfold oA at h
  by_cases q : lc T n s.1 = 43
  · rw [if_pos q] at h
    have h' := Option.some.inj h
    exact ⟨(lc_lt q (by decide)).1, (congrArg Prod.fst h').symm, Or.inl (congrArg Prod.snd h').symm, Or.inl q, by rw [if_pos q]; exact (congrArg Prod.snd h').symm⟩
  · rw [if_neg q] at h
    by_cases q2 : lc T n s.1 = 45
    · rw [if_pos q2] at h
      have h' := Option.some.inj h
      exact ⟨(lc_lt q2 (by decide)).1, (congrArg Prod.fst h').symm, Or.inr (congrArg Prod.snd h').symm, Or.inr q2, by rw [if_neg q]; exact (congrArg Prod.snd h').symm⟩
    · rw [if_neg q2] at h
      exact absurd h (by simp)
end ZPB
/-- what a reader of parts, of products, of sums does for the stack -/
def sP (T : Nat → Int) (n : Int) (kd : Nat) (dep : Int) (pp : zs → zR) : Prop := ∀ s, sOk T n s → (∀ e, pp s = .inl e → ∀ K C, mM T n kd 0 s K dep C (.inl e)) ∧ (∀ s' out, pp s = .inr (s', out) → (sOk T n s' ∧ s.1 < s'.1) ∧ ∀ K C r, mM T n kd 1 s' K dep (C ++ out) r → mM T n kd 0 s K dep C r)
def sMu (T : Nat → Int) (n : Int) (kd : Nat) (dep : Int) (pp : zs → zR) : Prop := ∀ s, sOk T n s → (∀ e, pp s = .inl e → ∀ K C, okM K → mM T n kd 0 s K dep C (.inl e)) ∧ (∀ s' out, pp s = .inr (s', out) → (sOk T n s' ∧ s.1 < s'.1) ∧ oM T n s' = none ∧ ∀ K C r, okM K → (∀ pd C', pdM pd → C' ++ pd = C ++ out → mM T n kd 2 s' (pd ++ K) dep C' r) → mM T n kd 0 s K dep C r)
def sAd (T : Nat → Int) (n : Int) (kd : Nat) (dep : Int) (pp : zs → zR) : Prop := ∀ s, sOk T n s → (∀ e, pp s = .inl e → ∀ K C, okA K → mM T n kd 0 s K dep C (.inl e)) ∧ (∀ s' out, pp s = .inr (s', out) → (sOk T n s' ∧ s.1 < s'.1) ∧ (oM T n s' = none ∧ oA T n s' = none) ∧ ∀ K C r, okA K → (∀ pd C', pdA pd → C' ++ pd = C ++ out → mM T n kd 2 s' (pd ++ K) dep C' r) → mM T n kd 0 s K dep C r)
section ZPC
variable {T : Nat → Int} {n : Int} {kd : Nat} {dep : Int} {pp : zs → zR}
theorem mul_l (hp : sP T n kd dep pp) : ∀ (m : Nat) (s : zs) (cs : List Int), sOk T n s → n - s.1 ≤ m → (∀ e, pL pp (oM T n) m s cs = .inl e → ∀ K C pd C', okM K → pdM pd → C' ++ pd = C ++ cs → mM T n kd 2 s (pd ++ K) dep C' (.inl e)) ∧ (∀ s' out, pL pp (oM T n) m s cs = .inr (s', out) → (sOk T n s' ∧ s.1 ≤ s'.1) ∧ oM T n s' = none ∧ ∀ K C pd C' r, okM K → pdM pd → C' ++ pd = C ++ cs → (∀ pd C', pdM pd → C' ++ pd = C ++ out → mM T n kd 2 s' (pd ++ K) dep C' r) → mM T n kd 2 s (pd ++ K) dep C' r) := by
  intro m
  induction m with
  | zero =>
    intro s cs hs hm
    have none0 : oM T n s = none := by
      cases ho : oM T n s with
      | none => rfl
      | some x => obtain ⟨s2, c⟩ := x; have := (oM_some ho).1; omega
    refine ⟨fun e h => absurd h (by simp [pL]), fun s' out h => ?_⟩
    have h' : (s, cs) = (s', out) := Sum.inr.inj h
    cases h'
    exact ⟨⟨hs, Int.le_refl _⟩, none0, fun K C pd C' r hK hpd e hc => hc pd C' hpd e⟩
  | succ m ih =>
    intro s cs hs hm
    cases ho : oM T n s with
    | none =>
      have eL : pL pp (oM T n) (m + 1) s cs = .inr (s, cs) := by unfold pL; rw [ho]
      rw [eL]
      refine ⟨fun e h => absurd h (by simp), fun s' out h => ?_⟩
      have h' : (s, cs) = (s', out) := Sum.inr.inj h
      cases h'
      exact ⟨⟨hs, Int.le_refl _⟩, ho, fun K C pd C' r hK hpd e hc => hc pd C' hpd e⟩
    | some x =>
      obtain ⟨s2, c⟩ := x
      obtain ⟨o1, o2, o3, o4, o5⟩ := oM_some ho
      subst o2
      have hs2 := aS_ok hs o1
      have l2 := rn_le T n fB (s.1 + 1)
      have l2' : s.1 < (aS T n s).1 := by show s.1 < rn T n fB (s.1 + 1); omega
      obtain ⟨p1, p2⟩ := hp _ hs2
      cases hq : pp (aS T n s) with
      | inl e0 =>
        have eL : pL pp (oM T n) (m + 1) s cs = .inl e0 := by unfold pL; rw [ho]; simp only [hq]
        rw [eL]
        refine ⟨fun e h K C pd C' hK hpd hC => ?_, fun s' out h => absurd h (by simp)⟩
        cases h
        obtain ⟨u1, u2⟩ := okM_pd hK hpd
        refine m_mul o4 ?_
        exact p1 _ hq _ _
      | inr y =>
        obtain ⟨s3, cs3⟩ := y
        have eL : pL pp (oM T n) (m + 1) s cs = pL pp (oM T n) m s3 (cs ++ cs3 ++ [c]) := by
          rw [show pL pp (oM T n) (m + 1) s cs = (match oM T n s with | none => .inr (s, cs) | some (s1, c) => match pp s1 with | .inl e => .inl e | .inr (s2, cs2) => pL pp (oM T n) m s2 (cs ++ cs2 ++ [c])) from rfl, ho]
          simp only [hq]
        obtain ⟨⟨q1, q2⟩, q3⟩ := p2 _ _ hq
        obtain ⟨i1, i2⟩ := ih s3 (cs ++ cs3 ++ [c]) q1 (by omega)
        have go : ∀ K C pd C' r, okM K → pdM pd → C' ++ pd = C ++ cs → mM T n kd 2 s3 ([c] ++ K) dep (C ++ (cs ++ cs3)) r → mM T n kd 2 s (pd ++ K) dep C' r := by
          intro K C pd C' r hK hpd hC hh
          obtain ⟨u1, u2⟩ := okM_pd hK hpd
          refine m_mul o4 ?_
          rw [u1, u2, hC, ← o5]
          refine q3 _ _ _ (m_E (fun x q e => ?_) ?_)
          · have : c = x := by injection e
            omega
          · rw [List.append_assoc]
            exact hh
        rw [eL]
        refine ⟨fun e h K C pd C' hK hpd hC => go K C pd C' _ hK hpd hC (i1 e h K C [c] (C ++ (cs ++ cs3)) hK (Or.inr ⟨c, rfl, o3⟩) (by simp [List.append_assoc])), fun s' out h => ?_⟩
        obtain ⟨⟨j1, j2⟩, j3, j4⟩ := i2 s' out h
        exact ⟨⟨j1, by omega⟩, j3, fun K C pd C' r hK hpd hC hc => go K C pd C' r hK hpd hC (j4 K C [c] (C ++ (cs ++ cs3)) r hK (Or.inr ⟨c, rfl, o3⟩) (by simp [List.append_assoc]) hc)⟩
theorem mul_s (hn : n ≤ 1600) (hp : sP T n kd dep pp) : sMu T n kd dep (pC pp (oM T n)) := by
  intro s hs
  obtain ⟨p1, p2⟩ := hp s hs
  cases hq : pp s with
  | inl e0 =>
    have eC : pC pp (oM T n) s = .inl e0 := by unfold pC; rw [hq]
    rw [eC]
    refine ⟨fun e h K C hK => ?_, fun s' out h => absurd h (by simp)⟩
    cases h
    exact p1 _ hq K C
  | inr y =>
    obtain ⟨s3, cs3⟩ := y
    have eC : pC pp (oM T n) s = pL pp (oM T n) 1600 s3 cs3 := by unfold pC; rw [hq]
    obtain ⟨⟨q1, q2⟩, q3⟩ := p2 _ _ hq
    have h0 := q1.1
    obtain ⟨i1, i2⟩ := mul_l hp 1600 s3 cs3 q1 (by omega)
    rw [eC]
    refine ⟨fun e h K C hK => q3 K C _ (m_E (fun x q e => (hK x q e).1) (i1 e h K C [] (C ++ cs3) hK (Or.inl rfl) (by simp))), fun s' out h => ?_⟩
    obtain ⟨⟨j1, j2⟩, j3, j4⟩ := i2 s' out h
    exact ⟨⟨j1, by omega⟩, j3, fun K C r hK hc => q3 K C _ (m_E (fun x q e => (hK x q e).1) (j4 K C [] (C ++ cs3) r hK (Or.inl rfl) (by simp) hc))⟩
end ZPC
