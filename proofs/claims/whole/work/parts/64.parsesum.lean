/-! FORMULAS, pure: sums and parts by the stack -/
section ZPD
variable {T : Nat → Int} {n : Int} {kd : Nat} {dep : Int} {pp : zs → zR}
theorem add_l (hp : sMu T n kd dep pp) : ∀ (m : Nat) (s : zs) (cs : List Int), sOk T n s → n - s.1 ≤ m → oM T n s = none → (∀ e, pL pp (oA T n) m s cs = .inl e → ∀ K C pd C', okA K → pdA pd → C' ++ pd = C ++ cs → mM T n kd 2 s (pd ++ K) dep C' (.inl e)) ∧ (∀ s' out, pL pp (oA T n) m s cs = .inr (s', out) → (sOk T n s' ∧ s.1 ≤ s'.1) ∧ (oM T n s' = none ∧ oA T n s' = none) ∧ ∀ K C pd C' r, okA K → pdA pd → C' ++ pd = C ++ cs → (∀ pd C', pdA pd → C' ++ pd = C ++ out → mM T n kd 2 s' (pd ++ K) dep C' r) → mM T n kd 2 s (pd ++ K) dep C' r) := by
  intro m
  induction m with
  | zero =>
    intro s cs hs hm hM
    have none0 : oA T n s = none := by
      cases ho : oA T n s with
      | none => rfl
      | some x => obtain ⟨s2, c⟩ := x; have := (oA_some ho).1; omega
    refine ⟨fun e h => absurd h (by simp [pL]), fun s' out h => ?_⟩
    have h' : (s, cs) = (s', out) := Sum.inr.inj h
    cases h'
    exact ⟨⟨hs, Int.le_refl _⟩, ⟨hM, none0⟩, fun K C pd C' r hK hpd e hc => hc pd C' hpd e⟩
  | succ m ih =>
    intro s cs hs hm hM
    cases ho : oA T n s with
    | none =>
      have eL : pL pp (oA T n) (m + 1) s cs = .inr (s, cs) := by unfold pL; rw [ho]
      rw [eL]
      refine ⟨fun e h => absurd h (by simp), fun s' out h => ?_⟩
      have h' : (s, cs) = (s', out) := Sum.inr.inj h
      cases h'
      exact ⟨⟨hs, Int.le_refl _⟩, ⟨hM, ho⟩, fun K C pd C' r hK hpd e hc => hc pd C' hpd e⟩
    | some x =>
      obtain ⟨s2, c⟩ := x
      obtain ⟨o1, o2, o3, o4, o5⟩ := oA_some ho
      subst o2
      have hs2 := aS_ok hs o1
      have l2 := rn_le T n fB (s.1 + 1)
      have l2' : s.1 < (aS T n s).1 := by show s.1 < rn T n fB (s.1 + 1); omega
      obtain ⟨p1, p2⟩ := hp _ hs2
      have okc : ∀ K, okM (c :: K) := fun K x r e => by
        have : c = x := by injection e
        subst this
        refine ⟨by omega, ?_⟩
        unfold fM
        rw [decide_eq_false_iff_not]
        omega
      cases hq : pp (aS T n s) with
      | inl e0 =>
        have eL : pL pp (oA T n) (m + 1) s cs = .inl e0 := by unfold pL; rw [ho]; simp only [hq]
        rw [eL]
        refine ⟨fun e h K C pd C' hK hpd hC => ?_, fun s' out h => absurd h (by simp)⟩
        cases h
        obtain ⟨u1, u2⟩ := okA_pd hK hpd
        refine m_add o4 ?_
        rw [← o5]
        exact p1 _ hq _ _ (okc _)
      | inr y =>
        obtain ⟨s3, cs3⟩ := y
        have eL : pL pp (oA T n) (m + 1) s cs = pL pp (oA T n) m s3 (cs ++ cs3 ++ [c]) := by
          rw [show pL pp (oA T n) (m + 1) s cs = (match oA T n s with | none => .inr (s, cs) | some (s1, c) => match pp s1 with | .inl e => .inl e | .inr (s2, cs2) => pL pp (oA T n) m s2 (cs ++ cs2 ++ [c])) from rfl, ho]
          simp only [hq]
        obtain ⟨⟨q1, q2⟩, q0, q3⟩ := p2 _ _ hq
        obtain ⟨i1, i2⟩ := ih s3 (cs ++ cs3 ++ [c]) q1 (by omega) q0
        have go : ∀ K C pd C' r, okA K → pdA pd → C' ++ pd = C ++ cs → (∀ pd1 C1, pdA pd1 → C1 ++ pd1 = C ++ (cs ++ cs3 ++ [c]) → mM T n kd 2 s3 (pd1 ++ K) dep C1 r) → mM T n kd 2 s (pd ++ K) dep C' r := by
          intro K C pd C' r hK hpd hC hh
          obtain ⟨u1, u2⟩ := okA_pd hK hpd
          refine m_add o4 ?_
          rw [u1, u2, hC, ← o5]
          refine q3 _ _ _ (okc _) (fun pd1 C1 hpd1 hC1 => ?_)
          have := hh (pd1 ++ [c]) C1 ⟨pd1, [c], rfl, hpd1, Or.inr ⟨c, rfl, o3⟩⟩ (by rw [← List.append_assoc, hC1]; simp [List.append_assoc])
          rw [List.append_assoc] at this
          exact this
        rw [eL]
        refine ⟨fun e h K C pd C' hK hpd hC => go K C pd C' _ hK hpd hC (fun pd1 C1 h1 h2 => i1 e h K C pd1 C1 hK h1 h2), fun s' out h => ?_⟩
        obtain ⟨⟨j1, j2⟩, j3, j4⟩ := i2 s' out h
        exact ⟨⟨j1, by omega⟩, j3, fun K C pd C' r hK hpd hC hc => go K C pd C' r hK hpd hC (fun pd1 C1 h1 h2 => j4 K C pd1 C1 r hK h1 h2 hc)⟩
theorem okA.M {K : List Int} (h : okA K) : okM K := fun x r e => by
  obtain ⟨a, b⟩ := h x r e
  refine ⟨a, ?_⟩
  unfold fA at b
  unfold fM
  rw [decide_eq_false_iff_not] at *
  omega
theorem pdM.A {l : List Int} (h : pdM l) : pdA l := ⟨l, [], (List.append_nil l).symm, h, Or.inl rfl⟩
theorem add_s (hn : n ≤ 1600) (hp : sMu T n kd dep pp) : sAd T n kd dep (pC pp (oA T n)) := by
  intro s hs
  obtain ⟨p1, p2⟩ := hp s hs
  cases hq : pp s with
  | inl e0 =>
    have eC : pC pp (oA T n) s = .inl e0 := by unfold pC; rw [hq]
    rw [eC]
    refine ⟨fun e h K C hK => ?_, fun s' out h => absurd h (by simp)⟩
    cases h
    exact p1 _ hq K C hK.M
  | inr y =>
    obtain ⟨s3, cs3⟩ := y
    have eC : pC pp (oA T n) s = pL pp (oA T n) 1600 s3 cs3 := by unfold pC; rw [hq]
    obtain ⟨⟨q1, q2⟩, q0, q3⟩ := p2 _ _ hq
    have h0 := q1.1
    obtain ⟨i1, i2⟩ := add_l hp 1600 s3 cs3 q1 (by omega) q0
    rw [eC]
    refine ⟨fun e h K C hK => q3 K C _ hK.M (fun pd C' hpd hC => i1 e h K C pd C' hK hpd.A hC), fun s' out h => ?_⟩
    obtain ⟨⟨j1, j2⟩, j3, j4⟩ := i2 s' out h
    exact ⟨⟨j1, by omega⟩, j3, fun K C r hK hc => q3 K C _ hK.M (fun pd C' hpd hC => j4 K C pd C' r hK hpd.A hC hc)⟩
theorem sum_s (hn : n ≤ 1600) (hp : sP T n kd dep pp) : sAd T n kd dep (pSum T n pp) := add_s hn (mul_s hn hp)
end ZPD
section ZPE
variable {T : Nat → Int} {n : Int} {kd : Nat} {dep : Int} {s : zs} {st cs : List Int} {r : zR}
theorem m_open (h : lc T n s.1 = 40) (hd : dep ≠ 6) (hm : mM T n kd 0 (aS T n s) (20 :: st) (dep + 1) cs r) : mM T n kd 0 s st dep cs r := by
  obtain ⟨f, hf⟩ := hm
  refine ⟨f + 1, ?_⟩
  show (if _ then _ else _) = _
  rw [if_pos h, if_neg hd]
  exact hf
theorem m_min (h : ¬ lc T n s.1 = 40) (hw : wd T n s = 7 ∨ wd T n s = 8) (hl : lc T n (aWd T n s).1 = 40) (hd : dep ≠ 6) (hm : mM T n kd 0 (aS T n (aWd T n s)) ((if wd T n s = 7 then 21 else 22) :: st) (dep + 1) cs r) : mM T n kd 0 s st dep cs r := by
  obtain ⟨f, hf⟩ := hm
  refine ⟨f + 1, ?_⟩
  show (if _ then _ else _) = _
  rw [if_neg h, if_pos hw, if_pos hl, if_neg hd]
  exact hf
theorem m_pre (h : ¬ lc T n s.1 = 40) (hw : ¬ (wd T n s = 7 ∨ wd T n s = 8)) (hp : ¬ pw T n kd s = -1) (hd : dep ≠ 6) (hm : mM T n kd 0 (aWd T n s) ((pw T n kd s + 50) :: st) (dep + 1) cs r) : mM T n kd 0 s st dep cs r := by
  obtain ⟨f, hf⟩ := hm
  refine ⟨f + 1, ?_⟩
  show (if _ then _ else _) = _
  rw [if_neg h, if_neg hw, if_neg hp, if_neg hd]
  exact hf
theorem m_pop {x : Int} (hx : 60 ≤ x) (hm : mM T n kd 1 s st (dep - 1) (cs ++ [x]) r) : mM T n kd 1 s (x :: st) dep cs r := by
  obtain ⟨f, hf⟩ := hm
  refine ⟨f + 1, ?_⟩
  show (if _ then _ else _) = _
  rw [if_pos hx]
  exact hf
theorem wd_pos (h : 0 ≤ wd T n s) : ((s.1 < n ∧ fL (T s.1.toNat) = true) ∧ s.1 ≠ s.2) ∧ s.1 < rn T n fL s.1 := by
  rcases wf_in (isW T n s) wAll with ⟨a, _⟩ | ⟨k, a, b, _⟩
  · unfold wd at h; omega
  · obtain ⟨l1, l2, l3, l4⟩ := wd_len (T := T) (n := n) (s := s) a b
    refine ⟨⟨⟨l1, l3⟩, l4⟩, ?_⟩
    have := rn_in (f := fL) l1 l3
    have := rn_le T n fL (s.1 + 1)
    omega
theorem aWd_lt (h : 0 ≤ wd T n s) : s.1 < (aWd T n s).1 := by
  have := (wd_pos h).2
  have := rn_le T n fB (rn T n fL s.1)
  show s.1 < rn T n fB (rn T n fL s.1)
  omega
theorem vOf_wd {v : Int} (h : vOf (wd T n s) = v) (hv : v ≠ -1) : 0 ≤ wd T n s := by
  unfold vOf at h
  split at h
  · omega
  · split at h
    · omega
    · split at h <;> omega
theorem pw_in (hp : ¬ pw T n kd s = -1) : 0 ≤ wd T n s ∧ (pw T n kd s = 10 ∨ pw T n kd s = 11) := by
  unfold pw at *
  split at hp
  · rename_i q
    rw [if_pos q]
    refine ⟨vOf_wd rfl (by omega), ?_⟩
    have : vOf (wd T n s) ≤ 11 := by
      unfold vOf
      split
      · omega
      · split
        · omega
        · split <;> omega
    omega
  · exact absurd rfl hp
theorem pNum_ok {most : Int} {s' : zs} {v : Int} (hs : sOk T n s) (h : pNum T n s most = .inr (s', v)) : sOk T n s' ∧ s.1 < s'.1 := by
  unfold pNum at h
  split at h
  · rename_i c
    split at h
    · exact absurd h (by simp)
    · split at h
      · exact absurd h (by simp)
      · have h' := Sum.inr.inj h
        have e : s' = aW T n (rn T n fN s.1) := (congrArg Prod.fst h').symm
        subst e
        have a := rn_in (f := fN) c.1.1 c.1.2
        have b := rn_le T n fN (s.1 + 1)
        have f := rn_le T n fB (rn T n fN s.1)
        refine ⟨aW_ok hs ⟨by omega, rn_n hs.1.2⟩, ?_⟩
        show s.1 < rn T n fB (rn T n fN s.1)
        omega
  · exact absurd h (by simp)
theorem pAtom_ok {s' : zs} {out : List Int} (hs : sOk T n s) (h : pAtom T n kd s = .inr (s', out)) : sOk T n s' ∧ s.1 < s'.1 := by
  unfold pAtom at h
  split at h
  · cases hq : pNum T n s 9999 with
    | inl e => rw [hq] at h; exact absurd h (by simp)
    | inr y =>
      obtain ⟨s3, v⟩ := y
      rw [hq] at h
      have h' := Sum.inr.inj h
      have e : s3 = s' := congrArg Prod.fst h'
      subst e
      exact pNum_ok hs hq
  · rename_i c
    have h' := Sum.inr.inj h
    have e : aWd T n s = s' := congrArg Prod.fst h'
    subst e
    have : 0 ≤ wd T n s := by
      unfold vw at c
      split at c
      · exact vOf_wd rfl (by omega)
      · exact absurd rfl c
    exact ⟨aWd_ok hs, aWd_lt this⟩
theorem m_atom (h : ¬ lc T n s.1 = 40) (hw : ¬ (wd T n s = 7 ∨ wd T n s = 8)) (hp : pw T n kd s = -1) : (∀ e, pAtom T n kd s = .inl e → ∀ K C, mM T n kd 0 s K dep C (.inl e)) ∧ (∀ s' out, pAtom T n kd s = .inr (s', out) → ∀ K C r, mM T n kd 1 s' K dep (C ++ out) r → mM T n kd 0 s K dep C r) := by
  refine ⟨fun e he K C => ⟨1, ?_⟩, fun s' out he K C r hm => ?_⟩
  · show (if _ then _ else _) = _
    rw [if_neg h, if_neg hw, if_pos hp, he]
  · obtain ⟨f, hf⟩ := hm
    refine ⟨f + 1, ?_⟩
    show (if _ then _ else _) = _
    rw [if_neg h, if_neg hw, if_pos hp, he]
    exact hf
end ZPE
