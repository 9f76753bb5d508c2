/-! FORMULAS, pure: parts by the stack -/
section ZPF
variable {T : Nat → Int} {n : Int} {kd : Nat} {dep : Int} {s : zs} {K C : List Int} {r : zR}
theorem okA_br {x : Int} (hx : 20 ≤ x ∧ x < 60) : okA (x :: K) := fun y q e => by
  have : x = y := by injection e
  subst this
  refine ⟨hx.2, ?_⟩
  unfold fA
  rw [decide_eq_false_iff_not]
  omega
theorem close_s {x : Int} (hx : x = 20 ∨ x = 23 ∨ x = 24) {pd : List Int} (hpd : pdA pd) (h41 : lc T n s.1 = 41) (hm : mM T n kd 1 (aS T n s) K dep (C ++ pd ++ (if x = 20 then [] else if x = 23 then [5] else [6])) r) : mM T n kd 2 s (pd ++ x :: K) (dep + 1) C r := by
  obtain ⟨b1, b2, b3⟩ := bU_br (K := K) (x := x) (by omega) (pdA_br hpd)
  refine m_close h41 (by rw [b3]; exact hx) ?_
  rw [b1, b2, b3, show dep + 1 - 1 = dep by omega]
  exact hm
theorem noclose_s {x : Int} (hx : x = 20 ∨ x = 23 ∨ x = 24) {pd : List Int} (hpd : pdA pd) (hO : oM T n s = none ∧ oA T n s = none) (h41 : ¬ lc T n s.1 = 41) : mM T n kd 2 s (pd ++ x :: K) dep C (.inl (1, s.1)) := by
  obtain ⟨b1, b2, b3⟩ := bU_br (K := K) (x := x) (by omega) (pdA_br hpd)
  exact m_bad hO.1 hO.2 (by rw [b3]; omega) (fun q => h41 q.1) (by rw [b3]; omega)
theorem comma_s {x : Int} (hx : x = 21 ∨ x = 22) {pd : List Int} (hpd : pdA pd) (h44 : lc T n s.1 = 44) (hm : mM T n kd 0 (aS T n s) ((x + 2) :: K) dep (C ++ pd) r) : mM T n kd 2 s (pd ++ x :: K) dep C r := by
  obtain ⟨b1, b2, b3⟩ := bU_br (K := K) (x := x) (by omega) (pdA_br hpd)
  refine m_comma h44 (by rw [b3]; exact hx) ?_
  rw [b1, b2, b3]
  exact hm
theorem nocomma_s {x : Int} (hx : x = 21 ∨ x = 22) {pd : List Int} (hpd : pdA pd) (hO : oM T n s = none ∧ oA T n s = none) (h44 : ¬ lc T n s.1 = 44) : mM T n kd 2 s (pd ++ x :: K) dep C (.inl (1, s.1)) := by
  obtain ⟨b1, b2, b3⟩ := bU_br (K := K) (x := x) (by omega) (pdA_br hpd)
  exact m_bad hO.1 hO.2 (by rw [b3]; omega) (by rw [b3]; omega) (fun q => h44 q.1)
theorem aS_lt (T : Nat → Int) (n : Int) (s : zs) : s.1 < (aS T n s).1 := by
  have := rn_le T n fB (s.1 + 1)
  show s.1 < rn T n fB (s.1 + 1)
  omega
theorem part_0 : sP T n kd 6 (pPart T n kd 0) := by
  intro s hs
  have eP : pPart T n kd 0 s = (if lc T n s.1 = 40 then .inl (4, s.1) else if wd T n s = 7 ∨ wd T n s = 8 then (if lc T n (aWd T n s).1 = 40 then .inl (4, (aWd T n s).1) else .inl (1, (aWd T n s).1)) else if pw T n kd s = -1 then pAtom T n kd s else .inl (4, s.1)) := rfl
  rw [eP]
  by_cases c1 : lc T n s.1 = 40
  · rw [if_pos c1]
    refine ⟨fun e h K C => ?_, fun s' out h => absurd h (by simp)⟩
    cases h
    exact ⟨1, by show (if _ then _ else _) = _; rw [if_pos c1, if_pos rfl]⟩
  · rw [if_neg c1]
    by_cases c2 : wd T n s = 7 ∨ wd T n s = 8
    · rw [if_pos c2]
      by_cases c3 : lc T n (aWd T n s).1 = 40
      · rw [if_pos c3]
        refine ⟨fun e h K C => ?_, fun s' out h => absurd h (by simp)⟩
        cases h
        exact ⟨1, by show (if _ then _ else _) = _; rw [if_neg c1, if_pos c2, if_pos c3, if_pos rfl]⟩
      · rw [if_neg c3]
        refine ⟨fun e h K C => ?_, fun s' out h => absurd h (by simp)⟩
        cases h
        exact ⟨1, by show (if _ then _ else _) = _; rw [if_neg c1, if_pos c2, if_neg c3]⟩
    · rw [if_neg c2]
      by_cases c4 : pw T n kd s = -1
      · rw [if_pos c4]
        obtain ⟨a1, a2⟩ := m_atom (dep := 6) c1 c2 c4
        exact ⟨a1, fun s' out h => ⟨pAtom_ok hs h, a2 s' out h⟩⟩
      · rw [if_neg c4]
        refine ⟨fun e h K C => ?_, fun s' out h => absurd h (by simp)⟩
        cases h
        exact ⟨1, by show (if _ then _ else _) = _; rw [if_neg c1, if_neg c2, if_neg c4, if_pos rfl]⟩
theorem part_1 {d : Nat} (hn : n ≤ 1600) (hd : dep ≠ 6) (ih : sP T n kd (dep + 1) (pPart T n kd d)) : sP T n kd dep (pPart T n kd (d + 1)) := by
  have hS := sum_s hn ih
  intro s hs
  have eP : pPart T n kd (d + 1) s = (if lc T n s.1 = 40 then pThen T n 41 (pSum T n (pPart T n kd d) (aS T n s)) else if wd T n s = 7 ∨ wd T n s = 8 then (if lc T n (aWd T n s).1 = 40 then pBnd (pThen T n 44 (pSum T n (pPart T n kd d) (aS T n (aWd T n s)))) (fun s1 c1 => pThen T n 41 (pPut (pAdd (pSum T n (pPart T n kd d) s1) c1) [if wd T n s = 7 then 5 else 6])) else .inl (1, (aWd T n s).1)) else if pw T n kd s = -1 then pAtom T n kd s else pPut (pPart T n kd d (aWd T n s)) [pw T n kd s + 50]) := rfl
  rw [eP]
  by_cases c1 : lc T n s.1 = 40
  · rw [if_pos c1]
    have lt := (lc_lt c1 (by decide)).1
    have hs1 := aS_ok hs lt
    have l1 := aS_lt T n s
    obtain ⟨q1, q2⟩ := hS _ hs1
    cases hq : pSum T n (pPart T n kd d) (aS T n s) with
    | inl e0 =>
      refine ⟨fun e h K C => ?_, fun s' out h => absurd h (by simp [pThen])⟩
      cases h
      exact m_open c1 hd (q1 _ hq _ _ (okA_br (by decide)))
    | inr y =>
      obtain ⟨s1, o1⟩ := y
      obtain ⟨⟨z1, z2⟩, z3, z4⟩ := q2 _ _ hq
      show (∀ e, (if lc T n s1.1 = 41 then (.inr (aS T n s1, o1) : zR) else .inl (1, s1.1)) = .inl e → _) ∧ (∀ s' out, (if lc T n s1.1 = 41 then (.inr (aS T n s1, o1) : zR) else .inl (1, s1.1)) = .inr (s', out) → _)
      by_cases c2 : lc T n s1.1 = 41
      · rw [if_pos c2]
        refine ⟨fun e h => absurd h (by simp), fun s' out h => ?_⟩
        cases h
        have l2 := aS_lt T n s1
        refine ⟨⟨aS_ok z1 (lc_lt c2 (by decide)).1, by omega⟩, fun K C r hm => m_open c1 hd (z4 _ _ _ (okA_br (by decide)) (fun pd C' hpd hC => close_s (Or.inl rfl) hpd c2 ?_))⟩
        rw [hC, if_pos rfl, List.append_nil]
        exact hm
      · rw [if_neg c2]
        refine ⟨fun e h K C => ?_, fun s' out h => absurd h (by simp)⟩
        cases h
        exact m_open c1 hd (z4 _ _ _ (okA_br (by decide)) (fun pd C' hpd hC => noclose_s (Or.inl rfl) hpd z3 c2))
  · rw [if_neg c1]
    by_cases c2 : wd T n s = 7 ∨ wd T n s = 8
    · rw [if_pos c2]
      have lw := aWd_lt (T := T) (n := n) (s := s) (by omega)
      have hsw := aWd_ok hs
      by_cases c3 : lc T n (aWd T n s).1 = 40
      · rw [if_pos c3]
        have lt := (lc_lt c3 (by decide)).1
        have hs1 := aS_ok hsw lt
        have l1 := aS_lt T n (aWd T n s)
        obtain ⟨q1, q2⟩ := hS _ hs1
        have hx : (if wd T n s = 7 then (21 : Int) else 22) = 21 ∨ (if wd T n s = 7 then (21 : Int) else 22) = 22 := by split <;> omega
        have hx2 : ∀ K, okA ((if wd T n s = 7 then (21 : Int) else 22) :: K) := fun K => okA_br (by omega)
        have hx3 : ∀ K, okA (((if wd T n s = 7 then (21 : Int) else 22) + 2) :: K) := fun K => okA_br (by omega)
        have hx4 : (if wd T n s = 7 then (21 : Int) else 22) + 2 = 20 ∨ (if wd T n s = 7 then (21 : Int) else 22) + 2 = 23 ∨ (if wd T n s = 7 then (21 : Int) else 22) + 2 = 24 := by omega
        have hx5 : (if (if wd T n s = 7 then (21 : Int) else 22) + 2 = 20 then ([] : List Int) else if (if wd T n s = 7 then (21 : Int) else 22) + 2 = 23 then [5] else [6]) = [if wd T n s = 7 then 5 else 6] := by
          by_cases w7 : wd T n s = 7
          · rw [if_pos w7, if_pos w7]; rfl
          · rw [if_neg w7, if_neg w7]; rfl
        revert hx hx2 hx3 hx4 hx5
        generalize ex : (if wd T n s = 7 then (21 : Int) else 22) = x
        intro hx hx2 hx3 hx4 hx5
        have op : ∀ K C r, mM T n kd 0 (aS T n (aWd T n s)) (x :: K) (dep + 1) C r → mM T n kd 0 s K dep C r := fun K C r h => m_min c1 c2 c3 hd (by rw [ex]; exact h)
        cases hq : pSum T n (pPart T n kd d) (aS T n (aWd T n s)) with
        | inl e0 =>
          refine ⟨fun e h K C => ?_, fun s' out h => absurd h (by simp [pThen, pBnd])⟩
          cases h
          exact op K C _ (q1 _ hq _ _ (hx2 K))
        | inr y =>
          obtain ⟨s1, o1⟩ := y
          obtain ⟨⟨z1, z2⟩, z3, z4⟩ := q2 _ _ hq
          by_cases c5 : lc T n s1.1 = 44
          · have eT : pThen T n 44 (.inr (s1, o1)) = .inr (aS T n s1, o1) := if_pos c5
            rw [eT]
            have hs2 := aS_ok z1 (lc_lt c5 (by decide)).1
            have l2 := aS_lt T n s1
            obtain ⟨u1, u2⟩ := hS _ hs2
            have co : ∀ K C r, mM T n kd 0 (aS T n s1) ((x + 2) :: K) (dep + 1) (C ++ o1) r → mM T n kd 0 s K dep C r := fun K C r h => op K C r (z4 _ _ _ (hx2 K) (fun pd C' hpd hC => comma_s hx hpd c5 (by rw [hC]; exact h)))
            cases hv : pSum T n (pPart T n kd d) (aS T n s1) with
            | inl e0 =>
              have eB : pBnd (.inr (aS T n s1, o1)) (fun s1 c1 => pThen T n 41 (pPut (pAdd (pSum T n (pPart T n kd d) s1) c1) [if wd T n s = 7 then 5 else 6])) = .inl e0 := by
                show pThen T n 41 (pPut (pAdd (pSum T n (pPart T n kd d) (aS T n s1)) o1) _) = _
                rw [hv]
                rfl
              rw [eB]
              refine ⟨fun e h K C => ?_, fun s' out h => absurd h (by simp)⟩
              cases h
              exact co K C _ (u1 _ hv _ _ (hx3 K))
            | inr y2 =>
              obtain ⟨s2, o2⟩ := y2
              obtain ⟨⟨v1, v2⟩, v3, v4⟩ := u2 _ _ hv
              have eB : pBnd (.inr (aS T n s1, o1)) (fun s1 c1 => pThen T n 41 (pPut (pAdd (pSum T n (pPart T n kd d) s1) c1) [if wd T n s = 7 then 5 else 6])) = (if lc T n s2.1 = 41 then .inr (aS T n s2, (o1 ++ o2) ++ [if wd T n s = 7 then 5 else 6]) else .inl (1, s2.1)) := by
                show pThen T n 41 (pPut (pAdd (pSum T n (pPart T n kd d) (aS T n s1)) o1) _) = _
                rw [hv]
                rfl
              rw [eB]
              by_cases c6 : lc T n s2.1 = 41
              · rw [if_pos c6]
                refine ⟨fun e h => absurd h (by simp), fun s' out h => ?_⟩
                cases h
                have l3 := aS_lt T n s2
                refine ⟨⟨aS_ok v1 (lc_lt c6 (by decide)).1, by omega⟩, fun K C r hm => co K C r (v4 _ _ _ (hx3 K) (fun pd C' hpd hC => close_s hx4 hpd c6 ?_))⟩
                rw [hC, hx5]
                rw [← List.append_assoc, ← List.append_assoc] at hm
                exact hm
              · rw [if_neg c6]
                refine ⟨fun e h K C => ?_, fun s' out h => absurd h (by simp)⟩
                cases h
                exact co K C _ (v4 _ _ _ (hx3 K) (fun pd C' hpd hC => noclose_s hx4 hpd v3 c6))
          · have eT : pThen T n 44 (.inr (s1, o1)) = .inl (1, s1.1) := if_neg c5
            rw [eT]
            refine ⟨fun e h K C => ?_, fun s' out h => absurd h (by simp [pBnd])⟩
            cases h
            exact op K C _ (z4 _ _ _ (hx2 K) (fun pd C' hpd hC => nocomma_s hx hpd z3 c5))
      · rw [if_neg c3]
        refine ⟨fun e h K C => ?_, fun s' out h => absurd h (by simp)⟩
        cases h
        exact ⟨1, by show (if _ then _ else _) = _; rw [if_neg c1, if_pos c2, if_neg c3]⟩
    · rw [if_neg c2]
      by_cases c4 : pw T n kd s = -1
      · rw [if_pos c4]
        obtain ⟨a1, a2⟩ := m_atom (dep := dep) c1 c2 c4
        exact ⟨a1, fun s' out h => ⟨pAtom_ok hs h, a2 s' out h⟩⟩
      · rw [if_neg c4]
        obtain ⟨w1, w2⟩ := pw_in c4
        have lw := aWd_lt w1
        obtain ⟨p1, p2⟩ := ih _ (aWd_ok hs)
        cases hq : pPart T n kd d (aWd T n s) with
        | inl e0 =>
          refine ⟨fun e h K C => ?_, fun s' out h => absurd h (by simp [pPut])⟩
          cases h
          exact m_pre c1 c2 c4 hd (p1 _ hq _ _)
        | inr y =>
          obtain ⟨s1, o1⟩ := y
          obtain ⟨⟨z1, z2⟩, z3⟩ := p2 _ _ hq
          refine ⟨fun e h => absurd h (by simp [pPut]), fun s' out h => ?_⟩
          have h' : ((s1, o1 ++ [pw T n kd s + 50]) : zs × List Int) = (s', out) := Sum.inr.inj h
          cases h'
          refine ⟨⟨z1, by omega⟩, fun K C r hm => m_pre c1 c2 c4 hd (z3 _ _ _ (m_pop (by omega) ?_))⟩
          rw [show dep + 1 - 1 = dep by omega, List.append_assoc]
          exact hm
theorem part_s (hn : n ≤ 1600) : ∀ d : Nat, sP T n kd (6 - (d : Int)) (pPart T n kd d) := by
  intro d
  induction d with
  | zero => exact part_0
  | succ d ih =>
    refine part_1 hn (by omega) ?_
    rw [show (6 : Int) - ((d + 1 : Nat) : Int) + 1 = 6 - (d : Int) by omega]
    exact ih
/-- a sum by the stack: the same -/
theorem sum_eq (hn : n ≤ 1600) (d : Nat) (hs : sOk T n s) (C : List Int) : mM T n kd 0 s [] (6 - (d : Int)) C (pAdd (pSum T n (pPart T n kd d) s) C) := by
  obtain ⟨q1, q2⟩ := sum_s hn (part_s (kd := kd) hn d) s hs
  cases hq : pSum T n (pPart T n kd d) s with
  | inl e0 => exact q1 _ hq [] C (fun x r e => absurd e (by simp))
  | inr y =>
    obtain ⟨s1, o1⟩ := y
    obtain ⟨⟨z1, z2⟩, z3, z4⟩ := q2 _ _ hq
    refine z4 [] C _ (fun x r e => absurd e (by simp)) (fun pd C' hpd hC => ?_)
    rw [List.append_nil]
    have := m_end (kd := kd) (dep := 6 - (d : Int)) (cs := C') (st := pd) z3.1 z3.2 (bX_no (pdA_br hpd))
    rw [hC] at this
    exact this
end ZPF
