/-! THE CLASS: facts and tests -/
section ZCTa
variable {T : Nat → Int} {n : Int} {hf pf : Nat} {J : zF} {k : Nat} {s : zs} {I : zF} {P : Int → zF → zF → Prop} {cs : List Int}
theorem sg60 : (0 ≤ (60 : Int) ∧ (60 : Int) ≤ 255) ∧ ¬ fL 60 = true ∧ ¬ fN 60 = true := ⟨⟨by decide, by decide⟩, by decide, by decide⟩
theorem sg61 : (0 ≤ (61 : Int) ∧ (61 : Int) ≤ 255) ∧ ¬ fL 61 = true ∧ ¬ fN 61 = true := ⟨⟨by decide, by decide⟩, by decide, by decide⟩
theorem sg62 : (0 ≤ (62 : Int) ∧ (62 : Int) ≤ 255) ∧ ¬ fL 62 = true ∧ ¬ fN 62 = true := ⟨⟨by decide, by decide⟩, by decide, by decide⟩
theorem sg91 : (0 ≤ (91 : Int) ∧ (91 : Int) ≤ 255) ∧ ¬ fL 91 = true ∧ ¬ fN 91 = true := ⟨⟨by decide, by decide⟩, by decide, by decide⟩
theorem sg93 : (0 ≤ (93 : Int) ∧ (93 : Int) ≤ 255) ∧ ¬ fL 93 = true ∧ ¬ fN 93 = true := ⟨⟨by decide, by decide⟩, by decide, by decide⟩
theorem pFact_all {dd : Nat} (h1 : lc T n s.1 ≠ 91) (h2 : wd T n s ≠ 23) : pFact T n k dd s = pAll T n k dd s := by
  cases dd with
  | zero => show (if _ then _ else _) = _; rw [if_neg h1, if_neg h2]
  | succ d => show (if _ then _ else _) = _; rw [if_neg h1, if_neg h2]
theorem pFact_o0 (h1 : lc T n s.1 = 91) : pFact T n k 0 s = .inl (4, s.1) := by show (if _ then _ else _) = _; rw [if_pos h1]
theorem pFact_o1 {d : Nat} (h1 : lc T n s.1 = 91) : pFact T n k (d + 1) s = pThen T n 93 (pTst T n (pFact T n k d) (aS T n s)) := by show (if _ then _ else _) = _; rw [if_pos h1]
theorem pFact_n0 (h1 : lc T n s.1 ≠ 91) (h2 : wd T n s = 23) : pFact T n k 0 s = .inl (4, s.1) := by show (if _ then _ else _) = _; rw [if_neg h1, if_pos h2]
theorem pFact_n1 {d : Nat} (h1 : lc T n s.1 ≠ 91) (h2 : wd T n s = 23) : pFact T n k (d + 1) s = pPut (pFact T n k d (aWd T n s)) [12] := by show (if _ then _ else _) = _; rw [if_neg h1, if_pos h2]
theorem wd_91 {c : Int} (hc : ¬ fL c = true) (hc1 : c ≠ -1) (h : 0 ≤ wd T n s) : lc T n s.1 ≠ c := fun q => by
  have := wd_lc hc hc1 q
  omega
theorem cR_195 {d dd : Nat} {st c : Int} {s1 : zs} {c1 : List Int} {I0 : zF} (hpf : isP pf) (hk2 : k ≤ 2) (hdd : dd ≤ 6) (hd : 8 + 4 * dd ≤ d + 8) (hcm : ax_or (ax_shl 0 4) st = cm c) {sg : Int} (hsg : (0 ≤ sg ∧ sg ≤ 255) ∧ ¬ fL sg = true ∧ ¬ fN sg = true) (hlc : lc T n s1.1 = sg) (hX : cTx T n s1 I) (hc : cP I pf (cs ++ c1)) (hF : cX pf I0 I) (hk : I 7 2 = (k : Int)) (hw : ((cs ++ c1).length : Int) ≤ s1.1) (hP0 : ∀ a q, pPut (pAdd (pSum T n (pPart T n k dd) (aS T n s1)) c1) [c] = .inl (a, q) → ∀ I', cX pf I0 I' → cBad a q I' → P 0 I' J) (hP1 : ∀ s' out, pPut (pAdd (pSum T n (pPart T n k dd) (aS T n s1)) c1) [c] = .inr (s', out) → ∀ I', cX pf I0 I' → cTx T n s' I' → cP I' pf (cs ++ out) → P 1 I' J) : zb_W (d + 8) ax_m17 (195, [some (.inr (.inr (some 7))), some (.inl (6 - (dd : Int))), some (.inl st)], [], zc_S hf pf I J) (zc_Qi hf pf P) := by
  have hn := hX.ok.n
  have hlt := aS_lt T n s1
  refine zk_FormulaReader_fact_195 hf pf I J (6 - (dd : Int)) st hpf (sc_adv_S hX hsg hlc (fun I1 y1 X1 _ _ => cR_sums hpf hk2 hdd (d + 8) _ (cs ++ c1) I1 _ hd X1 (y1.P hpf hc) (y1.X.k hpf hk) (by omega) (fun a q e I2 x2 b2 => b0 (zc_Qi.of ?_)) (fun s2 c2 e I2 x2 X2 p2 => b1 ?_)))
  · rw [e] at hP0
    exact hP0 a q rfl I2 (hF.trans (y1.X.trans x2)) b2
  · obtain ⟨_, t3, _, t4⟩ := tyR_sum (tyR_part (T := T) (n := n) (kd := k) dd) _ s2 c2 X1.ok e
    have h3 := X2.ok.1
    have hl3 : (cs ++ c1 ++ c2).length = (cs ++ c1).length + c2.length := List.length_append
    rw [e] at hP1
    refine sc_addP hpf p2 (by omega) hcm (fun I3 f3 p3 => zc_Qi.of (hP1 s2 (c1 ++ c2 ++ [c]) rfl I3 (hF.trans (y1.X.trans (x2.trans (cX.add f3)))) (X2.add hpf f3) ?_))
    rw [show cs ++ (c1 ++ c2 ++ [c]) = cs ++ c1 ++ c2 ++ [c] by simp only [List.append_assoc]]
    exact p3
theorem cR_fact_s {dd : Nat} (hpf : isP pf) (hk2 : k ≤ 2) (hdd : dd ≤ 6) (ih : ∀ dd', dd = dd' + 1 → cRd T n hf pf J k 17 (9 + 4 * dd') (6 - (dd' : Int)) (pFact T n k dd')) : cRd T n hf pf J k 17 (9 + 4 * dd) (6 - (dd : Int)) (pFact T n k dd) := by
  have ihs : ∀ dd', dd = dd' + 1 → cRd T n hf pf J k 15 (11 + 4 * dd') (6 - (dd' : Int)) (pTst T n (pFact T n k dd')) := fun dd' e => by
    have h1 := cR_test hpf (cR_both hpf (ih dd' e) (tyR_fact dd') (by omega)) (tyR_c (tyR_fact dd') opR_Mt) (by omega)
    rw [show 9 + 4 * dd' + 1 + 1 = 11 + 4 * dd' by omega] at h1
    exact h1
  intro e s cs I P he hX hc hk hw hP0 hP1
  obtain ⟨d, rfl⟩ : ∃ d, e = d + 9 := ⟨e - 9, by omega⟩
  have hne := hpf.ne
  have hn := hX.ok.n
  have h1 := hX.ok.1
  refine zc_ini (M := ax_m17) rfl (Nat.le_of_ble_eq_true rfl) (zk_FormulaReader_fact_0 hf pf I J (6 - (dd : Int)) hpf (sc_is hX (ks := 22) (by decide) (by decide) (bc (fun c22 => ?_) (fun c22 => sc_is hX (ks := 23) (by decide) (by decide) (bc (fun c23 => ?_) (fun c23 => sc_isSign hX sg91 (bc (fun c91 => ?_) (fun c91 => ?_))))))))
  · have c' : wd T n s = 22 := c22
    have hwp := wd_pos (T := T) (n := n) (s := s) (by omega)
    have hlt := wd_w (T := T) (n := n) (s := s) (by omega)
    have ha : pFact T n k dd s = .inr (aWd T n s, [13]) := by
      rw [pFact_all (wd_91 (by decide) (by decide) (by omega)) (by omega)]
      exact if_pos c'
    refine sc_adv_W hX hwp.1 (fun I1 y1 X1 _ _ => ?_)
    have h2 := X1.ok.1
    exact sc_addP hpf (y1.P hpf hc) (by omega) (show ax_or (ax_shl 1 4) 0 = cm 13 by decide +kernel) (fun I2 f2 p2 => zc_Qi.of (hP1 _ _ ha I2 (y1.X.trans (cX.add f2)) (X1.add hpf f2) p2))
  · have c' : wd T n s = 23 := c23
    have hwp := wd_pos (T := T) (n := n) (s := s) (by omega)
    have hlt := wd_w (T := T) (n := n) (s := s) (by omega)
    have h91 : lc T n s.1 ≠ 91 := wd_91 (by decide) (by decide) (by omega)
    refine sc_opens (by omega) hX (fun o6 I1 y1 b1 => b0 (zc_Qi.of ?_)) (fun o6 => sc_adv_W hX hwp.1 (fun I1 y1 X1 _ _ => b1 ?_))
    · have d0 : dd = 0 := by omega
      subst d0
      exact hP0 4 _ (pFact_n0 h91 c') I1 y1.X b1
    · obtain ⟨dd', hdd'⟩ : ∃ dd', dd = dd' + 1 := ⟨dd - 1, by omega⟩
      have hs := ih dd' hdd'
      subst hdd'
      rw [show 6 - ((dd' + 1 : Nat) : Int) + 1 = 6 - (dd' : Int) by omega]
      rw [pFact_n1 h91 c'] at hP0 hP1
      refine hs (d + 8) _ cs I1 _ (by omega) X1 (y1.P hpf hc) (y1.X.k hpf hk) (by omega) (fun a q e I3 x3 b3 => b0 (zc_Qi.of ?_)) (fun s3 c3 e I3 x3 X3 p3 => b1 ?_)
      · rw [e] at hP0
        exact hP0 a q rfl I3 (y1.X.trans x3) b3
      · obtain ⟨_, t3, _, t4⟩ := tyR_fact (T := T) (n := n) (kd := k) dd' _ s3 c3 X1.ok e
        have h3 := X3.ok.1
        have hl3 : (cs ++ c3).length = cs.length + c3.length := List.length_append
        rw [e] at hP1
        exact sc_addP hpf p3 (by omega) (show ax_or (ax_shl 0 4) 2 = cm 12 by decide +kernel) (fun I4 f4 p4 => zc_Qi.of (hP1 s3 _ rfl I4 (y1.X.trans (x3.trans (cX.add f4))) (X3.add hpf f4) (by rw [← List.append_assoc]; exact p4)))
  · refine sc_opens (by omega) hX (fun o6 I1 y1 b1 => b0 (zc_Qi.of ?_)) (fun o6 => sc_adv_S hX sg91 c91 (fun I1 y1 X1 _ _ => b1 ?_))
    · have d0 : dd = 0 := by omega
      subst d0
      exact hP0 4 _ (pFact_o0 c91) I1 y1.X b1
    · obtain ⟨dd', hdd'⟩ : ∃ dd', dd = dd' + 1 := ⟨dd - 1, by omega⟩
      have hs := ihs dd' hdd'
      subst hdd'
      rw [show 6 - ((dd' + 1 : Nat) : Int) + 1 = 6 - (dd' : Int) by omega]
      rw [pFact_o1 c91] at hP0 hP1
      have hlt2 := aS_lt T n s
      refine hs (d + 8) _ cs I1 _ (by omega) X1 (y1.P hpf hc) (y1.X.k hpf hk) (by omega) (fun a q e I3 x3 b3 => b0 (zc_Qi.of ?_)) (fun s3 c3 e I3 x3 X3 p3 => b1 (sc_takeSign X3 sg93 (fun c41 I4 y4 X4 => b1 (zc_Qi.of ?_)) (fun c41 I4 y4 b4 => b0 (zc_Qi.of ?_))))
      · rw [e] at hP0
        exact hP0 a q rfl I3 (y1.X.trans x3) b3
      · rw [e] at hP1
        exact hP1 (aS T n s3) c3 (by show (if lc T n s3.1 = 93 then _ else _) = _; rw [if_pos c41]) I4 (y1.X.trans (x3.trans y4.X)) X4 (y4.P hpf p3)
      · rw [e] at hP0
        exact hP0 1 s3.1 (by show (if lc T n s3.1 = 93 then _ else _) = _; rw [if_neg c41]) I4 (y1.X.trans (x3.trans y4.X)) b4
  · have c22' : ¬ wd T n s = 22 := c22
    have ha : pFact T n k dd s = pCmp T n k dd s := by
      rw [pFact_all c91 c23]
      exact if_neg c22'
    rw [ha] at hP0 hP1
    unfold pCmp at hP0 hP1
    refine cR_sums hpf hk2 hdd (d + 8) s cs I _ (by omega) hX hc hk hw (fun a q e I1 x1 b1 => b0 (zc_Qi.of ?_)) (fun s1 c1 e I1 x1 X1 p1 => b1 ?_)
    · rw [e] at hP0
      exact hP0 a q rfl I1 x1 b1
    · rw [e] at hP0 hP1
      have hP0' : ∀ a q, (if lc T n s1.1 = 60 ∨ lc T n s1.1 = 62 ∨ lc T n s1.1 = 61 then pPut (pAdd (pSum T n (pPart T n k dd) (aS T n s1)) c1) [if lc T n s1.1 = 60 then 7 else if lc T n s1.1 = 62 then 8 else 9] else .inl (1, s1.1)) = .inl (a, q) → ∀ I', cX pf I I' → cBad a q I' → P 0 I' J := hP0
      have hP1' : ∀ s' out, (if lc T n s1.1 = 60 ∨ lc T n s1.1 = 62 ∨ lc T n s1.1 = 61 then pPut (pAdd (pSum T n (pPart T n k dd) (aS T n s1)) c1) [if lc T n s1.1 = 60 then 7 else if lc T n s1.1 = 62 then 8 else 9] else .inl (1, s1.1)) = .inr (s', out) → ∀ I', cX pf I I' → cTx T n s' I' → cP I' pf (cs ++ out) → P 1 I' J := hP1
      obtain ⟨_, t3, _, t4⟩ := tyR_sum (tyR_part (T := T) (n := n) (kd := k) dd) _ s1 c1 hX.ok e
      have hl3 : (cs ++ c1).length = cs.length + c1.length := List.length_append
      have hk1 := x1.k hpf hk
      have go : ∀ (sg st c : Int), ((0 ≤ sg ∧ sg ≤ 255) ∧ ¬ fL sg = true ∧ ¬ fN sg = true) → lc T n s1.1 = sg → (lc T n s1.1 = 60 ∨ lc T n s1.1 = 62 ∨ lc T n s1.1 = 61) → (if lc T n s1.1 = 60 then (7 : Int) else if lc T n s1.1 = 62 then 8 else 9) = c → ax_or (ax_shl 0 4) st = cm c → zb_W (d + 8) ax_m17 (195, [some (.inr (.inr (some 7))), some (.inl (6 - (dd : Int))), some (.inl st)], [], zc_S hf pf I1 J) (zc_Qi hf pf P) := by
        intro sg st c hsg hlc hor hif hcm
        rw [if_pos hor, hif] at hP0' hP1'
        exact cR_195 hpf hk2 hdd (by omega) hcm hsg hlc X1 p1 x1 hk1 (by omega) hP0' hP1'
      refine sc_isSign X1 sg60 (bc (fun c60 => ⟨fun q => absurd q (by decide), fun _ => go 60 9 7 sg60 c60 (Or.inl c60) (by rw [if_pos c60]) (by decide +kernel)⟩) (fun c60 => sc_isSign X1 sg62 (bc (fun c62 => ⟨fun q => absurd q (by decide), fun _ => go 62 10 8 sg62 c62 (Or.inr (Or.inl c62)) (by rw [if_neg c60, if_pos c62]) (by decide +kernel)⟩) (fun c62 => ⟨fun _ => sc_isSign X1 sg61 (bc (fun c61 => go 61 11 9 sg61 c61 (Or.inr (Or.inr c61)) (by rw [if_neg c60, if_neg c62]) (by decide +kernel)) (fun c61 => sc_failHere (s := s1) X1.2.2.2.1 (fun I2 y2 b2 => ⟨Or.inl rfl, zc_Qi.of (hP0' 1 s1.1 (if_neg (by omega)) I2 (x1.trans y2.X) b2)⟩))), fun q => absurd rfl q⟩))))
theorem cR_fact (hpf : isP pf) (hk2 : k ≤ 2) : ∀ dd : Nat, dd ≤ 6 → cRd T n hf pf J k 17 (9 + 4 * dd) (6 - (dd : Int)) (pFact T n k dd) := by
  intro dd
  induction dd with
  | zero => intro h; exact cR_fact_s hpf hk2 h (fun dd' e => by omega)
  | succ d ih => intro h; exact cR_fact_s hpf hk2 h (fun dd' e => by
      have : d = dd' := by omega
      subst this
      exact ih (by omega))
theorem cR_tests (hpf : isP pf) (hk2 : k ≤ 2) : cRd T n hf pf J k 15 35 0 (pTst T n (pFact T n k 6)) := cR_test hpf (cR_both hpf (cR_fact (T := T) (n := n) (hf := hf) (J := J) hpf hk2 6 (by decide)) (tyR_fact 6) (by decide)) (tyR_c (tyR_fact 6) opR_Mt) (by decide)
end ZCTa
