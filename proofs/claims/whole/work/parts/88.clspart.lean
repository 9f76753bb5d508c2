/-! THE CLASS: parts -/
section ZCPa
variable {T : Nat → Int} {n : Int} {kd : Nat} {s : zs}
theorem pPart_at {dd : Nat} (h1 : lc T n s.1 ≠ 40) (h2 : wd T n s ≠ 7) (h3 : wd T n s ≠ 8) (h4 : pw T n kd s = -1) : pPart T n kd dd s = pAtom T n kd s := by
  cases dd with
  | zero => show (if _ then _ else _) = _; rw [if_neg h1, if_neg (by omega), if_pos h4]
  | succ d => show (if _ then _ else _) = _; rw [if_neg h1, if_neg (by omega), if_pos h4]
theorem pPart_o0 (h1 : lc T n s.1 = 40) : pPart T n kd 0 s = .inl (4, s.1) := by show (if _ then _ else _) = _; rw [if_pos h1]
theorem pPart_o1 {d : Nat} (h1 : lc T n s.1 = 40) : pPart T n kd (d + 1) s = pThen T n 41 (pSum T n (pPart T n kd d) (aS T n s)) := by show (if _ then _ else _) = _; rw [if_pos h1]
theorem pPart_p0 (h1 : lc T n s.1 ≠ 40) (h2 : wd T n s ≠ 7) (h3 : wd T n s ≠ 8) (h4 : pw T n kd s ≠ -1) : pPart T n kd 0 s = .inl (4, s.1) := by show (if _ then _ else _) = _; rw [if_neg h1, if_neg (by omega), if_neg h4]
theorem pPart_p1 {d : Nat} (h1 : lc T n s.1 ≠ 40) (h2 : wd T n s ≠ 7) (h3 : wd T n s ≠ 8) (h4 : pw T n kd s ≠ -1) : pPart T n kd (d + 1) s = pPut (pPart T n kd d (aWd T n s)) [pw T n kd s + 50] := by show (if _ then _ else _) = _; rw [if_neg h1, if_neg (by omega), if_neg h4]
theorem pPart_mn {dd : Nat} (h1 : lc T n s.1 ≠ 40) (h2 : wd T n s = 7 ∨ wd T n s = 8) (h3 : lc T n (aWd T n s).1 ≠ 40) : pPart T n kd dd s = .inl (1, (aWd T n s).1) := by
  cases dd with
  | zero => show (if _ then _ else _) = _; rw [if_neg h1, if_pos h2, if_neg h3]
  | succ d => show (if _ then _ else _) = _; rw [if_neg h1, if_pos h2, if_neg h3]
theorem pPart_m0 (h1 : lc T n s.1 ≠ 40) (h2 : wd T n s = 7 ∨ wd T n s = 8) (h3 : lc T n (aWd T n s).1 = 40) : pPart T n kd 0 s = .inl (4, (aWd T n s).1) := by show (if _ then _ else _) = _; rw [if_neg h1, if_pos h2, if_pos h3]
theorem pPart_m1 {d : Nat} (h1 : lc T n s.1 ≠ 40) (h2 : wd T n s = 7 ∨ wd T n s = 8) (h3 : lc T n (aWd T n s).1 = 40) : pPart T n kd (d + 1) s = pBnd (pThen T n 44 (pSum T n (pPart T n kd d) (aS T n (aWd T n s)))) (fun s1 c1 => pThen T n 41 (pPut (pAdd (pSum T n (pPart T n kd d) s1) c1) [if wd T n s = 7 then 5 else 6])) := by show (if _ then _ else _) = _; rw [if_neg h1, if_pos h2, if_pos h3]
end ZCPa
section ZCPb
variable {T : Nat → Int} {n : Int} {hf pf : Nat} {J : zF} {k : Nat} {s : zs} {I : zF} {P : Int → zF → zF → Prop} {cs : List Int}
theorem cTx.add {I I' : zF} (hpf : isP pf) (h : cTx T n s I) (f : ∀ i j, i ≠ pf + 1 → ¬ (i = pf ∧ j = 2) → I' i j = I i j) : cTx T n s I' := by
  have := hpf.ne
  exact h.fr (fun i j hij => f i j (by omega) (by omega))
theorem cX.add {I I' : zF} (f : ∀ i j, i ≠ pf + 1 → ¬ (i = pf ∧ j = 2) → I' i j = I i j) : cX pf I I' := fun i j _ b c => f i j b c
theorem sg41 : (0 ≤ (41 : Int) ∧ (41 : Int) ≤ 255) ∧ ¬ fL 41 = true ∧ ¬ fN 41 = true := ⟨⟨by decide, by decide⟩, by decide, by decide⟩
theorem sg44 : (0 ≤ (44 : Int) ∧ (44 : Int) ≤ 255) ∧ ¬ fL 44 = true ∧ ¬ fN 44 = true := ⟨⟨by decide, by decide⟩, by decide, by decide⟩
theorem sg40 : (0 ≤ (40 : Int) ∧ (40 : Int) ≤ 255) ∧ ¬ fL 40 = true ∧ ¬ fN 40 = true := ⟨⟨by decide, by decide⟩, by decide, by decide⟩
theorem cR_lg {dd e : Nat} {st c o : Int} (hpf : isP pf) (ih : ∀ dd', dd = dd' + 1 → cRd T n hf pf J k 18 (8 + 4 * dd') (6 - (dd' : Int)) (pSum T n (pPart T n k dd'))) (ho : o = 6 - (dd : Int)) (hdd : dd ≤ 6) (hst : (st = 14 ∧ c = 5 ∧ wd T n s = 7) ∨ (st = 15 ∧ c = 6 ∧ wd T n s = 8)) (h40 : lc T n s.1 ≠ 40) (he : 5 + 4 * dd ≤ e) (hX : cTx T n s I) (hc : cP I pf cs) (hk : I 7 2 = (k : Int)) (hw : (cs.length : Int) ≤ s.1) (hP0 : ∀ a q, pPart T n k dd s = .inl (a, q) → ∀ I', cX pf I I' → cBad a q I' → P 0 I' J) (hP1 : ∀ s' out, pPart T n k dd s = .inr (s', out) → ∀ I', cX pf I I' → cTx T n s' I' → cP I' pf (cs ++ out) → P 1 I' J) : zc_i e 21 [.inr (.inr (some 7)), .inl st, .inl o] hf pf I J P := by
  obtain ⟨d, rfl⟩ : ∃ d, e = d + 5 := ⟨e - 5, by omega⟩
  have hne := hpf.ne
  have hwd : wd T n s = 7 ∨ wd T n s = 8 := by omega
  have hn := hX.ok.n
  have hwp := wd_pos (T := T) (n := n) (s := s) (by omega)
  have hlt := wd_w (T := T) (n := n) (s := s) (by omega)
  have hcm : ax_or (ax_shl 0 4) st = cm c := by
    rcases hst with ⟨a, b, _⟩ | ⟨a, b, _⟩ <;> rw [a, b] <;> decide +kernel
  have hif : (if wd T n s = 7 then (5 : Int) else 6) = c := by
    rcases hst with ⟨_, b, w⟩ | ⟨_, b, w⟩
    · rw [if_pos w, b]
    · rw [if_neg (by omega), b]
  refine zc_ini (M := ax_m21) rfl (Nat.le_of_ble_eq_true rfl) (zk_FormulaReader_lesserOrGreater_0 hf pf I J st o hpf (sc_adv_W hX hwp.1 (fun I1 y1 X1 _ _ => sc_isSign X1 sg40 (bc (fun c40 => ?_) (fun c40 => ?_)))))
  · have hlt2 := aS_lt T n (aWd T n s)
    refine sc_opens (by omega) X1 (fun o6 I2 y2 b2 => b0 (zc_Qi.of ?_)) (fun o6 => sc_adv_S X1 sg40 c40 (fun I2 y2 X2 _ _ => b1 ?_))
    · have d0 : dd = 0 := by omega
      subst d0
      exact hP0 4 _ (pPart_m0 h40 hwd c40) I2 (y1.X.trans y2.X) b2
    · obtain ⟨dd', hdd'⟩ : ∃ dd', dd = dd' + 1 := ⟨dd - 1, by omega⟩
      have hs := ih dd' hdd'
      have hty := tyR_sum (tyR_part (T := T) (n := n) (kd := k) dd')
      subst hdd'
      rw [show o + 1 = 6 - (dd' : Int) by omega]
      rw [pPart_m1 h40 hwd c40, hif] at hP0 hP1
      have x2 : cX pf I I2 := y1.X.trans y2.X
      refine hs (d + 4) _ cs I2 _ (by omega) X2 (y2.P hpf (y1.P hpf hc)) (x2.k hpf hk) (by omega) (fun a q e I3 x3 b3 => b0 (zc_Qi.of ?_)) (fun s3 c3 e I3 x3 X3 p3 => b1 (sc_takeSign X3 sg44 (fun c44 I4 y4 X4 => b1 ?_) (fun c44 I4 y4 b4 => b0 (zc_Qi.of ?_))))
      · rw [e] at hP0
        exact hP0 a q rfl I3 (x2.trans x3) b3
      · have x4 : cX pf I I4 := x2.trans (x3.trans y4.X)
        obtain ⟨_, t3, _, t4⟩ := hty _ s3 c3 X2.ok e
        have hl3 : (cs ++ c3).length = cs.length + c3.length := List.length_append
        have hlt4 := aS_lt T n s3
        have e3 : pThen T n 44 (pSum T n (pPart T n k dd') (aS T n (aWd T n s))) = .inr (aS T n s3, c3) := by
          rw [e]; show (if lc T n s3.1 = 44 then _ else _) = _; rw [if_pos c44]
        rw [e3] at hP0 hP1
        have hP0' : ∀ a q, pThen T n 41 (pPut (pAdd (pSum T n (pPart T n k dd') (aS T n s3)) c3) [c]) = .inl (a, q) → ∀ I', cX pf I I' → cBad a q I' → P 0 I' J := hP0
        have hP1' : ∀ s' out, pThen T n 41 (pPut (pAdd (pSum T n (pPart T n k dd') (aS T n s3)) c3) [c]) = .inr (s', out) → ∀ I', cX pf I I' → cTx T n s' I' → cP I' pf (cs ++ out) → P 1 I' J := hP1
        refine hs (d + 4) _ (cs ++ c3) I4 _ (by omega) X4 (y4.P hpf p3) (x4.k hpf hk) (by omega) (fun a q e5 I5 x5 b5 => b0 (zc_Qi.of ?_)) (fun s5 c5 e5 I5 x5 X5 p5 => b1 ?_)
        · rw [e5] at hP0'
          exact hP0' a q rfl I5 (x4.trans x5) b5
        · obtain ⟨_, t5, _, t6⟩ := hty _ s5 c5 X4.ok e5
          have h5 := X5.ok.1
          have hl5 : (cs ++ c3 ++ c5).length = (cs ++ c3).length + c5.length := List.length_append
          refine sc_addP hpf p5 (by omega) hcm (fun I6 f6 p6 => ?_)
          have X6 := X5.add hpf f6
          have x6 : cX pf I I6 := x4.trans (x5.trans (cX.add f6))
          rw [e5] at hP0' hP1'
          refine sc_takeSign X6 sg41 (fun c41 I7 y7 X7 => ⟨Or.inr rfl, zc_Qi.of (hP1' (aS T n s5) (c3 ++ c5 ++ [c]) ?_ I7 (x6.trans y7.X) X7 ?_)⟩) (fun c41 I7 y7 b7 => ⟨Or.inl rfl, zc_Qi.of (hP0' 1 s5.1 ?_ I7 (x6.trans y7.X) b7)⟩)
          · show (if lc T n s5.1 = 41 then _ else _) = _; rw [if_pos c41]
          · have := y7.P hpf p6
            rw [show cs ++ (c3 ++ c5 ++ [c]) = cs ++ c3 ++ c5 ++ [c] by simp only [List.append_assoc]]
            exact this
          · show (if lc T n s5.1 = 41 then _ else _) = _; rw [if_neg c41]
      · have e3 : pThen T n 44 (pSum T n (pPart T n k dd') (aS T n (aWd T n s))) = .inl (1, s3.1) := by
          rw [e]; show (if lc T n s3.1 = 44 then _ else _) = _; rw [if_neg c44]
        rw [e3] at hP0
        exact hP0 1 s3.1 rfl I4 (x2.trans (x3.trans y4.X)) b4
  · exact sc_failHere (s := aWd T n s) X1.2.2.2.1 (fun I2 y2 b2 => ⟨Or.inl rfl, zc_Qi.of (hP0 1 _ (pPart_mn h40 hwd c40) I2 (y1.X.trans y2.X) b2)⟩)
theorem cR_lu {dd e : Nat} {st o : Int} (hpf : isP pf) (ih : ∀ dd', dd = dd' + 1 → cRd T n hf pf J k 20 (6 + 4 * dd') (6 - (dd' : Int)) (pPart T n k dd')) (ho : o = 6 - (dd : Int)) (hdd : dd ≤ 6) (hst : (st = 3 ∧ wd T n s = 9) ∨ (st = 4 ∧ wd T n s = 10)) (hk2 : k = 2) (h40 : lc T n s.1 ≠ 40) (he : 5 + 4 * dd ≤ e) (hX : cTx T n s I) (hc : cP I pf cs) (hk : I 7 2 = (k : Int)) (hw : (cs.length : Int) ≤ s.1) (hP0 : ∀ a q, pPart T n k dd s = .inl (a, q) → ∀ I', cX pf I I' → cBad a q I' → P 0 I' J) (hP1 : ∀ s' out, pPart T n k dd s = .inr (s', out) → ∀ I', cX pf I I' → cTx T n s' I' → cP I' pf (cs ++ out) → P 1 I' J) : zc_i e 22 [.inr (.inr (some 7)), .inl st, .inl o] hf pf I J P := by
  obtain ⟨d, rfl⟩ : ∃ d, e = d + 5 := ⟨e - 5, by omega⟩
  have hne := hpf.ne
  have hn := hX.ok.n
  have hwp := wd_pos (T := T) (n := n) (s := s) (by omega)
  have hlt := wd_w (T := T) (n := n) (s := s) (by omega)
  have hpw : pw T n k s = if wd T n s = 9 then 10 else 11 := by
    rw [hk2]
    rcases hst with ⟨_, w⟩ | ⟨_, w⟩
    · unfold pw; rw [w]; decide
    · unfold pw; rw [w]; decide
  have hp1 : pw T n k s ≠ -1 := by
    rw [hpw]
    by_cases c : wd T n s = 9
    · rw [if_pos c]; decide
    · rw [if_neg c]; decide
  have hcm : ax_or (ax_shl 0 4) st = cm (pw T n k s + 50) := by
    rw [hpw]
    rcases hst with ⟨a, w⟩ | ⟨a, w⟩
    · rw [a, if_pos w]; decide +kernel
    · rw [a, if_neg (by omega)]; decide +kernel
  refine zc_ini (M := ax_m22) rfl (Nat.le_of_ble_eq_true rfl) (zk_FormulaReader_lookUp_0 hf pf I J st o hpf (sc_opens (by omega) hX (fun o6 I1 y1 b1 => b0 (zc_Qi.of ?_)) (fun o6 => sc_adv_W hX hwp.1 (fun I1 y1 X1 _ _ => b1 ?_))))
  · have d0 : dd = 0 := by omega
    subst d0
    exact hP0 4 _ (pPart_p0 h40 (by omega) (by omega) hp1) I1 y1.X b1
  · obtain ⟨dd', hdd'⟩ : ∃ dd', dd = dd' + 1 := ⟨dd - 1, by omega⟩
    have hs := ih dd' hdd'
    have hty := tyR_part (T := T) (n := n) (kd := k) dd'
    subst hdd'
    rw [show o + 1 = 6 - (dd' : Int) by omega]
    rw [pPart_p1 h40 (by omega) (by omega) hp1] at hP0 hP1
    refine hs (d + 4) _ cs I1 _ (by omega) X1 (y1.P hpf hc) (y1.X.k hpf hk) (by omega) (fun a q e I3 x3 b3 => b0 (zc_Qi.of ?_)) (fun s3 c3 e I3 x3 X3 p3 => b1 ?_)
    · rw [e] at hP0
      exact hP0 a q rfl I3 (y1.X.trans x3) b3
    · obtain ⟨_, t3, _, t4⟩ := hty _ s3 c3 X1.ok e
      have h3 := X3.ok.1
      have hl3 : (cs ++ c3).length = cs.length + c3.length := List.length_append
      rw [e] at hP1
      exact sc_addP hpf p3 (by omega) hcm (fun I4 f4 p4 => zc_Qi.of (hP1 s3 _ rfl I4 (y1.X.trans (x3.trans (cX.add f4))) (X3.add hpf f4) (by rw [← List.append_assoc]; exact p4)))
end ZCPb
