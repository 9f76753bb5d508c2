/-! THE CLASS: parts and facts -/
section ZCFa
variable {T : Nat → Int} {n : Int} {hf pf : Nat} {J : zF} {k : Nat} {s : zs} {I : zF} {P : Int → zF → zF → Prop} {cs : List Int}
theorem tk2_no {most : Int} (hok : sOk T n s) (h : tk T n s ≠ 2) : pNum T n s most = .inl (1, s.1) := by
  unfold pNum
  rw [if_neg (fun q => h ((tk2 hok).mpr q))]
theorem vw_k {v : Int} (hk2 : k ≤ 2) (h : ¬ (k = 2 ∧ (wd T n s = 9 ∨ wd T n s = 10))) : pw T n k s = -1 := by
  unfold pw
  rw [if_neg]
  intro q
  have h1 : vOf (wd T n s) = 10 ∨ vOf (wd T n s) = 11 := by have := vOf_in (wd T n s); omega
  have hw : wd T n s = 9 ∨ wd T n s = 10 := by
    unfold vOf at h1
    by_cases c1 : 11 ≤ wd T n s ∧ wd T n s ≤ 20
    · rw [if_pos c1] at h1; omega
    · rw [if_neg c1] at h1
      by_cases c2 : wd T n s = 9
      · exact Or.inl c2
      · rw [if_neg c2] at h1
        by_cases c3 : wd T n s = 10
        · exact Or.inr c3
        · rw [if_neg c3] at h1; omega
  have hk : k = 0 ∨ k = 1 := by omega
  have q2 := q.2
  unfold alw at q2
  rcases hk with rfl | rfl
  · have := of_decide_eq_true q2; omega
  · have := of_decide_eq_true q2; omega
theorem cR_185 {d : Nat} (hpf : isP pf) (hk2 : k ≤ 2) (h2 : tk T n s ≠ 2) (hX : cTx T n s I) (hc : cP I pf cs) (hk : I 7 2 = (k : Int)) (hw : (cs.length : Int) ≤ s.1) (hP0 : ∀ a q, pAtom T n k s = .inl (a, q) → ∀ I', cX pf I I' → cBad a q I' → P 0 I' J) (hP1 : ∀ s' out, pAtom T n k s = .inr (s', out) → ∀ I', cX pf I I' → cTx T n s' I' → cP I' pf (cs ++ out) → P 1 I' J) : zb_W (d + 5) ax_m20 (185, [some (.inr (.inr (some 7))), none, none], [], zc_S hf pf I J) (zc_Qi hf pf P) := by
  have hv := vw_in T n k s
  have hv32 : n32 (vw T n k s) := ⟨by omega, by omega⟩
  have hn := hX.ok.n
  have fin : (ax_w (vw T n k s) = ax_w (-1) → zc_i (d + 5) 103 [.inr (.inr (some 3)), .inl 1] hf pf I J (fun r10 I7 J8 => (r10 = 0 ∨ r10 = 1) ∧ zc_Qi hf pf P (some (.inl r10)) (zc_S hf pf I7 J8))) ∧ (¬ ax_w (vw T n k s) = ax_w (-1) → zc_v (d + 5) 91 [.inr (.inr (some 3))] hf pf I J (fun I11 J12 => zc_v (d + 5) 50 [.inr (.inr (some pf)), .inl 1, .inl (vw T n k s)] hf pf I11 J12 (fun I14 J15 => zc_Qi hf pf P (some (.inl 1)) (zc_S hf pf I14 J15)))) := by
    refine w_if hv32 ⟨by decide, by decide⟩ (fun c => ?_) (fun c => ?_)
    · have ha : pAtom T n k s = .inl (1, s.1) := by
        unfold pAtom
        rw [if_pos c, tk2_no hX.ok h2]
      exact sc_failHere (s := s) hX.2.2.2.1 (fun I2 y2 b2 => ⟨Or.inl rfl, zc_Qi.of (hP0 1 _ ha I2 y2.X b2)⟩)
    · have ha : pAtom T n k s = .inr (aWd T n s, [40 + vw T n k s]) := if_neg c
      have hv2 := hv.2 c
      have hw0 : 0 ≤ wd T n s := vOf_nn (by omega)
      have hwp := wd_pos (T := T) (n := n) (s := s) hw0
      have hlt := wd_w (T := T) (n := n) (s := s) hw0
      refine sc_adv_W hX hwp.1 (fun I1 y1 X1 _ _ => ?_)
      have h1 := X1.ok.1
      refine sc_addP hpf (y1.P hpf hc) (by omega) (c := 40 + vw T n k s) ?_ (fun I2 f2 p2 => zc_Qi.of (hP1 _ _ ha I2 (y1.X.trans (cX.add f2)) (X1.add hpf f2) p2))
      rw [or4_i (by omega) ⟨by decide, by decide⟩]
      unfold cm
      rw [if_neg (by omega), if_neg (by omega), if_pos (by omega)]
      omega
  refine zk_FormulaReader_part_185 hf pf I J hpf ?_
  rw [hk]
  rcases (show k = 0 ∨ k = 1 ∨ k = 2 by omega) with rfl | rfl | rfl
  · exact ⟨fun _ => sc_doubtSlot hX fin, fun q => absurd rfl q⟩
  · exact ⟨fun q => absurd q (by decide), fun _ => ⟨fun _ => sc_rainSlot hX fin, fun q => absurd rfl q⟩⟩
  · exact ⟨fun q => absurd q (by decide), fun _ => ⟨fun q => absurd q (by decide), fun _ => sc_questionSlot hX fin⟩⟩
theorem cR_part_s {dd : Nat} (hpf : isP pf) (hk2 : k ≤ 2) (hdd : dd ≤ 6) (ih : ∀ dd', dd = dd' + 1 → cRd T n hf pf J k 20 (6 + 4 * dd') (6 - (dd' : Int)) (pPart T n k dd')) : cRd T n hf pf J k 20 (6 + 4 * dd) (6 - (dd : Int)) (pPart T n k dd) := by
  have ihs : ∀ dd', dd = dd' + 1 → cRd T n hf pf J k 18 (8 + 4 * dd') (6 - (dd' : Int)) (pSum T n (pPart T n k dd')) := fun dd' e => by
    have h1 := cR_sum hpf (cR_product hpf (ih dd' e) (tyR_part dd') (by omega)) (tyR_c (tyR_part dd') opR_M) (by omega)
    rw [show 6 + 4 * dd' + 1 + 1 = 8 + 4 * dd' by omega] at h1
    exact h1
  intro e s cs I P he hX hc hk hw hP0 hP1
  obtain ⟨d, rfl⟩ : ∃ d, e = d + 6 := ⟨e - 6, by omega⟩
  have hne := hpf.ne
  have hn := hX.ok.n
  have h1 := hX.ok.1
  have ht := tk_in T n s
  refine zc_ini (M := ax_m20) rfl (Nat.le_of_ble_eq_true rfl) (zk_FormulaReader_part_0 hf pf I J (6 - (dd : Int)) hpf ?_)
  rw [hX.2.2.1]
  refine w_if ⟨by omega, by omega⟩ ⟨by decide, by decide⟩ (fun c2 => ?_) (fun c2 => ?_)
  · have hd := (tk2 hX.ok).mp c2
    have hlc : lc T n s.1 = T s.1.toNat := if_pos hd.1.1
    have hfn := of_decide_eq_true hd.1.2
    have hwd : wd T n s = -1 := wd_lc (c := T s.1.toNat) (by unfold fL; rw [decide_eq_true_eq]; omega) (by omega) hlc
    have hpa : pPart T n k dd s = pAtom T n k s := pPart_at (by omega) (by omega) (by omega) (vw_k (v := 0) hk2 (by omega))
    have hvw : vw T n k s = -1 := by
      by_cases c : vw T n k s = -1
      · exact c
      · have := vOf_nn (k := wd T n s) (by have := (vw_in T n k s).2 c; omega)
        omega
    have hat : pAtom T n k s = (match pNum T n s 9999 with | .inl e => .inl e | .inr (s', v) => .inr (s', [1000 + v])) := if_pos hvw
    rw [hpa] at hP0 hP1
    refine sc_takeNumber hX ⟨by decide, by decide⟩ (fun s' v e I1 y1 X1 e4 _ hv => b1 ?_) (fun a q e I1 y1 b1 => b0 (zc_Qi.of (hP0 a q ?_ I1 y1.X b1)))
    · rw [e] at hat
      obtain ⟨_, _, _, t4⟩ := tyR_atom (T := T) (n := n) (kd := k) s s' _ hX.ok hat
      have h2 := X1.ok.1
      refine sc_addP hpf (y1.P hpf hc) (by omega) (c := 1000 + v) ?_ (fun I2 f2 p2 => zc_Qi.of (hP1 s' _ hat I2 (y1.X.trans (cX.add f2)) (X1.add hpf f2) p2))
      rw [e4, or4_i (by omega) ⟨by decide, by decide⟩]
      unfold cm
      rw [if_pos (by omega)]
      omega
    · rw [hat, e]
  · refine sc_isSign hX sg40 (bc (fun c40 => ?_) (fun c40 => sc_is hX (ks := 7) (by decide) (by decide) (bc (fun c7 => ?_) (fun c7 => sc_is hX (ks := 8) (by decide) (by decide) (bc (fun c8 => ?_) (fun c8 => ?_))))))
    · refine sc_opens (by omega) hX (fun o6 I1 y1 b1 => b0 (zc_Qi.of ?_)) (fun o6 => sc_adv_S hX sg40 c40 (fun I1 y1 X1 _ _ => b1 ?_))
      · have d0 : dd = 0 := by omega
        subst d0
        exact hP0 4 _ (pPart_o0 c40) I1 y1.X b1
      · obtain ⟨dd', hdd'⟩ : ∃ dd', dd = dd' + 1 := ⟨dd - 1, by omega⟩
        have hs := ihs dd' hdd'
        subst hdd'
        rw [show 6 - ((dd' + 1 : Nat) : Int) + 1 = 6 - (dd' : Int) by omega]
        rw [pPart_o1 c40] at hP0 hP1
        have hlt2 := aS_lt T n s
        refine hs (d + 5) _ cs I1 _ (by omega) X1 (y1.P hpf hc) (y1.X.k hpf hk) (by omega) (fun a q e I3 x3 b3 => b0 (zc_Qi.of ?_)) (fun s3 c3 e I3 x3 X3 p3 => b1 (sc_takeSign X3 sg41 (fun c41 I4 y4 X4 => b1 (zc_Qi.of ?_)) (fun c41 I4 y4 b4 => b0 (zc_Qi.of ?_))))
        · rw [e] at hP0
          exact hP0 a q rfl I3 (y1.X.trans x3) b3
        · rw [e] at hP1
          exact hP1 (aS T n s3) c3 (by show (if lc T n s3.1 = 41 then _ else _) = _; rw [if_pos c41]) I4 (y1.X.trans (x3.trans y4.X)) X4 (y4.P hpf p3)
        · rw [e] at hP0
          exact hP0 1 s3.1 (by show (if lc T n s3.1 = 41 then _ else _) = _; rw [if_neg c41]) I4 (y1.X.trans (x3.trans y4.X)) b4
    · exact cR_lg (c := 5) hpf ihs rfl hdd (Or.inl ⟨rfl, rfl, c7⟩) c40 (by omega) hX hc hk hw (fun a q e I1 x1 b1 => ⟨Or.inl rfl, zc_Qi.of (hP0 a q e I1 x1 b1)⟩) (fun s1 o1 e I1 x1 X1 p1 => ⟨Or.inr rfl, zc_Qi.of (hP1 s1 o1 e I1 x1 X1 p1)⟩)
    · exact cR_lg (c := 6) hpf ihs rfl hdd (Or.inr ⟨rfl, rfl, c8⟩) c40 (by omega) hX hc hk hw (fun a q e I1 x1 b1 => ⟨Or.inl rfl, zc_Qi.of (hP0 a q e I1 x1 b1)⟩) (fun s1 o1 e I1 x1 X1 p1 => ⟨Or.inr rfl, zc_Qi.of (hP1 s1 o1 e I1 x1 X1 p1)⟩)
    · have c7' : wd T n s ≠ 7 := c7
      have c8' : wd T n s ≠ 8 := c8
      have atom : ¬ (k = 2 ∧ (wd T n s = 9 ∨ wd T n s = 10)) → zb_W (d + 5) ax_m20 (185, [some (.inr (.inr (some 7))), none, none], [], zc_S hf pf I J) (zc_Qi hf pf P) := fun hno => by
        rw [pPart_at c40 c7' c8' (vw_k (v := 0) hk2 hno)] at hP0 hP1
        exact cR_185 hpf hk2 c2 hX hc hk hw hP0 hP1
      have look : ∀ st : Int, ((st = 3 ∧ wd T n s = 9) ∨ (st = 4 ∧ wd T n s = 10)) → k = 2 → zc_i (d + 5) 22 [.inr (.inr (some 7)), .inl st, .inl (6 - (dd : Int))] hf pf I J (fun r34 I31 J32 => (r34 = 0 ∨ r34 = 1) ∧ zc_Qi hf pf P (some (.inl r34)) (zc_S hf pf I31 J32)) := fun st h hk2 => cR_lu hpf ih rfl hdd h hk2 c40 (by omega) hX hc hk hw (fun a q e I1 x1 b1 => ⟨Or.inl rfl, zc_Qi.of (hP0 a q e I1 x1 b1)⟩) (fun s1 o1 e I1 x1 X1 p1 => ⟨Or.inr rfl, zc_Qi.of (hP1 s1 o1 e I1 x1 X1 p1)⟩)
      have at158 : wd T n s ≠ 9 ∨ k ≠ 2 → zb_W (d + 5) ax_m20 (158, [some (.inr (.inr (some 7))), some (.inl (6 - (dd : Int))), none], [], zc_S hf pf I J) (zc_Qi hf pf P) := fun h9 => by
        refine zk_FormulaReader_part_158 hf pf I J (6 - (dd : Int)) ?_
        rw [hk]
        refine w_if ⟨by omega, by omega⟩ ⟨by decide, by decide⟩ (fun ck => sc_is hX (ks := 10) (by decide) (by decide) (bc (fun c10 => look 4 (Or.inr ⟨rfl, c10⟩) (by omega)) (fun c10 => ?_))) (fun ck => ?_)
        · have c10' : wd T n s ≠ 10 := c10
          exact atom (by omega)
        · exact atom (by omega)
      rw [hk]
      refine w_if ⟨by omega, by omega⟩ ⟨by decide, by decide⟩ (fun ck => sc_is hX (ks := 9) (by decide) (by decide) (bc (fun c9 => look 3 (Or.inl ⟨rfl, c9⟩) (by omega)) (fun c9 => at158 (Or.inl c9)))) (fun ck => at158 (by omega))
theorem cR_part (hpf : isP pf) (hk2 : k ≤ 2) : ∀ dd : Nat, dd ≤ 6 → cRd T n hf pf J k 20 (6 + 4 * dd) (6 - (dd : Int)) (pPart T n k dd) := by
  intro dd
  induction dd with
  | zero => intro h; exact cR_part_s hpf hk2 h (fun dd' e => by omega)
  | succ d ih => intro h; exact cR_part_s hpf hk2 h (fun dd' e => by
      have : d = dd' := by omega
      subst this
      exact ih (by omega))
theorem cR_sums (hpf : isP pf) (hk2 : k ≤ 2) {dd : Nat} (hd : dd ≤ 6) : cRd T n hf pf J k 18 (8 + 4 * dd) (6 - (dd : Int)) (pSum T n (pPart T n k dd)) := by
  have h1 := cR_sum hpf (cR_product hpf (cR_part (T := T) (n := n) (hf := hf) (J := J) hpf hk2 dd hd) (tyR_part dd) (by omega)) (tyR_c (tyR_part dd) opR_M) (by omega)
  rw [show 6 + 4 * dd + 1 + 1 = 8 + 4 * dd by omega] at h1
  exact h1
end ZCFa
