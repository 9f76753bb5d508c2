/-! THE CLASS: acts kept and undone; what is asked -/
section ZC7
variable {d hf pf : Nat} {I J : zF} {D : zD} {pg : zG} {W : zD} {P : Int → zF → zF → Prop} {P0 : zF → zF → Prop}
theorem sc_remember {U : Nat → zD} {u : Int} (hU : uC D U u I) (hW : wOk D W) (hr : rowC W (I 13)) (hP : ∀ I', (∀ i j, ¬ (16 ≤ i ∧ i ≤ 35) → ¬ (i = 12 ∧ (j = 3 ∨ j = 4)) → I' i j = I i j) → uC D (consU W U) (if u < 20 then u + 1 else u) I' → P0 I' J) : zc_v (d + 2) 121 [.inr (.inr (some 12))] hf pf I J P0 := by
  obtain ⟨h3, hu, h4, hrow⟩ := hU
  obtain ⟨n, hn⟩ := Int.eq_ofNat_of_zero_le h4.1
  have hn20 : n < 20 := by omega
  refine zc_inv (M := ax_m121) rfl (Nat.le_of_ble_eq_true rfl) ?_
  show zb_W (d + 1) ax_m121 (0, [some (.inr (.inr (some 12)))], [], zc_S hf pf I J) (zc_Qv hf pf P0)
  refine zb_go [1, 4, 5, 6, 9, 10] (g := True ∧ True ∧ True ∧ True ∧ True ∧ True ∧ True) (z' := (13, [some (.inr (.inr (some 12)))], [.inl (I 12 4), .inr (.inr (some 15)), .inl 0, .inr (.inr (some 13))], zc_S hf pf I J)) rfl ⟨trivial, trivial, trivial, trivial, trivial, trivial, trivial⟩ (zc_aal rfl hn20 (by rw [hn]; exact zb_w (by omega) (by omega)) ?_)
  refine zb_go [15] (g := True ∧ True) (z' := (17, [some (.inr (.inr (some 12)))], [.inl 74, .inl 0, .inr (.inr (some (16 + n))), .inl 0, .inr (.inr (some 13))], zc_S hf pf I J)) rfl ⟨trivial, trivial⟩ (zc_acp rfl rfl (by decide) (by omega) (L0 := 74) (L1 := 74) rfl (zc_K16 n hn20) rfl ⟨by decide, by decide, by decide, by decide, by decide⟩ ?_)
  have c3 : ∀ j, (ax_cpy I 13 (ax_w 0).toNat (16 + n) (ax_w 0).toNat (ax_w 74).toNat) 12 j = I 12 j := fun j => by unfold ax_cpy; rw [if_neg (by omega)]
  have cr : ∀ j, j < 74 → (ax_cpy I 13 (ax_w 0).toNat (16 + n) (ax_w 0).toNat (ax_w 74).toNat) (16 + n) j = I 13 j := by
    intro j hj
    show ax_cpy I 13 0 (16 + n) 0 74 (16 + n) j = _
    unfold ax_cpy
    rw [if_pos (by omega)]
    exact congrArg (I 13) (by omega)
  have co : ∀ i j, i ≠ 16 + n → (ax_cpy I 13 (ax_w 0).toNat (16 + n) (ax_w 0).toNat (ax_w 74).toNat) i j = I i j := fun i j q => by unfold ax_cpy; rw [if_neg (fun r => q r.1)]
  revert c3 cr co
  generalize ax_cpy I 13 (ax_w 0).toNat (16 + n) (ax_w 0).toNat (ax_w 74).toNat = I1
  intro c3 cr co
  refine zc_ci [21, 22, 25, 26, 27, 29, 30, 33, 34, 35, 38, 39, 40, 42] (g := True ∧ True ∧ True ∧ True ∧ True ∧ True ∧ (ax_w 20 ≠ 0) ∧ True ∧ True ∧ True ∧ True ∧ True ∧ True ∧ True ∧ True) (m := 320) (as := [.inl ((ax_u I1 12 4 (Int.tmod (ax_w (I1 12 4 + 1)) (ax_w 20))) 12 3 + 1), .inl 20]) (pc := 45) (ls := [some (.inr (.inr (some 12)))]) (st := [.inr (.inr (some 12))]) (I := ax_u I1 12 4 (Int.tmod (ax_w (I1 12 4 + 1)) (ax_w 20))) (J := J) (P := fun r I' J' => r = (if u < 20 then u + 1 else u) ∧ I' = ax_u I1 12 4 (Int.tmod (ax_w (I1 12 4 + 1)) (ax_w 20)) ∧ J' = J) rfl ⟨trivial, trivial, trivial, trivial, trivial, trivial, by decide, trivial, trivial, trivial, trivial, trivial, trivial, trivial, trivial⟩ ?_ (fun r I2 J2 hh => ?_)
  · rw [zu_ne (i := 12) (j := 4) (b := 3) (by omega), c3, h3]
    refine sc_min ⟨by omega, by omega⟩ ⟨by decide, by decide⟩ ⟨?_, rfl, rfl⟩
    by_cases e : u < 20
    · rw [if_pos e]; split <;> omega
    · rw [if_neg e]; split <;> omega
  · obtain ⟨rfl, rfl, rfl⟩ := hh
    have et : Int.tmod (ax_w (I1 12 4 + 1)) (ax_w 20) = (I 12 4 + 1) % 20 := by
      rw [c3, zb_w (x := I 12 4 + 1) (by omega) (by omega), show ax_w 20 = 20 from rfl]
      exact Int.tmod_eq_emod_of_nonneg (by omega)
    rw [et]
    refine zb_ret [48] (g := True ∧ True) (v := none) (s' := zc_S hf pf (ax_u (ax_u I1 12 4 ((I 12 4 + 1) % 20)) 12 3 (if u < 20 then u + 1 else u)) J2) rfl ⟨trivial, trivial⟩ (zc_Qv.of (hP _ (fun i j q1 q2 => ?_) ⟨zu_eq, by split <;> omega, ?_, fun i hi => ?_⟩))
    · rw [zu_ne (by omega), zu_ne (by omega), co i j (by omega)]
    · rw [zu_ne (by omega), zu_eq]; omega
    · have e4 : (ax_u (ax_u I1 12 4 ((I 12 4 + 1) % 20)) 12 3 (if u < 20 then u + 1 else u)) 12 4 = (I 12 4 + 1) % 20 := by rw [zu_ne (by omega), zu_eq]
      have hi20 : (i : Int) < 20 := by split at hi <;> omega
      rw [e4]
      cases i with
      | zero =>
        refine ⟨hW, rowC_mv hr hW.n (fun j hj => ?_)⟩
        rw [zu_ne (by omega), zu_ne (by omega), ← cr j hj]
        have : 16 + (((I 12 4 + 1) % 20 + 19 - ((0 : Nat) : Int)) % 20).toNat = 16 + n := by omega
        rw [this]
      | succ i =>
        have hiu : (i : Int) < u := by split at hi <;> omega
        refine ⟨(hrow i hiu).1, rowC_mv (hrow i hiu).2 (hrow i hiu).1.n (fun j hj => ?_)⟩
        rw [zu_ne (by omega), zu_ne (by omega), co _ _ (by omega)]
        have : 16 + (((I 12 4 + 1) % 20 + 19 - ((i + 1 : Nat) : Int)) % 20).toNat = 16 + ((I 12 4 + 19 - (i : Int)) % 20).toNat := by omega
        rw [this]
theorem sc_takeBack {U : Nat → zD} {u : Int} (hU : uC D U u I) (hP0 : u = 0 → P 0 I J) (hP : ∀ I', 0 < u → (∀ i j, i ≠ 13 → ¬ (i = 12 ∧ (j = 3 ∨ j = 4)) → I' i j = I i j) → wOk D (U 0) → rowC (U 0) (I' 13) → uC D (fun i => U (i + 1)) (u - 1) I' → P 1 I' J) : zc_i (d + 1) 122 [.inr (.inr (some 12))] hf pf I J P := by
  obtain ⟨h3, hu, h4, hrow⟩ := hU
  refine zc_ini (M := ax_m122) rfl (Nat.le_of_ble_eq_true rfl) ?_
  show zb_W d ax_m122 (0, [some (.inr (.inr (some 12)))], [], zc_S hf pf I J) (zc_Qi hf pf P)
  refine zb_go [1, 4] (g := True ∧ True ∧ True) (z' := (if ax_w (I 12 3) = ax_w 0 then 7 else 9, [some (.inr (.inr (some 12)))], [], zc_S hf pf I J)) rfl ⟨trivial, trivial, trivial⟩ (zb_if (fun c => ?_) (fun c => ?_))
  · rw [h3, zb_w (x := u) (by omega) (by omega)] at c
    exact zb_ret [8] (g := True ∧ ((0 : Int) = 0 ∨ (0 : Int) = 1)) (v := some (.inl 0)) (s' := zc_S hf pf I J) rfl ⟨trivial, Or.inl rfl⟩ (zc_Qi.of (hP0 c))
  · rw [h3, zb_w (x := u) (by omega) (by omega)] at c
    have c' : u ≠ 0 := c
    have hn : ∃ n : Nat, (I 12 4 + 19) % 20 = (n : Int) ∧ n < 20 := ⟨((I 12 4 + 19) % 20).toNat, by omega, by omega⟩
    obtain ⟨n, hn, hn20⟩ := hn
    have et : Int.tmod (ax_w (I 12 4 + 20 - 1)) (ax_w 20) = (n : Int) := by
      rw [zb_w (x := I 12 4 + 20 - 1) (by omega) (by omega), show ax_w 20 = 20 from rfl, Int.tmod_eq_emod_of_nonneg (by omega), ← hn]
      omega
    refine zb_go [10, 11, 14, 16, 17, 18, 19, 21, 22, 25, 26, 27, 30, 31, 32, 35, 36, 39, 40] (g := True ∧ True ∧ True ∧ True ∧ True ∧ True ∧ True ∧ True ∧ (ax_w 20 ≠ 0) ∧ True ∧ True ∧ True ∧ True ∧ True ∧ True ∧ True ∧ True ∧ True ∧ True ∧ True) (z' := (43, [some (.inr (.inr (some 12)))], [.inl ((ax_u (ax_u I 12 4 (Int.tmod (ax_w (I 12 4 + 20 - 1)) (ax_w 20))) 12 3 ((ax_u I 12 4 (Int.tmod (ax_w (I 12 4 + 20 - 1)) (ax_w 20))) 12 3 - 1)) 12 4), .inr (.inr (some 15))], zc_S hf pf (ax_u (ax_u I 12 4 (Int.tmod (ax_w (I 12 4 + 20 - 1)) (ax_w 20))) 12 3 ((ax_u I 12 4 (Int.tmod (ax_w (I 12 4 + 20 - 1)) (ax_w 20))) 12 3 - 1)) J)) rfl ⟨trivial, trivial, trivial, trivial, trivial, trivial, trivial, trivial, by decide, trivial, trivial, trivial, trivial, trivial, trivial, trivial, trivial, trivial, trivial, trivial⟩ ?_
    rw [et]
    have e3 : (ax_u I 12 4 (n : Int)) 12 3 = u := by rw [zu_ne (by omega)]; exact h3
    rw [e3]
    have f4 : (ax_u (ax_u I 12 4 (n : Int)) 12 3 (u - 1)) 12 4 = (n : Int) := by rw [zu_ne (by omega), zu_eq]
    have f3 : (ax_u (ax_u I 12 4 (n : Int)) 12 3 (u - 1)) 12 3 = u - 1 := zu_eq
    have fo : ∀ i j, ¬ (i = 12 ∧ (j = 3 ∨ j = 4)) → (ax_u (ax_u I 12 4 (n : Int)) 12 3 (u - 1)) i j = I i j := fun i j q => by rw [zu_ne (by omega), zu_ne (by omega)]
    revert f4 f3 fo
    generalize ax_u (ax_u I 12 4 (n : Int)) 12 3 (u - 1) = I1
    intro f4 f3 fo
    refine zc_aal rfl hn20 (by rw [f4]; exact zb_w (by omega) (by omega)) ?_
    refine zb_go [45, 46, 49, 50] (g := True ∧ True ∧ True ∧ True ∧ True) (z' := (52, [some (.inr (.inr (some 12)))], [.inl 74, .inl 0, .inr (.inr (some 13)), .inl 0, .inr (.inr (some (16 + n)))], zc_S hf pf I1 J)) rfl ⟨trivial, trivial, trivial, trivial, trivial⟩ (zc_acp rfl rfl (by omega) (by decide) (L0 := 74) (L1 := 74) (zc_K16 n hn20) rfl rfl ⟨by decide, by decide, by decide, by decide, by decide⟩ ?_)
    have hr0 := hrow 0 (by omega)
    have ei : 16 + ((I 12 4 + 19 - ((0 : Nat) : Int)) % 20).toNat = 16 + n := by omega
    have co : ∀ i j, i ≠ 13 → (ax_cpy I1 (16 + n) (ax_w 0).toNat 13 (ax_w 0).toNat (ax_w 74).toNat) i j = I1 i j := fun i j q => by unfold ax_cpy; rw [if_neg (fun r => q r.1)]
    refine zb_ret [56] (g := True ∧ ((1 : Int) = 0 ∨ (1 : Int) = 1)) (v := some (.inl 1)) (s' := zc_S hf pf (ax_cpy I1 (16 + n) (ax_w 0).toNat 13 (ax_w 0).toNat (ax_w 74).toNat) J) rfl ⟨trivial, Or.inr rfl⟩ (zc_Qi.of (hP _ (by omega) (fun i j q1 q2 => ?_) hr0.1 (rowC_mv hr0.2 hr0.1.n (fun j hj => ?_)) ⟨?_, by omega, ?_, fun i hi => ?_⟩))
    · rw [co i j q1, fo i j q2]
    · rw [ei]
      show ax_cpy I1 (16 + n) 0 13 0 74 13 j = _
      unfold ax_cpy
      rw [if_pos (by omega), fo _ _ (by omega)]
      exact congrArg (I (16 + n)) (by omega)
    · rw [co 12 3 (by decide), f3]
    · rw [co 12 4 (by decide), f4]; omega
    · have hri := hrow (i + 1) (by omega)
      refine ⟨hri.1, rowC_mv hri.2 hri.1.n (fun j hj => ?_)⟩
      rw [co 12 4 (by decide), f4, co _ _ (by omega), fo _ _ (by omega)]
      have : 16 + (((n : Int) + 19 - (i : Int)) % 20).toNat = 16 + ((I 12 4 + 19 - ((i + 1 : Nat) : Int)) % 20).toNat := by omega
      rw [this]
theorem sc_refuse {c : Int} (hc : 0 ≤ c ∧ c < 6) (hP : P 0 (ax_u I 38 c.toNat (I 38 c.toNat + 1)) J) : zc_i (d + 1) 160 [.inr (.inr (some 0)), .inl c] hf pf I J P := by
  refine zc_ini (M := ax_m160) rfl (Nat.le_of_ble_eq_true rfl) (zk_Top_refuse_0 hf pf I J c ?_)
  rw [zb_w (x := c) (by omega) (by omega), show ax_w 0 = 0 from rfl, show ax_w 6 = 6 from rfl]
  exact ⟨fun q => by omega, fun _ => ⟨fun _ => ⟨by omega, by omega, zc_Qi.of hP⟩, fun q => by omega⟩⟩
theorem sc_isGlyph {g : Int} (hg : n32 g) (hP : P (if 0 ≤ g ∧ g < 32768 then 1 else 0) I J) : zc_i (d + 1) 162 [.inl g] hf pf I J P := by
  refine zc_ini (M := ax_m162) rfl (Nat.le_of_ble_eq_true rfl) (zk_Top_isGlyph_0 hf pf I J g ?_)
  rw [hg.w, show ax_w 0 = 0 from rfl, show ax_w 32767 = 32767 from rfl]
  refine ⟨fun c => zc_Qi.of ?_, fun c => ⟨fun c2 => zc_Qi.of ?_, fun c2 => zc_Qi.of ?_⟩⟩
  · rwa [if_neg (by omega)] at hP
  · rwa [if_neg (by omega)] at hP
  · rwa [if_pos (by omega)] at hP
theorem sc_isView {g : Int} (hg : n32 g) (hP : P (if 0 ≤ g ∧ g ≤ 3 then 1 else 0) I J) : zc_i (d + 1) 163 [.inl g] hf pf I J P := by
  refine zc_ini (M := ax_m163) rfl (Nat.le_of_ble_eq_true rfl) (zk_Top_isView_0 hf pf I J g ?_)
  rw [hg.w, show ax_w 0 = 0 from rfl, show ax_w 3 = 3 from rfl]
  refine ⟨fun c => zc_Qi.of ?_, fun c => ⟨fun c2 => zc_Qi.of ?_, fun c2 => zc_Qi.of ?_⟩⟩
  · rwa [if_neg (by omega)] at hP
  · rwa [if_neg (by omega)] at hP
  · rwa [if_pos (by omega)] at hP
theorem sc_holdsBoard (eh : hf = 0 ∨ hf = 1) (hB : cB D pg W hf I) {b : Int} (hb : n32 b) (hP : P (if 0 ≤ b ∧ b < D 6 0 0 then 1 else 0) I J) : zc_i (d + 1) 165 [.inr (.inr (some 0)), .inl b] hf pf I J P := by
  have h6 := hB.S.ok.a6 0 0
  refine zc_ini (M := ax_m165) rfl (Nat.le_of_ble_eq_true rfl) (zk_Top_holdsBoard_0 hf pf I J b eh ?_)
  rw [hb.w, hB.S.L.bn, zb_w (x := D 6 0 0) (by omega) (by omega), show ax_w 0 = 0 from rfl]
  refine ⟨fun c => zc_Qi.of ?_, fun c => ⟨fun c2 => zc_Qi.of ?_, fun c2 => zc_Qi.of ?_⟩⟩
  · rwa [if_neg (by omega)] at hP
  · rwa [if_pos (by omega)] at hP
  · rwa [if_neg (by omega)] at hP
theorem sc_placesOf (eh : hf = 0 ∨ hf = 1) (hB : cB D pg W hf I) {b : Int} (hb : 0 ≤ b ∧ b < D 6 0 0) (hP : P (D 4 (W 1 b 0) 0) I J) : zc_i (d + 3) 167 [.inr (.inr (some 0)), .inl b] hf pf I J P := by
  have h6 := hB.S.ok.a6 0 0
  exact zc_ini (M := ax_m167) rfl (Nat.le_of_ble_eq_true rfl) (zk_Top_placesOf_0 hf pf I J b eh (sc_wordOf hB.2.2 (by omega) (sc_sizeOf eh hB.S.ok hB.S.L (hB.W.w hb) (zc_Qi.of hP))))
theorem sc_holdsPlace (eh : hf = 0 ∨ hf = 1) (hB : cB D pg W hf I) {b k : Int} (hb : n32 b) (hk : n32 k) (hP : P (if (0 ≤ b ∧ b < D 6 0 0) ∧ (0 ≤ k ∧ k < D 4 (W 1 b 0) 0) then 1 else 0) I J) : zc_i (d + 4) 166 [.inr (.inr (some 0)), .inl b, .inl k] hf pf I J P := by
  have h4 := hB.S.ok.a4 (W 1 b 0) 0
  refine zc_ini (M := ax_m166) rfl (Nat.le_of_ble_eq_true rfl) (zk_Top_holdsPlace_0 hf pf I J b k (sc_holdsBoard eh hB hb (bc (fun q => ?_) (fun q => zc_Qi.of (by rwa [if_neg (fun r => q r.1)] at hP)))))
  rw [hk.w, show ax_w 0 = 0 from rfl]
  refine ⟨fun c => zc_Qi.of (by rwa [if_neg (by omega)] at hP), fun c => sc_placesOf eh hB q ?_⟩
  rw [zb_w (x := D 4 (W 1 b 0) 0) (by omega) (by omega)]
  refine ⟨fun c2 => zc_Qi.of ?_, fun c2 => zc_Qi.of ?_⟩
  · rwa [if_pos ⟨q, by omega⟩] at hP
  · rwa [if_neg (by omega)] at hP
theorem sc_yearsAhead (hB : cB D pg W hf I) (hP : P (if 999 - W 0 0 0 < 60 then 999 - W 0 0 0 else 60) I J) : zc_i (d + 2) 168 [.inr (.inr (some 0))] hf pf I J P := by
  have hy := hB.W.y
  exact zc_ini (M := ax_m168) rfl (Nat.le_of_ble_eq_true rfl) (zk_Top_yearsAhead_0 hf pf I J (sc_yearNow hB.y (sc_min ⟨by decide, by decide⟩ ⟨by omega, by omega⟩ (zc_Qi.of hP))))
/-! what is asked -/
theorem sc_letter (eh : hf = 0 ∨ hf = 1) (hS : cS D pg hf I) {h k c : Int} (hh : n32 h) (hk : n32 k) (hc : n32 c) (hP : P (an_letter D h k c) I J) : zc_i (d + 4) 132 [.inr (.inr (some 0)), .inl h, .inl k, .inl c] hf pf I J P := by
  unfold an_letter at hP
  refine zc_ini (M := ax_m132) rfl (Nat.le_of_ble_eq_true rfl) (zk_Top_letter_0 hf pf I J h k c eh (sc_holds eh hS.ok hS.L hh hk (bc (fun q => sc_glyphOf eh hS.ok hS.L q.1 q.2 ?_) (fun q => zc_Qi.of (by rwa [if_neg q] at hP)))))
  rw [if_pos q] at hP
  rw [hc.w]
  refine ⟨fun e => sc_nameOf eh hS.ok hS.L q.1 q.2 (zc_Qi.of ?_), fun e => ⟨fun e1 => zc_Qi.of ?_, fun e1 => ⟨fun e2 => sc_bitCount (hS.ok.a2 _ _) (zc_Qi.of ?_), fun e2 => zc_Qi.of ?_⟩⟩⟩
  · rwa [if_pos e] at hP
  · rwa [if_neg e, if_pos e1] at hP
  · rwa [if_neg e, if_neg e1, if_pos e2] at hP
  · rwa [if_neg e, if_neg e1, if_neg e2] at hP
theorem sc_word (eh : hf = 0 ∨ hf = 1) (hS : cS D pg hf I) {w k : Int} (hw : n32 w) (hk : n32 k) (hP : P (an_word D w k) I J) : zc_i (d + 3) 133 [.inr (.inr (some 0)), .inl w, .inl k] hf pf I J P := by
  unfold an_word at hP
  refine zc_ini (M := ax_m133) rfl (Nat.le_of_ble_eq_true rfl) (zk_Top_word_0 hf pf I J w k eh (sc_holdsWord eh hS.ok hS.L hw (bc (fun q => ?_) (fun q => zc_Qi.of (by rwa [if_neg q] at hP)))))
  rw [if_pos q] at hP
  rw [hk.w, show ax_w 0 = 0 from rfl, show ax_w 6 = 6 from rfl]
  refine ⟨fun c => zc_Qi.of ?_, fun c => ⟨fun c2 => sc_letterAt eh hS.ok hS.L q (by omega) (zc_Qi.of ?_), fun c2 => zc_Qi.of ?_⟩⟩
  · rwa [if_neg (by omega)] at hP
  · rwa [if_pos (by omega)] at hP
  · rwa [if_neg (by omega)] at hP
theorem sc_board (eh : hf = 0 ∨ hf = 1) (hB : cB D pg W hf I) {b c : Int} (hb : n32 b) (hc : n32 c) (hP : P (an_board D W b c) I J) : zc_i (d + 4) 134 [.inr (.inr (some 0)), .inl b, .inl c] hf pf I J P := by
  have h6 := hB.S.ok.a6 0 0
  unfold an_board at hP
  refine zc_ini (M := ax_m134) rfl (Nat.le_of_ble_eq_true rfl) (zk_Top_board_0 hf pf I J b c (sc_holdsBoard eh hB hb (bc (fun q => ?_) (fun q => zc_Qi.of (by rwa [if_neg q] at hP)))))
  rw [if_pos q] at hP
  rw [hc.w]
  refine ⟨fun e => sc_wordOf hB.2.2 (by omega) (zc_Qi.of ?_), fun e => ⟨fun e1 => sc_handOf hB.2.2 (by omega) (zc_Qi.of ?_), fun e1 => ⟨fun e2 => sc_placesOf eh hB q (zc_Qi.of ?_), fun e2 => zc_Qi.of ?_⟩⟩⟩
  · rwa [if_pos e] at hP
  · rwa [if_neg e, if_pos e1] at hP
  · rwa [if_neg e, if_neg e1, if_pos e2] at hP
  · rwa [if_neg e, if_neg e1, if_neg e2] at hP
theorem sc_glyph (eh : hf = 0 ∨ hf = 1) (hB : cB D pg W hf I) {b k : Int} (hb : n32 b) (hk : n32 k) (hP : P (an_glyph D W b k) I J) : zc_i (d + 5) 135 [.inr (.inr (some 0)), .inl b, .inl k] hf pf I J P := by
  have h6 := hB.S.ok.a6 0 0
  have h4 := hB.S.ok.a4 (W 1 b 0) 0
  unfold an_glyph at hP
  exact zc_ini (M := ax_m135) rfl (Nat.le_of_ble_eq_true rfl) (zk_Top_glyph_0 hf pf I J b k (sc_holdsPlace eh hB hb hk (bc (fun q => sc_glyphAt hB.2.2 (by omega) (by omega) (zc_Qi.of (by rwa [if_pos q] at hP))) (fun q => zc_Qi.of (by rwa [if_neg q] at hP)))))
theorem sc_kept (hB : cB D pg W hf I) {k c : Int} (hk : n32 k) (hc : n32 c) (hP : P (an_kept W k c) I J) : zc_i (d + 2) 136 [.inr (.inr (some 0)), .inl k, .inl c] hf pf I J P := zc_ini (M := ax_m136) rfl (Nat.le_of_ble_eq_true rfl) (zk_Top_kept_0 hf pf I J k c (sc_keptPart hB.W hB.2.2 hk hc (zc_Qi.of hP)))
theorem sc_seen {g how : Int} (hg : n32 g) (hh : n32 how) (hP : P (an_seen g how) I J) : zc_i (d + 2) 137 [.inr (.inr (some 0)), .inl g, .inl how] hf pf I J P := by
  unfold an_seen at hP
  refine zc_ini (M := ax_m137) rfl (Nat.le_of_ble_eq_true rfl) (zk_Top_seen_0 hf pf I J g how (sc_isGlyph hg (bc (fun q => sc_isView hh (bc (fun q2 => sc_turned q hh (zc_Qi.of (by rwa [if_pos q, if_pos q2] at hP))) (fun q2 => zc_Qi.of (by rwa [if_pos q, if_neg q2] at hP)))) (fun q => zc_Qi.of (by rwa [if_neg q] at hP)))))
theorem sc_doubt (eh : hf = 0 ∨ hf = 1) (hS : cS D pg hf I) {h k g : Int} (hh : n32 h) (hk : n32 k) (hg : n32 g) (hP : ∀ I', cE hf I I' → P (an_doubt D pg h k g) I' J) : zc_l (d + 5) 138 [.inr (.inr (some 0)), .inl h, .inl k, .inl g] hf pf I J P := by
  unfold an_doubt at hP
  have hP0 := hP I (cE.refl hf I)
  refine zc_inl (M := ax_m138) rfl (Nat.le_of_ble_eq_true rfl) (zk_Top_doubt_0 hf pf I J h k g eh (sc_holds eh hS.ok hS.L hh hk (bc (fun q => sc_isGlyph hg (bc (fun q2 => sc_doubtOf eh hS q.1 q.2 q2 (fun I' hE => ?_)) (fun q2 => zc_Ql.of (by rwa [if_pos q, if_neg q2] at hP0)))) (fun q => zc_Ql.of (by rwa [if_neg q] at hP0)))))
  have hd := pf_doubt_in hS.ok h k g
  rw [zb_w (x := pf_doubt D pg h k g) (by omega) (by omega)]
  rw [if_pos q, if_pos q2] at hP
  exact zc_Ql.of (hP I' hE)
theorem sc_reads (eh : hf = 0 ∨ hf = 1) (hS : cS D pg hf I) {h g how : Int} (hh : n32 h) (hg : n32 g) (hw : n32 how) (hP : ∀ I', cE hf I I' → P (an_reads D pg h g how) I' J) : zc_i (d + 6) 139 [.inr (.inr (some 0)), .inl h, .inl g, .inl how] hf pf I J P := by
  unfold an_reads at hP
  have hP0 := hP I (cE.refl hf I)
  refine zc_ini (M := ax_m139) rfl (Nat.le_of_ble_eq_true rfl) (zk_Top_reads_0 hf pf I J h g how eh (sc_isHand hh (bc (fun q => sc_isGlyph hg (bc (fun q2 => sc_isView hw (bc (fun q3 => sc_turned q2 hw (sc_readingOf eh hS (by omega) (pf_seen_15 _ _) (fun I' hE => zc_Qi.of ?_))) (fun q3 => zc_Qi.of (by rwa [if_pos q, if_pos q2, if_neg q3] at hP0)))) (fun q2 => zc_Qi.of (by rwa [if_pos q, if_neg q2] at hP0)))) (fun q => zc_Qi.of (by rwa [if_neg q] at hP0)))))
  rw [if_pos q, if_pos q2, if_pos q3] at hP
  exact hP I' hE
theorem sc_becomes (eh : hf = 0 ∨ hf = 1) (hB : cB D pg W hf I) {w h how : Int} (hw : n32 w) (hh : n32 h) (hn : n32 how) (hP : ∀ I', cU hf I I' → cB D pg W hf I' → P (an_becomes D pg w h how) I' J) : zc_i (d + 7) 141 [.inr (.inr (some 0)), .inl w, .inl h, .inl how] hf pf I J P := by
  unfold an_becomes at hP
  have hP0 := hP I (cE.refl hf I).U hB
  refine zc_ini (M := ax_m141) rfl (Nat.le_of_ble_eq_true rfl) (zk_Top_becomes_0 hf pf I J w h how eh (sc_holdsWord eh hB.S.ok hB.S.L hw (bc (fun q => sc_isHand hh (bc (fun q2 => sc_isView hn (bc (fun q3 => sc_canPaint eh hB.S.ok hB.S.L q (by omega) (b01 (pf_can01 D w h _ _) (fun e => ?_) (fun e => zc_Qi.of ?_))) (fun q3 => zc_Qi.of (by rwa [if_pos q, if_pos q2, if_neg q3] at hP0)))) (fun q2 => zc_Qi.of (by rwa [if_pos q, if_neg q2] at hP0)))) (fun q => zc_Qi.of (by rwa [if_neg q] at hP0)))))
  · have e' : pf_canPaint D w h = 1 := e
    rw [if_pos q, if_pos q2, if_pos q3, if_pos e'] at hP
    exact sc_wordSeen eh hB.S q (by omega) hn (fun I' hU => zc_Qi.of (hP I' hU (hU.B eh hB)))
  · have e' : pf_canPaint D w h = 0 := e
    rwa [if_pos q, if_pos q2, if_pos q3, if_neg (by omega)] at hP0
theorem sc_mend (eh : hf = 0 ∨ hf = 1) (hB : cB D pg W hf I) {b p k : Int} (hb : n32 b) (hp : n32 p) (hk : n32 k) (hP : ∀ I', cE hf I I' → P (an_mend D pg W b p k) I' J) : zc_i (d + 7) 148 [.inr (.inr (some 0)), .inl b, .inl p, .inl k] hf pf I J P := by
  have h6 := hB.S.ok.a6 0 0
  have h4 := hB.S.ok.a4 (W 1 b 0) 0
  unfold an_mend at hP
  have hP0 := hP I (cE.refl hf I)
  refine zc_ini (M := ax_m148) rfl (Nat.le_of_ble_eq_true rfl) (zk_Top_mend_0 hf pf I J b p k eh (sc_holdsPlace eh hB hb hp (bc (fun q => ?_) (fun q => zc_Qi.of (by rwa [if_neg q] at hP0)))))
  rw [if_pos q] at hP hP0
  have hh := hB.W.h q.1
  refine sc_handOf hB.2.2 (by omega) (sc_holds eh hB.S.ok hB.S.L (lt32 (by omega)) hk (bc (fun q2 => ?_) (fun q2 => zc_Qi.of (by rwa [if_neg q2] at hP0))))
  rw [if_pos q2] at hP
  exact sc_handOf hB.2.2 (by omega) (sc_glyphAt hB.2.2 (by omega) (by omega) (sc_strokesToMend eh hB.S hh q2.2 (hB.W.g b p) (fun I' hE => zc_Qi.of (hP I' hE))))
theorem sc_mayHave_39 (eh : hf = 0 ∨ hf = 1) (hB : cB D pg W hf I) {b w : Int} (hb : 0 ≤ b ∧ b < D 6 0 0) (hw : 0 ≤ w ∧ w < D 3 0 0) (he4 : D 4 w 0 = D 4 (W 1 b 0) 0) {Q : Option ax_v → ax_S → Prop} : ∀ (n : Nat) (k : Int), 0 ≤ k → k + n = D 4 w 0 → Q (some (.inl (pf_hb D W b w n k))) (zc_S hf pf I J) → zb_W (d + 4) ax_m170 (39, [some (.inr (.inr (some 0))), some (.inl b), some (.inl w), some (.inl k), none], [], zc_S hf pf I J) Q := by
  have h6 := hB.S.ok.a6 0 0
  have h4 := hB.S.ok.a4 w 0
  intro n
  induction n with
  | zero =>
    intro k h0 he hQ
    refine zk_Top_mayHaveBeen_39 hf pf I J b w k eh (sc_placesOf eh hB hb ?_)
    rw [zb_w (x := k) (by omega) (by omega), zb_w (x := D 4 (W 1 b 0) 0) (by omega) (by omega)]
    exact ⟨fun c => by omega, fun _ => hQ⟩
  | succ n ih =>
    intro k h0 he hQ
    have hg := g15_andn (hB.W.g b k) (pf_pg_15 hB.S.ok w (W 2 b 0) k).g31
    unfold pf_hb at hQ
    refine zk_Top_mayHaveBeen_39 hf pf I J b w k eh (sc_placesOf eh hB hb ?_)
    rw [zb_w (x := k) (by omega) (by omega), zb_w (x := D 4 (W 1 b 0) 0) (by omega) (by omega)]
    refine ⟨fun _ => sc_handOf hB.2.2 (by omega) (sc_paintedGlyph eh hB.S.ok hB.S.L hw (hB.W.h hb) (by omega) (sc_glyphAt hB.2.2 (by omega) (by omega) ?_)), fun c => by omega⟩
    rw [hg.w, show ax_w 0 = 0 from rfl]
    refine ⟨fun e => ?_, fun e => ?_⟩
    · rw [if_pos e] at hQ; exact ih (k + 1) (by omega) (by omega) hQ
    · rw [if_neg e] at hQ; exact hQ
theorem sc_mayHaveBeen (eh : hf = 0 ∨ hf = 1) (hB : cB D pg W hf I) {b w : Int} (hb : 0 ≤ b ∧ b < D 6 0 0) (hw : 0 ≤ w ∧ w < D 3 0 0) (hP : P (pf_chb D W b w) I J) : zc_i (d + 5) 170 [.inr (.inr (some 0)), .inl b, .inl w] hf pf I J P := by
  have h6 := hB.S.ok.a6 0 0
  have h4 := hB.S.ok.a4 w 0
  have h4' := hB.S.ok.a4 (W 1 b 0) 0
  unfold pf_chb at hP
  refine zc_ini (M := ax_m170) rfl (Nat.le_of_ble_eq_true rfl) (zk_Top_mayHaveBeen_0 hf pf I J b w eh (sc_sizeOf eh hB.S.ok hB.S.L hw (sc_placesOf eh hB hb ?_)))
  rw [zb_w (x := D 4 w 0) (by omega) (by omega), zb_w (x := D 4 (W 1 b 0) 0) (by omega) (by omega)]
  refine ⟨fun e => sc_handOf hB.2.2 (by omega) (sc_canPaint eh hB.S.ok hB.S.L hw (hB.W.h hb) (b01 (pf_can01 D w _ _ _) (fun e2 => ?_) (fun e2 => zc_Qi.of ?_))), fun e => zc_Qi.of ?_⟩
  · have e2' : pf_canPaint D w (W 2 b 0) = 1 := e2
    rw [if_pos ⟨e, e2'⟩] at hP
    exact sc_mayHave_39 eh hB hb hw e (D 4 w 0).toNat 0 (by decide) (by omega) (zc_Qi.of hP)
  · have e2' : pf_canPaint D w (W 2 b 0) = 0 := e2
    rwa [if_neg (by omega)] at hP
  · rwa [if_neg (fun q => e q.1)] at hP
theorem sc_been_14 (eh : hf = 0 ∨ hf = 1) (hB : cB D pg W hf I) {b : Int} (hb : 0 ≤ b ∧ b < D 6 0 0) {Q : Option ax_v → ax_S → Prop} : ∀ (n : Nat) (w s : Int), 0 ≤ w → w + n = D 3 0 0 → Q (some (.inl (pf_bn D W b n w s))) (zc_S hf pf I J) → zb_W (d + 5) ax_m146 (14, [some (.inr (.inr (some 0))), some (.inl b), some (.inl s), some (.inl w)], [], zc_S hf pf I J) Q := by
  have h3 := hB.S.ok.a3 0 0
  intro n
  induction n with
  | zero =>
    intro w s h0 he hQ
    refine zk_Top_been_14 hf pf I J b s w eh ?_
    rw [hB.S.L.wn, zb_w (x := w) (by omega) (by omega), zb_w (x := D 3 0 0) (by omega) (by omega)]
    exact ⟨fun c => by omega, fun _ => hQ⟩
  | succ n ih =>
    intro w s h0 he hQ
    unfold pf_bn at hQ
    refine zk_Top_been_14 hf pf I J b s w eh ?_
    rw [hB.S.L.wn, zb_w (x := w) (by omega) (by omega), zb_w (x := D 3 0 0) (by omega) (by omega)]
    refine ⟨fun _ => sc_mayHaveBeen eh hB hb (by omega) (b01 (pf_chb01 D W b w) (fun e => ?_) (fun e => ?_)), fun c => by omega⟩
    · rw [if_pos e] at hQ; exact zk_Top_been_40 hf pf I J b _ w (ih (w + 1) _ (by omega) (by omega) hQ)
    · rw [if_neg (by omega)] at hQ; exact zk_Top_been_40 hf pf I J b _ w (ih (w + 1) _ (by omega) (by omega) hQ)
theorem sc_been (eh : hf = 0 ∨ hf = 1) (hB : cB D pg W hf I) {b : Int} (hb : n32 b) (hP : P (an_been D W b) I J) : zc_i (d + 6) 146 [.inr (.inr (some 0)), .inl b] hf pf I J P := by
  have h3 := hB.S.ok.a3 0 0
  unfold an_been at hP
  refine zc_ini (M := ax_m146) rfl (Nat.le_of_ble_eq_true rfl) (zk_Top_been_0 hf pf I J b (sc_holdsBoard eh hB hb (bc (fun q => ?_) (fun q => zc_Qi.of (by rwa [if_neg q] at hP)))))
  rw [if_pos q] at hP
  exact sc_been_14 eh hB q (D 3 0 0).toNat 0 0 (by decide) (by omega) (zc_Qi.of hP)
theorem sc_has (eh : hf = 0 ∨ hf = 1) (hB : cB D pg W hf I) {c u : Int} (hc : n32 c) (hu : I 12 3 = u) (hP : P (an_has D W u c) I J) : zc_i (d + 6) 131 [.inr (.inr (some 0)), .inl c] hf pf I J P := by
  unfold an_has at hP
  refine zc_ini (M := ax_m131) rfl (Nat.le_of_ble_eq_true rfl) (zk_Top_has_0 hf pf I J c eh ?_)
  rw [hc.w, hB.S.L.wn, hB.S.L.bn]
  refine ⟨fun e => sc_count eh hB.S.L ⟨by decide, by decide⟩ (zc_Qi.of ?_), fun e => ⟨fun e1 => sc_count eh hB.S.L ⟨by decide, by decide⟩ (zc_Qi.of ?_), fun e1 => ⟨fun e2 => zc_Qi.of ?_, fun e2 => ⟨fun e3 => zc_Qi.of ?_, fun e3 => ⟨fun e4 => sc_yearNow hB.y (zc_Qi.of ?_), fun e4 => ⟨fun e5 => sc_strokesInAll hB.S.ok hB.W hB.2.2 (zc_Qi.of ?_), fun e5 => ⟨fun e6 => sc_keptCount hB.2.2.2.2.2.1 (zc_Qi.of ?_), fun e6 => ⟨fun e7 => ?_, fun e7 => zc_Qi.of ?_⟩⟩⟩⟩⟩⟩⟩⟩
  · rwa [if_pos e] at hP
  · rwa [if_neg e, if_pos e1] at hP
  · rwa [if_neg e, if_neg e1, if_pos e2] at hP
  · rwa [if_neg e, if_neg e1, if_neg e2, if_pos e3] at hP
  · rwa [if_neg e, if_neg e1, if_neg e2, if_neg e3, if_pos e4] at hP
  · rwa [if_neg e, if_neg e1, if_neg e2, if_neg e3, if_neg e4, if_pos e5] at hP
  · rwa [if_neg e, if_neg e1, if_neg e2, if_neg e3, if_neg e4, if_neg e5, if_pos e6] at hP
  · refine zc_ini (M := ax_m120) rfl (Nat.le_of_ble_eq_true rfl) (zk_Wall_actsToUndo_0 hf pf I J ?_)
    rw [hu]
    rw [if_neg e, if_neg e1, if_neg e2, if_neg e3, if_neg e4, if_neg e5, if_neg e6, if_pos e7] at hP
    exact zc_Qi.of (zc_Qi.of hP)
  · rwa [if_neg e, if_neg e1, if_neg e2, if_neg e3, if_neg e4, if_neg e5, if_neg e6, if_neg e7] at hP
end ZC7
