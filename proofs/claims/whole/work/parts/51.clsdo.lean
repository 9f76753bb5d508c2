/-! THE CLASS: acts, the tape -/
section ZC9
variable {d hf pf : Nat} {I J : zF} {D : zD} {pg : zG} {W : zD} {T : Nat → Int} {n : Int} {P : Int → zF → zF → Prop} {P0 : zF → zF → Prop}
/-- nothing has changed but the wall's rows, the refusals aside, and what a reckoning writes -/
def cA (hs : Nat) (I I' : zF) : Prop := ∀ i j, ¬ (12 ≤ i ∧ i ≤ 35) → i ≠ 44 + 29 * hs → i ≠ 47 + 29 * hs → i ≠ 60 + 29 * hs → i ≠ 61 + 29 * hs → I' i j = I i j
theorem cA.trans {hs : Nat} {I I' I2 : zF} (h : cA hs I I') (h2 : cA hs I' I2) : cA hs I I2 := fun i j a b c e f => (h2 i j a b c e f).trans (h i j a b c e f)
theorem cN.A {hs : Nat} {I I' : zF} (h : cN hs I I') : cA hs I I' := fun i j a b c e f => h i j (by omega) b c e f
theorem cA.S {D : zD} {pg : zG} {hs : Nat} {I I' : zF} (h : cA hs I I') (hS : cS D pg hs I) : cS D pg hs I' := cS_cong hS (fun i j q => by unfold cLk at q; exact h i j (by omega) (by omega) (by omega) (by omega) (by omega)) (h _ _ (by omega) (by omega) (by omega) (by omega) (by omega)) (fun j => h _ _ (by omega) (by omega) (by omega) (by omega) (by omega)) (h _ _ (by omega) (by omega) (by omega) (by omega) (by omega)) (fun j => h _ _ (by omega) (by omega) (by omega) (by omega) (by omega))
theorem uC_cong {D : zD} {U : Nat → zD} {u : Int} {I I' : zF} (h : uC D U u I) (h3 : I' 12 3 = I 12 3) (h4 : I' 12 4 = I 12 4) (hr : ∀ i j, 16 ≤ i → i ≤ 35 → I' i j = I i j) : uC D U u I' := by
  obtain ⟨a, b, c, e⟩ := h
  refine ⟨by rw [h3]; exact a, b, by rw [h4]; exact c, fun i hi => ⟨(e i hi).1, ?_⟩⟩
  have : I' (16 + ((I' 12 4 + 19 - (i : Int)) % 20).toNat) = I (16 + ((I 12 4 + 19 - (i : Int)) % 20).toNat) := by
    rw [h4]
    exact funext (fun j => hr _ j (by omega) (by omega))
  rw [this]
  exact (e i hi).2
theorem cN.uC {D : zD} {U : Nat → zD} {u : Int} {hs : Nat} {I I' : zF} (h : cN hs I I') (hU : uC D U u I) : uC D U u I' := uC_cong hU (h 12 3 (by omega) (by omega) (by omega) (by omega) (by omega)) (h 12 4 (by omega) (by omega) (by omega) (by omega) (by omega)) (fun i j _ _ => h i j (by omega) (by omega) (by omega) (by omega) (by omega))
theorem sc_canPass (hB : cB D pg W hf I) {m : Int} (hm : n32 m) (hP : P (if (1 ≤ m ∧ m ≤ 100) ∧ W 0 0 0 + m ≤ 999 then 1 else 0) I J) : zc_i (d + 2) 172 [.inr (.inr (some 0)), .inl m] hf pf I J P := by
  have hy := hB.W.y
  refine zc_ini (M := ax_m172) rfl (Nat.le_of_ble_eq_true rfl) (zk_Top_canPass_0 hf pf I J m ?_)
  rw [hm.w, show ax_w 1 = 1 from rfl, show ax_w 100 = 100 from rfl]
  refine ⟨fun c => zc_Qi.of (by rwa [if_neg (by omega)] at hP), fun c => ⟨fun c2 => zc_Qi.of (by rwa [if_neg (by omega)] at hP), fun c2 => sc_yearNow hB.y ?_⟩⟩
  rw [zb_w (x := W 0 0 0 + m) (by omega) (by omega), show ax_w 999 = 999 from rfl]
  refine ⟨fun c3 => zc_Qi.of (by rwa [if_neg (by omega)] at hP), fun c3 => zc_Qi.of (by rwa [if_pos (by omega)] at hP)⟩
theorem sc_years_27 {U : Nat → zD} {u m : Int} (eh : hf = 0 ∨ hf = 1) (hm : 0 ≤ m ∧ m ≤ 100) {Q : Option ax_v → ax_S → Prop} : ∀ (k : Nat) (i l : Int) (W : zD) (I : zF), cB D pg W hf I → uC D U u I → W 0 0 0 + k ≤ 999 → 0 ≤ i → i + k = m → (∀ I', cA hf I I' → cB D pg (pf_yearsN D pg k W) hf I' → uC D U u I' → Q (some (.inl (pf_yl D pg k W l))) (zc_S hf pf I' J)) → zb_W (d + 7) ax_m149 (27, [some (.inr (.inr (some 0))), some (.inl m), some (.inl l), some (.inl i)], [], zc_S hf pf I J) Q := by
  intro k
  induction k with
  | zero =>
    intro i l W I hB hU hy h0 he hQ
    refine zk_Top_years_27 hf pf I J m l i ?_
    rw [zb_w (x := i) (by omega) (by omega), zb_w (x := m) (by omega) (by omega)]
    exact ⟨fun c => by omega, fun _ => hQ I (fun _ _ _ _ _ _ _ => rfl) hB hU⟩
  | succ k ih =>
    intro i l W I hB hU hy h0 he hQ
    refine zk_Top_years_27 hf pf I J m l i ?_
    rw [zb_w (x := i) (by omega) (by omega), zb_w (x := m) (by omega) (by omega)]
    refine ⟨fun _ => sc_beginYear hB.W hB.2.2 (fun I1 hF1 hr1 => ?_), fun c => by omega⟩
    have hS1 : cS D pg hf I1 := cA.S (fun i j a _ _ _ _ => hF1 i j (by omega)) hB.S
    have hB1 : cB D pg W hf I1 := ⟨hS1, hB.W, by rw [show I1 13 = I 13 from funext (fun j => hF1 13 j (by decide))]; exact hB.2.2⟩
    have hU1 : uC D U u I1 := uC_cong hU (hF1 12 3 (by decide)) (hF1 12 4 (by decide)) (fun i j _ _ => hF1 i j (by omega))
    refine sc_endYear (W0 := W) eh hB1 hB.W hr1 (fun _ => rfl) (by omega) (fun I2 hF2 hB2 => ?_)
    refine ih (i + 1) _ _ I2 hB2 (hF2.uC hU1) (by rw [pf_year_y]; omega) (by omega) (by omega) (fun I' a b c => ?_)
    have := hQ I' (cA.trans (cA.trans (fun i j q _ _ _ _ => hF1 i j (by omega)) hF2.A) a) b c
    unfold pf_yl at this
    rw [pf_lostB_l] at this
    exact this
theorem sc_years {U : Nat → zD} {u : Int} (eh : hf = 0 ∨ hf = 1) (hB : cB D pg W hf I) (hU : uC D U u I) {m : Int} (hm : n32 m) (hP0 : ¬ ((1 ≤ m ∧ m ≤ 100) ∧ W 0 0 0 + m ≤ 999) → P (-1) (ax_u I 38 3 (I 38 3 + 1)) J) (hP : (1 ≤ m ∧ m ≤ 100) ∧ W 0 0 0 + m ≤ 999 → ∀ I', cA hf I I' → cB D pg (pf_yearsN D pg m.toNat W) hf I' → uC D (consU W U) (if u < 20 then u + 1 else u) I' → P (pf_yl D pg m.toNat W 0) I' J) : zc_i (d + 8) 149 [.inr (.inr (some 0)), .inl m] hf pf I J P := by
  refine zc_ini (M := ax_m149) rfl (Nat.le_of_ble_eq_true rfl) (zk_Top_years_0 hf pf I J m (sc_canPass hB hm (bc (fun q => sc_remember hU hB.W hB.2.2 (fun I1 hF1 hU1 => ?_)) (fun q => sc_refuse ⟨by decide, by decide⟩ (zc_Qi.of (hP0 q))))))
  have hA : cA hf I I1 := fun i j a _ _ _ _ => hF1 i j (by omega) (by omega)
  have hB1 : cB D pg W hf I1 := ⟨hA.S hB.S, hB.W, by rw [show I1 13 = I 13 from funext (fun j => hF1 13 j (by omega) (by omega))]; exact hB.2.2⟩
  exact sc_years_27 eh (by omega) m.toNat 0 0 W I1 hB1 hU1 (by omega) (by decide) (by omega) (fun I' a b c => zc_Qi.of (hP q I' (hA.trans a) b c))
theorem sc_draw {s m : Int} (hJ : J 0 9 = s) (hs : s31 s) (hm : 0 < m ∧ m ≤ 1000) (hP : P (pf_next s / 64 % m) I (ax_u J 0 9 (pf_next s))) : zc_i (d + 1) 174 [.inr (.inr (some 0)), .inl m] hf pf I J P := by
  have h1 := hs.1
  have h2 := hs.2
  have hn := pf_next_in s
  have n1 := hn.1
  have n2 := hn.2
  have e1 : ax_land (1103515245 * s + 12345) 2147483647 = pf_next s := land31 (by omega) (by omega)
  have e2 : Int.tdiv (pf_next s) 64 = pf_next s / 64 := Int.tdiv_eq_ediv_of_nonneg n1
  have e3 : Int.tmod (pf_next s / 64) m = pf_next s / 64 % m := Int.tmod_eq_emod_of_nonneg (by omega)
  refine zc_ini (M := ax_m174) rfl (Nat.le_of_ble_eq_true rfl) (zk_Top_draw_0 hf pf I J m ?_)
  rw [hJ, e1, zu_eq, n64.w (x := pf_next s) ⟨by omega, by omega⟩, n64.w (x := 64) ⟨by decide, by decide⟩, e2, zb_w (x := m) (by omega) (by omega), n64.w (x := m) ⟨by omega, by omega⟩, n64.w (x := pf_next s / 64) ⟨by omega, by omega⟩, e3]
  exact ⟨fun c => absurd (show m < 1 from c) (by omega), fun _ => ⟨by omega, zc_Qi.of hP⟩⟩
theorem wu_self {W : zD} {i : Nat} {a b : Int} : wu W i a b (W i a b) = W := by
  funext x y z
  by_cases e : x = i ∧ y = a ∧ z = b
  · obtain ⟨rfl, rfl, rfl⟩ := e
    rw [wu_eq]
  · rw [wu_ne e]
theorem sc_hailLoss {s : Int} (eh : hf = 0 ∨ hf = 1) (hB : cB D pg W hf I) (hJ : J 0 9 = s) (hs : s31 s) (hP : ∀ I' J', (∀ i j, i ≠ 13 → I' i j = I i j) → J' 0 9 = pf_cS D s → cB D pg (pf_cW D W s) hf I' → P (pf_cl D W s) I' J') : zc_i (d + 5) 173 [.inr (.inr (some 0))] hf pf I J P := by
  have h6 := hB.S.ok.a6 0 0
  have h8 := hB.S.ok.a8 2 0
  have hd : 0 ≤ pf_next s / 64 % 100 ∧ pf_next s / 64 % 100 < 100 := by omega
  have h14 : I (39 + 29 * hf) 14 = D 8 2 0 := hB.S.L.rl.2.2
  have h11 : I (39 + 29 * hf) 11 = D 6 0 0 := hB.S.L.bn
  refine zc_ini (M := ax_m173) rfl (Nat.le_of_ble_eq_true rfl) (zk_Top_hailLoss_0 hf pf I J eh (sc_draw hJ hs ⟨by decide, by decide⟩ ?_))
  rw [h14, h11, zb_w (x := pf_next s / 64 % 100) (by omega) (by omega), zb_w (x := D 8 2 0) (by omega) (by omega), zb_w (x := D 6 0 0) (by omega) (by omega), show ax_w 0 = 0 from rfl]
  have no : ¬ (pf_next s / 64 % 100 < D 8 2 0 ∧ 0 < D 6 0 0) → zc_Qi hf pf P (some (.inl 0)) (zc_S hf pf I (ax_u J 0 9 (pf_next s))) := by
    intro q
    unfold pf_cS pf_cW pf_cl at hP
    rw [if_neg q, if_neg q, if_neg q] at hP
    exact zc_Qi.of (hP I _ (fun _ _ _ => rfl) zu_eq hB)
  refine ⟨fun c1 => ⟨fun c2 => no (by omega), fun c2 => ?_⟩, fun c1 => no (by omega)⟩
  have q : pf_next s / 64 % 100 < D 8 2 0 ∧ 0 < D 6 0 0 := by omega
  unfold pf_cS pf_cW pf_cl at hP
  rw [if_pos q, if_pos q, if_pos q] at hP
  have hb := pf_hb1_in hB.S.ok q.2 (pf_next s)
  have hk := pf_hk_in hB.S.ok hB.W q.2 (pf_next s)
  have h4 := hB.S.ok.a4 (W 1 (pf_hb1 D (pf_next s)) 0) 0
  have hi := pf_hi_in (pf_next s)
  refine sc_draw (m := D 6 0 0) zu_eq (pf_next_in _) (by omega) (sc_placesOf eh hB hb (sc_draw (m := D 4 (W 1 (pf_hb1 D (pf_next s)) 0) 0) zu_eq (pf_next_in _) (by omega) (sc_draw zu_eq (pf_next_in _) ⟨by decide, by decide⟩ (sc_glyphAt hB.2.2 (b := pf_hb1 D (pf_next s)) (k := pf_hk D W (pf_next s)) (by omega) (by omega) ?_))))
  have eb : pf_next (pf_next s) / 64 % D 6 0 0 = pf_hb1 D (pf_next s) := rfl
  have ek : pf_next (pf_next (pf_next s)) / 64 % D 4 (W 1 (pf_hb1 D (pf_next s)) 0) 0 = pf_hk D W (pf_next s) := rfl
  have ei : pf_next (pf_next (pf_next (pf_next s))) / 64 % 15 = pf_hi (pf_next s) := rfl
  rw [eb, ek, ei]
  have hg := hB.W.g (pf_hb1 D (pf_next s)) (pf_hk D W (pf_next s))
  have hbt := bit01' (W 3 (pf_hb1 D (pf_next s)) (pf_hk D W (pf_next s))) (pf_hi (pf_next s))
  have hgb := gb_bit hg.g31 (i := pf_hi (pf_next s)) (by omega)
  unfold pf_hW pf_hl at hP
  rw [zb_w (x := ax_and (ax_shr (W 3 (pf_hb1 D (pf_next s)) (pf_hk D W (pf_next s))) (pf_hi (pf_next s))) 1) (by omega) (by omega)]
  refine ⟨fun e => zc_Qi.of ?_, fun e => sc_setGlyph (by omega) (by omega) (zc_Qi.of ?_)⟩
  · have hf0 : gb (W 3 (pf_hb1 D (pf_next s)) (pf_hk D W (pf_next s))) (pf_hi (pf_next s)) = false := by
      cases hq : gb (W 3 (pf_hb1 D (pf_next s)) (pf_hk D W (pf_next s))) (pf_hi (pf_next s))
      · rfl
      · rw [hq, if_pos rfl] at hgb; omega
    rw [bit_off0 hg hi hf0, wu_self, e] at hP
    exact hP I _ (fun _ _ _ => rfl) zu_eq hB
  · have hf1 : gb (W 3 (pf_hb1 D (pf_next s)) (pf_hk D W (pf_next s))) (pf_hi (pf_next s)) = true := by
      cases hq : gb (W 3 (pf_hb1 D (pf_next s)) (pf_hk D W (pf_next s))) (pf_hi (pf_next s))
      · rw [hq, if_neg (by decide)] at hgb; omega
      · rfl
    rw [bit_off hg hi hf1, show ax_and (ax_shr (W 3 (pf_hb1 D (pf_next s)) (pf_hk D W (pf_next s))) (pf_hi (pf_next s))) 1 = 1 by omega] at hP
    refine hP _ _ (fun i j q => zu_ne (by omega)) zu_eq ⟨?_, wOk_wu3 hB.W hb (g15_xor hg (g15_shl hi)), ?_⟩
    · exact cA.S (fun i j a _ _ _ _ => zu_ne (by omega)) hB.S
    · rw [zu_row]
      exact rowC_set3 hB.2.2 hB.W.n (by omega) (by omega)
theorem sc_chance_27 {U : Nat → zD} {u m : Int} (eh : hf = 0 ∨ hf = 1) (hm : 0 ≤ m ∧ m ≤ 100) {Q : Option ax_v → ax_S → Prop} : ∀ (k : Nat) (i l s : Int) (W : zD) (I J : zF), cB D pg W hf I → uC D U u I → J 0 9 = s → s31 s → W 0 0 0 + k ≤ 999 → 0 ≤ i → i + k = m → (∀ I' J', cA hf I I' → J' 0 9 = pf_chS D k s → cB D pg (pf_chW D pg k W s) hf I' → uC D U u I' → Q (some (.inl (pf_chL D pg k W s l))) (zc_S hf pf I' J')) → zb_W (d + 7) ax_m150 (27, [some (.inr (.inr (some 0))), some (.inl m), some (.inl l), some (.inl i)], [], zc_S hf pf I J) Q := by
  intro k
  induction k with
  | zero =>
    intro i l s W I J hB hU hJ hs hy h0 he hQ
    refine zk_Top_chance_27 hf pf I J m l i ?_
    rw [zb_w (x := i) (by omega) (by omega), zb_w (x := m) (by omega) (by omega)]
    exact ⟨fun c => by omega, fun _ => hQ I J (fun _ _ _ _ _ _ _ => rfl) hJ hB hU⟩
  | succ k ih =>
    intro i l s W I J hB hU hJ hs hy h0 he hQ
    refine zk_Top_chance_27 hf pf I J m l i ?_
    rw [zb_w (x := i) (by omega) (by omega), zb_w (x := m) (by omega) (by omega)]
    refine ⟨fun _ => sc_beginYear hB.W hB.2.2 (fun I1 hF1 hr1 => ?_), fun c => by omega⟩
    have hS1 : cS D pg hf I1 := cA.S (fun i j a _ _ _ _ => hF1 i j (by omega)) hB.S
    have hB1 : cB D pg W hf I1 := ⟨hS1, hB.W, by rw [show I1 13 = I 13 from funext (fun j => hF1 13 j (by decide))]; exact hB.2.2⟩
    have hU1 : uC D U u I1 := uC_cong hU (hF1 12 3 (by decide)) (hF1 12 4 (by decide)) (fun i j _ _ => hF1 i j (by omega))
    refine sc_hailLoss eh hB1 hJ hs (fun I2 J2 hF2 hJ2 hB2 => ?_)
    have hU2 : uC D U u I2 := uC_cong hU1 (hF2 12 3 (by decide)) (hF2 12 4 (by decide)) (fun i j _ _ => hF2 i j (by omega))
    have hr2 : rowC W (I2 14) := by rw [show I2 14 = I1 14 from funext (fun j => hF2 14 j (by decide))]; exact hr1
    have hcy : pf_cW D W s 0 0 0 = W 0 0 0 := pf_cW_o (by decide) _ _
    refine sc_endYear (W0 := W) eh hB2 hB.W hr2 (fun b => (pf_cW_o (by decide) _ _).symm) (by omega) (fun I3 hF3 hB3 => ?_)
    have hs2 : s31 (pf_cS D s) := by unfold pf_cS; split; exact pf_next_in _; exact pf_next_in _
    exact ih (i + 1) _ (pf_cS D s) _ I3 J2 hB3 (hF3.uC hU2) hJ2 hs2 (by rw [pf_year_y, hcy]; omega) (by omega) (by omega) (fun I' J' a b c e => hQ I' J' (cA.trans (cA.trans (cA.trans (fun i j q _ _ _ _ => hF1 i j (by omega)) (fun i j q _ _ _ _ => hF2 i j (by omega))) hF3.A) a) b c e)
theorem sc_chance {U : Nat → zD} {u s : Int} (eh : hf = 0 ∨ hf = 1) (hB : cB D pg W hf I) (hU : uC D U u I) (hJ : J 0 9 = s) (hs : s31 s) {m : Int} (hm : n32 m) (hP0 : ¬ ((1 ≤ m ∧ m ≤ 100) ∧ W 0 0 0 + m ≤ 999) → P (-1) (ax_u I 38 3 (I 38 3 + 1)) J) (hP : (1 ≤ m ∧ m ≤ 100) ∧ W 0 0 0 + m ≤ 999 → ∀ I' J', cA hf I I' → J' 0 9 = pf_chS D m.toNat s → cB D pg (pf_chW D pg m.toNat W s) hf I' → uC D (consU W U) (if u < 20 then u + 1 else u) I' → P (pf_chL D pg m.toNat W s 0) I' J') : zc_i (d + 8) 150 [.inr (.inr (some 0)), .inl m] hf pf I J P := by
  refine zc_ini (M := ax_m150) rfl (Nat.le_of_ble_eq_true rfl) (zk_Top_chance_0 hf pf I J m (sc_canPass hB hm (bc (fun q => sc_remember hU hB.W hB.2.2 (fun I1 hF1 hU1 => ?_)) (fun q => sc_refuse ⟨by decide, by decide⟩ (zc_Qi.of (hP0 q))))))
  have hA : cA hf I I1 := fun i j a _ _ _ _ => hF1 i j (by omega) (by omega)
  have hB1 : cB D pg W hf I1 := ⟨hA.S hB.S, hB.W, by rw [show I1 13 = I 13 from funext (fun j => hF1 13 j (by omega) (by omega))]; exact hB.2.2⟩
  exact sc_chance_27 eh (by omega) m.toNat 0 0 s W I1 J hB1 hU1 hJ hs (by omega) (by decide) (by omega) (fun I' J' a b c e => zc_Qi.of (hP q I' J' (hA.trans a) b c e))
theorem sc_stroke {U : Nat → zD} {u : Int} (eh : hf = 0 ∨ hf = 1) (hB : cB D pg W hf I) (hU : uC D U u I) {b k i o : Int} (hb : n32 b) (hk : n32 k) (hi : n32 i) (ho : n32 o) (hP0 : ¬ (((0 ≤ b ∧ b < D 6 0 0) ∧ (0 ≤ k ∧ k < D 4 (W 1 b 0) 0)) ∧ (0 ≤ i ∧ i ≤ 14) ∧ (0 ≤ o ∧ o ≤ 1) ∧ ax_and (ax_shr (W 3 b k) i) 1 ≠ o) → P 0 (ax_u I 38 2 (I 38 2 + 1)) J) (hP : (((0 ≤ b ∧ b < D 6 0 0) ∧ (0 ≤ k ∧ k < D 4 (W 1 b 0) 0)) ∧ (0 ≤ i ∧ i ≤ 14) ∧ (0 ≤ o ∧ o ≤ 1) ∧ ax_and (ax_shr (W 3 b k) i) 1 ≠ o) → ∀ I', cA hf I I' → cB D pg (wu W 3 b k (ax_xor (W 3 b k) (ax_shl 1 i))) hf I' → uC D (consU W U) (if u < 20 then u + 1 else u) I' → P 1 I' J) : zc_i (d + 5) 151 [.inr (.inr (some 0)), .inl b, .inl k, .inl i, .inl o] hf pf I J P := by
  have h4 := hB.S.ok.a4 (W 1 b 0) 0
  have h6 := hB.S.ok.a6 0 0
  have ref : ¬ (((0 ≤ b ∧ b < D 6 0 0) ∧ (0 ≤ k ∧ k < D 4 (W 1 b 0) 0)) ∧ (0 ≤ i ∧ i ≤ 14) ∧ (0 ≤ o ∧ o ≤ 1) ∧ ax_and (ax_shr (W 3 b k) i) 1 ≠ o) → zc_i (d + 4) 160 [.inr (.inr (some 0)), .inl 2] hf pf I J (fun r9 I6 J7 => ((r9 : Int) = 0 ∨ (r9 : Int) = 1) ∧ zc_Qi hf pf P (some (.inl r9)) (zc_S hf pf I6 J7)) := fun q => sc_refuse ⟨by decide, by decide⟩ ⟨Or.inl rfl, zc_Qi.of (hP0 q)⟩
  refine zc_ini (M := ax_m151) rfl (Nat.le_of_ble_eq_true rfl) (zk_Top_stroke_0 hf pf I J b k i o (sc_holdsPlace eh hB hb hk (bc (fun q => ?_) (fun q => ref (fun r => q r.1)))))
  rw [hi.w, ho.w, show ax_w 0 = 0 from rfl, show ax_w 15 = 15 from rfl, show ax_w 1 = 1 from rfl]
  refine ⟨fun c => ref (by omega), fun c => ⟨fun c2 => ⟨fun c3 => ref (by omega), fun c3 => ⟨fun c4 => ref (by omega), fun c4 => sc_glyphAt hB.2.2 (by omega) (by omega) ?_⟩⟩, fun c2 => ref (by omega)⟩⟩
  have hbt := bit01' (W 3 b k) i
  rw [zb_w (x := ax_and (ax_shr (W 3 b k) i) 1) (by omega) (by omega)]
  refine ⟨fun e => ref (fun r => r.2.2.2 e), fun e => sc_remember hU hB.W hB.2.2 (fun I1 hF1 hU1 => sc_setGlyph (by omega) (by omega) (zc_Qi.of (hP ⟨q, by omega, by omega, e⟩ _ (fun x y a _ _ _ _ => ?_) ⟨?_, wOk_wu3 hB.W q.1 (g15_xor (hB.W.g _ _) (g15_shl ⟨by omega, by omega⟩)), ?_⟩ ?_)))⟩
  · rw [zu_ne (by omega)]; exact hF1 x y (by omega) (by omega)
  · exact cA.S (fun x y a _ _ _ _ => by rw [zu_ne (by omega)]; exact hF1 x y (by omega) (by omega)) hB.S
  · rw [zu_row, show I1 13 = I 13 from funext (fun j => hF1 13 j (by omega) (by omega))]
    exact rowC_set3 hB.2.2 hB.W.n (by omega) (by omega)
  · exact uC_cong hU1 (zu_ne (by omega)) (zu_ne (by omega)) (fun x y _ _ => zu_ne (by omega))
theorem sc_paint {U : Nat → zD} {u : Int} (eh : hf = 0 ∨ hf = 1) (hB : cB D pg W hf I) (hU : uC D U u I) {b w h : Int} (hb : n32 b) (hw : n32 w) (hh : n32 h) (hP0 : ¬ ((0 ≤ b ∧ b < D 6 0 0) ∧ (0 ≤ w ∧ w < D 3 0 0) ∧ (0 ≤ h ∧ h ≤ 1) ∧ pf_canPaint D w h = 1) → P 0 (ax_u I 38 2 (I 38 2 + 1)) J) (hP : (0 ≤ b ∧ b < D 6 0 0) ∧ (0 ≤ w ∧ w < D 3 0 0) ∧ (0 ≤ h ∧ h ≤ 1) ∧ pf_canPaint D w h = 1 → ∀ I', cA hf I I' → cB D pg (pf_pt D W b w h) hf I' → uC D (consU W U) (if u < 20 then u + 1 else u) I' → P 1 I' J) : zc_i (d + 6) 152 [.inr (.inr (some 0)), .inl b, .inl w, .inl h] hf pf I J P := by
  have h6 := hB.S.ok.a6 0 0
  have ref : ¬ ((0 ≤ b ∧ b < D 6 0 0) ∧ (0 ≤ w ∧ w < D 3 0 0) ∧ (0 ≤ h ∧ h ≤ 1) ∧ pf_canPaint D w h = 1) → zc_i (d + 5) 160 [.inr (.inr (some 0)), .inl 2] hf pf I J (fun r9 I6 J7 => ((r9 : Int) = 0 ∨ (r9 : Int) = 1) ∧ zc_Qi hf pf P (some (.inl r9)) (zc_S hf pf I6 J7)) := fun q => sc_refuse ⟨by decide, by decide⟩ ⟨Or.inl rfl, zc_Qi.of (hP0 q)⟩
  refine zc_ini (M := ax_m152) rfl (Nat.le_of_ble_eq_true rfl) (zk_Top_paint_0 hf pf I J b w h eh (sc_holdsBoard eh hB hb (bc (fun q => sc_holdsWord eh hB.S.ok hB.S.L hw (bc (fun q2 => sc_isHand hh (bc (fun q3 => sc_canPaint eh hB.S.ok hB.S.L q2 (by omega) (b01 (pf_can01 D w h _ _) (fun e => ?_) (fun e => ref (fun r => ?_)))) (fun q3 => ref (fun r => q3 r.2.2.1)))) (fun q2 => ref (fun r => q2 r.2.1)))) (fun q => ref (fun r => q r.1)))))
  · have e' : pf_canPaint D w h = 1 := e
    refine sc_remember hU hB.W hB.2.2 (fun I1 hF1 hU1 => ?_)
    have hA : cA hf I I1 := fun i j a _ _ _ _ => hF1 i j (by omega) (by omega)
    have hS1 := hA.S hB.S
    refine sc_paintAnew (W := W) eh hB.S.ok hS1.L hB.W.n (by rw [show I1 13 = I 13 from funext (fun j => hF1 13 j (by omega) (by omega))]; exact hB.2.2) (by omega) q2 (by omega) (fun I2 hF2 hr2 => zc_Qi.of (hP ⟨q, q2, q3, e'⟩ I2 (hA.trans (fun i j a _ _ _ _ => hF2 i j (by omega))) ⟨?_, wOk_pt hB.S.ok hB.W q q2 (by omega) e', hr2⟩ ?_))
    · exact cA.S (fun i j a _ _ _ _ => hF2 i j (by omega)) hS1
    · exact uC_cong hU1 (hF2 12 3 (by decide)) (hF2 12 4 (by decide)) (fun i j _ _ => hF2 i j (by omega))
  · have e' : pf_canPaint D w h = 0 := e
    omega
theorem sc_undo {U : Nat → zD} {u : Int} (eh : hf = 0 ∨ hf = 1) (hS : cS D pg hf I) (hU : uC D U u I) (hP0 : u = 0 → P 0 (ax_u I 38 4 (I 38 4 + 1)) J) (hP : ∀ I', 0 < u → cA hf I I' → cB D pg (U 0) hf I' → uC D (fun i => U (i + 1)) (u - 1) I' → P 1 I' J) : zc_i (d + 2) 153 [.inr (.inr (some 0))] hf pf I J P := by
  refine zc_ini (M := ax_m153) rfl (Nat.le_of_ble_eq_true rfl) (zk_Top_undo_0 hf pf I J (sc_takeBack hU (fun e => b0 (sc_refuse ⟨by decide, by decide⟩ (b0 (zc_Qi.of (hP0 e))))) (fun I1 h0 hF hW hr hU1 => b1 (zc_Qi.of (hP I1 h0 (fun i j a _ _ _ _ => hF i j (by omega) (by omega)) ⟨?_, hW, hr⟩ hU1)))))
  exact cA.S (fun i j a _ _ _ _ => hF i j (by omega) (by omega)) hS
theorem sc_seed {s : Int} (hs : n32 s) (hP0 : s < 0 → P 0 (ax_u I 38 5 (I 38 5 + 1)) J) (hP : 0 ≤ s → P 1 I (ax_u J 0 9 s)) : zc_i (d + 2) 154 [.inr (.inr (some 0)), .inl s] hf pf I J P := by
  refine zc_ini (M := ax_m154) rfl (Nat.le_of_ble_eq_true rfl) (zk_Top_seed_0 hf pf I J s ?_)
  rw [hs.w, show ax_w 0 = 0 from rfl]
  exact ⟨fun c => sc_refuse ⟨by decide, by decide⟩ ⟨Or.inl rfl, zc_Qi.of (hP0 c)⟩, fun c => zc_Qi.of (hP (by omega))⟩
theorem sc_status {c : Int} (hc : n32 c) (hP : P (if 0 ≤ c ∧ c ≤ 5 then I 38 c.toNat else -1) I J) : zc_i (d + 1) 159 [.inr (.inr (some 0)), .inl c] hf pf I J P := by
  refine zc_ini (M := ax_m159) rfl (Nat.le_of_ble_eq_true rfl) (zk_Top_status_0 hf pf I J c ?_)
  rw [hc.w, show ax_w 0 = 0 from rfl, show ax_w 6 = 6 from rfl]
  refine ⟨fun q => zc_Qi.of (by rwa [if_neg (by omega)] at hP), fun q => ⟨fun q2 => ⟨by omega, zc_Qi.of (by rwa [if_pos (by omega)] at hP)⟩, fun q2 => zc_Qi.of (by rwa [if_neg (by omega)] at hP)⟩⟩
theorem sc_fault {c : Int} (hc : n32 c) (hP : P (if c = 0 then I 3 6 else if c = 1 then I 3 7 else -1) I J) : zc_i (d + 1) 130 [.inr (.inr (some 0)), .inl c] hf pf I J P := by
  refine zc_ini (M := ax_m130) rfl (Nat.le_of_ble_eq_true rfl) (zk_Top_fault_0 hf pf I J c ?_)
  rw [hc.w]
  refine ⟨fun e => zc_Qi.of ?_, fun e => ⟨fun e2 => zc_Qi.of ?_, fun e2 => zc_Qi.of ?_⟩⟩
  · rwa [if_pos e] at hP
  · rwa [if_neg e, if_pos e2] at hP
  · rwa [if_neg e, if_neg e2] at hP
theorem sc_length (hT : tC T n I) (hP : P n I J) : zc_i (d + 1) 85 [.inr (.inr (some 1))] hf pf I J P := by
  refine zc_ini (M := ax_m85) rfl (Nat.le_of_ble_eq_true rfl) (zk_Tape_length_0 hf pf I J ?_)
  rw [hT.1]
  exact zc_Qi.of hP
theorem sc_cut {m : Int} (h : 0 ≤ m ∧ m ≤ I 1 1 ∧ I 1 1 ≤ 100000) (hP : P0 (ax_u I 1 1 m) J) : zc_v (d + 1) 87 [.inr (.inr (some 1)), .inl m] hf pf I J P0 := by
  refine zc_inv (M := ax_m87) rfl (Nat.le_of_ble_eq_true rfl) (zk_Tape_cut_0 hf pf I J m ?_)
  rw [zb_w (x := m) (by omega) (by omega), zb_w (x := I 1 1) (by omega) (by omega)]
  exact ⟨fun c => absurd (show m < 0 from c) (by omega), fun _ => ⟨fun c => by omega, fun _ => zc_Qv.of hP⟩⟩
theorem sc_at (hT : tC T n I) {k : Int} (hk : n32 k) (hP : P (if 0 ≤ k ∧ k < n then T k.toNat else -1) I J) : zc_i (d + 1) 88 [.inr (.inr (some 1)), .inl k] hf pf I J P := by
  obtain ⟨t1, t2, t3⟩ := hT
  refine zc_ini (M := ax_m88) rfl (Nat.le_of_ble_eq_true rfl) (zk_Tape_at_0 hf pf I J k ?_)
  rw [hk.w, t1, zb_w (x := n) (by omega) (by omega), show ax_w 0 = 0 from rfl]
  refine ⟨fun c => zc_Qi.of (by rwa [if_neg (by omega)] at hP), fun c => ⟨fun c2 => ⟨by omega, zc_Qi.of ?_⟩, fun c2 => zc_Qi.of (by rwa [if_neg (by omega)] at hP)⟩⟩
  obtain ⟨e1, e2⟩ := t3 k.toNat (by omega)
  rw [e1, sb_and e2]
  rwa [if_pos (by omega)] at hP
theorem sc_addNumber_3 {w n0 : Int} (hn0 : 0 ≤ n0 ∧ n0 + 4 ≤ 1600) (hw : ∀ r, 0 ≤ r → r < 4 → T (n0 + r).toNat = pf_by w r) {I0 : zF} {Q : Option ax_v → ax_S → Prop} : ∀ (k : Nat) (r : Int) (I : zF), (∀ i j, i ≠ 2 → ¬ (i = 1 ∧ j = 1) → I i j = I0 i j) → tC T (n0 + r) I → 0 ≤ r → r + k = 4 → (∀ I', (∀ i j, i ≠ 2 → ¬ (i = 1 ∧ j = 1) → I' i j = I0 i j) → tC T (n0 + 4) I' → Q none (zc_S hf pf I' J)) → zb_W d ax_m86 (3, [some (.inr (.inr (some 1))), some (.inl w), some (.inl (24 - 8 * r))], [], zc_S hf pf I J) Q := by
  intro k
  induction k with
  | zero =>
    intro r I hF hT h0 he hQ
    have e : r = 4 := by omega
    subst e
    exact zk_Tape_addNumber_3 hf pf I J w _ ⟨fun _ => hQ I hF hT, fun c => absurd (by decide) c⟩
  | succ k ih =>
    intro r I hF hT h0 he hQ
    obtain ⟨t1, t2, t3⟩ := hT
    refine zk_Tape_addNumber_3 hf pf I J w _ ?_
    rw [t1, zb_w (x := 24 - 8 * r) (by omega) (by omega), zb_w (x := n0 + r) (by omega) (by omega), show ax_w 0 = 0 from rfl, show ax_w 1600 = 1600 from rfl]
    refine ⟨fun c => by omega, fun _ => ⟨fun _ => ⟨by omega, zk_Tape_addNumber_40 hf pf _ J w _ ?_⟩, fun c => by omega⟩⟩
    rw [zu_ne (i := 2) (a := 1) (b := 1) (by omega), t1, show 24 - 8 * r + -8 = 24 - 8 * (r + 1) by omega, show n0 + r + 1 = n0 + (r + 1) by omega]
    refine ih (r + 1) _ (fun i j q1 q2 => by rw [zu_ne (by omega), zu_ne (by omega)]; exact hF i j q1 q2) ⟨zu_eq, by omega, fun j hj => ?_⟩ (by omega) (by omega) hQ
    by_cases e : j = (n0 + r).toNat
    · have eT : T j = pf_by w r := by rw [e]; exact hw r h0 (by omega)
      rw [zu_ne (by omega), eT, e, zu_eq, i2b_sb]
      unfold pf_by
      rw [show 8 * (3 - r) = 24 - 8 * r by omega]
      exact ⟨rfl, and255 _⟩
    · rw [zu_ne (by omega), zu_ne (by omega)]
      exact t3 j (by omega)
theorem sc_addNumber {w : Int} (hT : tC T n I) (hn : n + 4 ≤ 1600) (hw : ∀ r, 0 ≤ r → r < 4 → T (n + r).toNat = pf_by w r) (hP : ∀ I', (∀ i j, i ≠ 2 → ¬ (i = 1 ∧ j = 1) → I' i j = I i j) → tC T (n + 4) I' → P0 I' J) : zc_v (d + 1) 86 [.inr (.inr (some 1)), .inl w] hf pf I J P0 :=
  zc_inv (M := ax_m86) rfl (Nat.le_of_ble_eq_true rfl) (zk_Tape_addNumber_0 hf pf I J w (sc_addNumber_3 (n0 := n) (by have := hT.2.1; omega) hw 4 0 I (fun _ _ _ _ => rfl) (by rw [Int.add_zero]; exact hT) (by decide) (by decide) (fun I' a b => zc_Qv.of (hP I' a b))))
theorem sc_feed {a b c e f : Int} (hT : tC T n I) (hP0 : 1600 < n + 20 → P (-1) (ax_u I 38 0 (I 38 0 + 1)) J) (hP : n + 20 ≤ 1600 → ∀ I', (∀ i j, i ≠ 2 → ¬ (i = 1 ∧ j = 1) → I' i j = I i j) → tC (pf_fT T n a b c e f) (n + 20) I' → P (n + 20) I' J) : zc_i (d + 2) 127 [.inr (.inr (some 0)), .inl a, .inl b, .inl c, .inl e, .inl f] hf pf I J P := by
  have hn := hT.2.1
  refine zc_ini (M := ax_m127) rfl (Nat.le_of_ble_eq_true rfl) (zk_Top_feed_0 hf pf I J a b c e f (sc_length hT ?_))
  rw [zb_w (x := n + 20) (by omega) (by omega), show ax_w 1600 = 1600 from rfl]
  refine ⟨fun q => sc_refuse ⟨by decide, by decide⟩ (zc_Qi.of (hP0 q)), fun q => ?_⟩
  have hT0 : tC (pf_fT T n a b c e f) n I := ⟨hT.1, hn, fun j hj => by
    have ev : pf_fT T n a b c e f j = T j := by unfold pf_fT; rw [if_pos hj]
    rw [ev]; exact hT.2.2 j hj⟩
  have key : ∀ (q : Int) (w : Int), 0 ≤ q → q < 5 → pf_w5 a b c e f (4 * q) = w → pf_w5 a b c e f (4 * q + 1) = w → pf_w5 a b c e f (4 * q + 2) = w → pf_w5 a b c e f (4 * q + 3) = w → ∀ r, 0 ≤ r → r < 4 → pf_fT T n a b c e f (n + 4 * q + r).toNat = pf_by w r := by
    intro q w q0 q1 w0 w1 w2 w3 r r0 r1
    unfold pf_fT
    rw [if_neg (by omega), show (((n + 4 * q + r).toNat : Nat) : Int) - n = 4 * q + r by omega, show (4 * q + r) % 4 = r by omega]
    have : r = 0 ∨ r = 1 ∨ r = 2 ∨ r = 3 := by omega
    rcases this with rfl | rfl | rfl | rfl
    · rw [Int.add_zero, w0]
    · rw [w1]
    · rw [w2]
    · rw [w3]
  have k0 := key 0 a (by decide) (by decide) rfl rfl rfl rfl
  have k1 := key 1 b (by decide) (by decide) rfl rfl rfl rfl
  have k2 := key 2 c (by decide) (by decide) rfl rfl rfl rfl
  have k3 := key 3 e (by decide) (by decide) rfl rfl rfl rfl
  have k4 := key 4 f (by decide) (by decide) rfl rfl rfl rfl
  rw [show n + 4 * 0 = n by omega] at k0
  refine sc_addNumber hT0 (by omega) k0 (fun I1 f1 t1 => sc_addNumber t1 (by omega) (fun r r0 r1 => ?_) (fun I2 f2 t2 => sc_addNumber t2 (by omega) (fun r r0 r1 => ?_) (fun I3 f3 t3 => sc_addNumber t3 (by omega) (fun r r0 r1 => ?_) (fun I4 f4 t4 => sc_addNumber t4 (by omega) (fun r r0 r1 => ?_) (fun I5 f5 t5 => sc_length t5 (zc_Qi.of ?_))))))
  · have := k1 r r0 r1
    rw [show n + 4 * 1 = n + 4 by omega] at this; exact this
  · have := k2 r r0 r1
    rw [show n + 4 * 2 = n + 4 + 4 by omega] at this; exact this
  · have := k3 r r0 r1
    rw [show n + 4 * 3 = n + 4 + 4 + 4 by omega] at this; exact this
  · have := k4 r r0 r1
    rw [show n + 4 * 4 = n + 4 + 4 + 4 + 4 by omega] at this; exact this
  · rw [show n + 4 + 4 + 4 + 4 + 4 = n + 20 by omega] at t5 ⊢
    exact hP (by omega) I5 (fun i j q1 q2 => by rw [f5 i j q1 q2, f4 i j q1 q2, f3 i j q1 q2, f2 i j q1 q2, f1 i j q1 q2]) t5
theorem sc_end (hT : tC T n I) {m : Int} (hm : n32 m) (hP0 : ¬ (0 ≤ m ∧ m ≤ n) → P 0 (ax_u I 38 0 (I 38 0 + 1)) J) (hP : 0 ≤ m ∧ m ≤ n → P 1 (ax_u I 1 1 m) J) : zc_i (d + 2) 128 [.inr (.inr (some 0)), .inl m] hf pf I J P := by
  have hn := hT.2.1
  refine zc_ini (M := ax_m128) rfl (Nat.le_of_ble_eq_true rfl) (zk_Top_end_0 hf pf I J m ?_)
  rw [hm.w, show ax_w 0 = 0 from rfl]
  refine ⟨fun c => sc_refuse ⟨by decide, by decide⟩ ⟨Or.inl rfl, zc_Qi.of (hP0 (by omega))⟩, fun c => sc_length hT ?_⟩
  rw [zb_w (x := n) (by omega) (by omega)]
  exact ⟨fun c2 => sc_refuse ⟨by decide, by decide⟩ ⟨Or.inl rfl, zc_Qi.of (hP0 (by omega))⟩, fun c2 => sc_cut (by rw [hT.1]; omega) (zc_Qi.of (hP (by omega)))⟩
end ZC9
