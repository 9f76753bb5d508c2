/-! THE CLASS: the end of a year -/
theorem pf_kall_snoc {D : zD} {pg : zG} {W0 : zD} : ∀ (n : Nat) (b : Int) (W : zD), pf_kall D pg W0 (n + 1) b W = pf_kb D pg W0 (pf_kall D pg W0 n b W) (b + n) := by
  intro n
  induction n with
  | zero =>
    intro b W
    show pf_kb D pg W0 W b = pf_kb D pg W0 W (b + ((0 : Nat) : Int))
    rw [show b + ((0 : Nat) : Int) = b by omega]
  | succ n ih =>
    intro b W
    have e : pf_kall D pg W0 (n + 1 + 1) b W = pf_kall D pg W0 (n + 1) (b + 1) (pf_kb D pg W0 W b) := rfl
    have e2 : pf_kall D pg W0 (n + 1) b W = pf_kall D pg W0 n (b + 1) (pf_kb D pg W0 W b) := rfl
    rw [e, ih, e2, show b + 1 + (n : Int) = b + ((n + 1 : Nat) : Int) by omega]
/-- the wall as the class has it when the boards ahead of b are done, of b the places ahead of k are washed -/
def pf_cy (D : zD) (pg : zG) (W0 W : zD) (b k : Int) : zD := fun i a c => if i = 3 then pf_rainTo D pg W b k 3 a c else pf_kall D pg W0 b.toNat 0 (pf_rain D pg W) i a c
def pf_cv (D : zD) (pg : zG) (W0 W : zD) (b : Int) : zD := fun i a c => if i = 3 then pf_rainTo D pg W (b + 1) 0 3 a c else pf_kall D pg W0 b.toNat 0 (pf_rain D pg W) i a c
theorem pf_cy_3 {D : zD} {pg : zG} {W0 W : zD} {b k a c : Int} : pf_cy D pg W0 W b k 3 a c = pf_rainTo D pg W b k 3 a c := if_pos rfl
theorem pf_cy_o {D : zD} {pg : zG} {W0 W : zD} {b k a c : Int} {i : Nat} (h : i ≠ 3) : pf_cy D pg W0 W b k i a c = pf_kall D pg W0 b.toNat 0 (pf_rain D pg W) i a c := if_neg h
theorem pf_cy_w {D : zD} {pg : zG} {W0 W : zD} {b k a c : Int} {i : Nat} (h : i ≠ 3) (h4 : i ≠ 4) (h5 : i ≠ 5) : pf_cy D pg W0 W b k i a c = W i a c := by rw [pf_cy_o h, pf_kall_o h4 h5, pf_rain_o h]
theorem pf_cv_w {D : zD} {pg : zG} {W0 W : zD} {b a c : Int} {i : Nat} (h : i ≠ 3) (h4 : i ≠ 4) (h5 : i ≠ 5) : pf_cv D pg W0 W b i a c = W i a c := by
  unfold pf_cv
  rw [if_neg h, pf_kall_o h4 h5, pf_rain_o h]
theorem pf_cy_0 {D : zD} {pg : zG} {W0 W : zD} : pf_cy D pg W0 W 0 0 = W := by
  funext i a c
  by_cases e : i = 3
  · subst e; rw [pf_cy_3, pf_rainTo_0]
  · rw [pf_cy_o e]
    exact pf_rain_o e a c
theorem pf_cy_step {D : zD} {pg : zG} {W0 W : zD} {b k : Int} (hb : 0 ≤ b) (hk : 0 ≤ k ∧ k < D 4 (W 1 b 0) 0) : pf_cy D pg W0 W b (k + 1) = wu (pf_cy D pg W0 W b k) 3 b k (pf_wash pg (W 3 b k) k (W 0 0 0)) := by
  funext i a c
  by_cases e : i = 3
  · subst e
    rw [pf_cy_3, pf_rainTo_step hb hk]
    by_cases q : a = b ∧ c = k
    · obtain ⟨rfl, rfl⟩ := q
      rw [wu_eq, wu_eq]
    · rw [wu_ne (by omega), wu_ne (by omega), pf_cy_3]
  · rw [wu_ne (fun q => e q.1), pf_cy_o e, pf_cy_o e]
theorem pf_cy_next {D : zD} {pg : zG} {W0 W : zD} {b : Int} : pf_cy D pg W0 W b (D 4 (W 1 b 0) 0) = pf_cv D pg W0 W b := by
  unfold pf_cy pf_cv
  rw [pf_rainTo_next]
theorem pf_cv_kb {D : zD} {pg : zG} {W0 W : zD} {b : Int} (h4 : 0 ≤ D 4 (W 1 b 0) 0) (hb : 0 ≤ b ∧ b < D 6 0 0) : pf_kb D pg W0 (pf_cv D pg W0 W b) b = pf_cy D pg W0 W (b + 1) 0 := by
  have ek : pf_kall D pg W0 (b + 1).toNat 0 (pf_rain D pg W) = pf_kb D pg W0 (pf_kall D pg W0 b.toNat 0 (pf_rain D pg W)) b := by
    rw [show (b + 1).toNat = b.toNat + 1 by omega, pf_kall_snoc, show (0 : Int) + (b.toNat : Int) = b by omega]
  have hcv : ∀ (i : Nat) (a c : Int), i ≠ 3 → pf_cv D pg W0 W b i a c = pf_kall D pg W0 b.toNat 0 (pf_rain D pg W) i a c := fun i a c q => if_neg q
  have h3 : ∀ c, 0 ≤ c → c < D 4 (W 1 b 0) 0 → pf_cv D pg W0 W b 3 b c = pf_kall D pg W0 b.toNat 0 (pf_rain D pg W) 3 b c := by
    intro c c0 c1
    have e1 : pf_cv D pg W0 W b 3 b c = pf_rainTo D pg W (b + 1) 0 3 b c := if_pos rfl
    rw [e1, pf_kall_o (by decide) (by decide)]
    unfold pf_rain pf_rainTo
    rw [if_pos (by omega), if_pos (by omega)]
  have hw : pf_kall D pg W0 b.toNat 0 (pf_rain D pg W) 1 b 0 = W 1 b 0 := by rw [pf_kall_o (by decide) (by decide), pf_rain_o (by decide)]
  have hs : ∀ c, 0 ≤ c → c < 0 + ((D 4 (W 1 b 0) 0).toNat : Int) → pf_said D pg (pf_cv D pg W0 W b) b c = pf_said D pg (pf_kall D pg W0 b.toNat 0 (pf_rain D pg W)) b c := by
    intro c c0 c1
    unfold pf_said
    rw [hcv 2 b 0 (by decide), h3 c c0 (by omega)]
  have hcvw : pf_cv D pg W0 W b 1 b 0 = W 1 b 0 := by rw [hcv 1 b 0 (by decide), hw]
  funext i a c
  unfold pf_kb
  rw [hcvw, pf_any_c _ _ _ hs, pf_zer_c _ _ _ hs]
  by_cases e3 : i = 3
  · subst e3
    rw [pf_cy_3]
    split
    · exact if_pos rfl
    · rw [pf_keep_o (by decide) (by decide)]; exact if_pos rfl
  · rw [pf_cy_o e3, ek]
    unfold pf_kb
    rw [hw]
    split
    · exact hcv i a c e3
    · unfold pf_keep pf_ent
      simp only [hcv 4 0 0 (by decide), hcv 0 0 0 (by decide), hcv 5 (a + 1) c (by decide), hcv 5 a c (by decide), hcv i a c e3]
theorem pf_cy_end {D : zD} {pg : zG} {W0 W : zD} {v : Int} (hv : v = W 0 0 0 + 1) : wu (pf_cy D pg W0 W (D 6 0 0) 0) 0 0 0 v = pf_year D pg W0 W := by
  subst hv
  unfold pf_year
  have e : pf_cy D pg W0 W (D 6 0 0) 0 = pf_kall D pg W0 (D 6 0 0).toNat 0 (pf_rain D pg W) := by
    funext i a c
    by_cases q : i = 3
    · subst q
      rw [pf_cy_3, pf_kall_o (by decide) (by decide)]
      rfl
    · rw [pf_cy_o q]
  rw [e]
theorem wOk_mix {D A B : zD} (hA : wOk D A) (hB : wOk D B) : wOk D (fun i a c => if i = 3 then A 3 a c else B i a c) := by
  refine ⟨hB.1, hB.2.1, hA.2.2.1, hB.2.2.2.1, hB.2.2.2.2.1, fun b h1 h2 => ⟨(hB.z h1 h2).1, (hB.z h1 h2).2.1, (hA.z h1 h2).2.2⟩⟩
theorem wOk_cy {D W W0 : zD} {pg : zG} (ok : zD_ok D pg) (h : wOk D W) {b k : Int} (hb : 0 ≤ b ∧ b < D 6 0 0) : wOk D (pf_cy D pg W0 W b k) := by
  have h6 := ok.a6 0 0
  exact wOk_mix (wOk_rainTo h (by omega) (Or.inl hb.2)) (wOk_kall ok _ _ _ (by decide) (by omega) (wOk_rain h))
theorem wOk_cv {D W W0 : zD} {pg : zG} (ok : zD_ok D pg) (h : wOk D W) {b : Int} (hb : 0 ≤ b ∧ b < D 6 0 0) : wOk D (pf_cv D pg W0 W b) := by
  have h6 := ok.a6 0 0
  exact wOk_mix (wOk_rainTo h (by omega) (Or.inr (Int.le_refl _))) (wOk_kall ok _ _ _ (by decide) (by omega) (wOk_rain h))
section ZC6
variable {d hf pf hs : Nat} {I J : zF} {D : zD} {pg : zG} {W : zD} {P : Int → zF → zF → Prop} {P0 : zF → zF → Prop}
theorem sc_endYear_15 {I0 : zF} {W0 : zD} (eh : hs = 0 ∨ hs = 1) (hS0 : cS D pg hs I0) (hW : wOk D W) {b : Int} (hb : 0 ≤ b ∧ b < D 6 0 0) {Q : Option ax_v → ax_S → Prop} : ∀ (n : Nat) (k l : Int) (I : zF), cN hs I0 I → rowC (pf_cy D pg W0 W b k) (I 13) → 0 ≤ k → k + n = D 4 (W 1 b 0) 0 → (∀ I', cN hs I0 I' → cB D pg (pf_cv D pg W0 W b) hs I' → zc_v (d + 6) 125 [.inr (.inr (some 12)), .inr (.inr (some ((39 + 29 * hs)))), .inl b] hf pf I' J (fun I29 J30 => zb_W (d + 6) ax_m124 (4, [some (.inr (.inr (some 12))), some (.inr (.inr (some ((39 + 29 * hs))))), some (.inl (pf_lostK pg W b n k l)), some (.inl (b + 1)), none, none, none], [], zc_S hf pf I29 J30) Q)) → zb_W (d + 6) ax_m124 (15, [some (.inr (.inr (some 12))), some (.inr (.inr (some ((39 + 29 * hs))))), some (.inl l), some (.inl b), some (.inl k), none, none], [], zc_S hf pf I J) Q := by
  have h6 := hS0.ok.a6 0 0
  have h4 := hS0.ok.a4 (W 1 b 0) 0
  intro n
  induction n with
  | zero =>
    intro k l I hF hr h0 he hQ
    have hS := hF.S hS0
    refine zk_Wall_endYear_15 hf pf I J l b k hs eh (sc_wordOf hr ⟨hb.1, by omega⟩ ?_)
    rw [pf_cy_w (by decide) (by decide) (by decide)]
    refine sc_sizeOf eh hS.ok hS.L (hW.w hb) ?_
    rw [zb_w (x := k) (by omega) (by omega), zb_w (x := D 4 (W 1 b 0) 0) (by omega) (by omega)]
    have e : k = D 4 (W 1 b 0) 0 := by omega
    rw [e, pf_cy_next] at hr
    exact ⟨fun c => by omega, fun _ => hQ I hF ⟨hS, wOk_cv hS0.ok hW hb, hr⟩⟩
  | succ n ih =>
    intro k l I hF hr h0 he hQ
    have hS := hF.S hS0
    refine zk_Wall_endYear_15 hf pf I J l b k hs eh (sc_wordOf hr ⟨hb.1, by omega⟩ ?_)
    rw [pf_cy_w (by decide) (by decide) (by decide)]
    refine sc_sizeOf eh hS.ok hS.L (hW.w hb) ?_
    rw [zb_w (x := k) (by omega) (by omega), zb_w (x := D 4 (W 1 b 0) 0) (by omega) (by omega)]
    refine ⟨fun _ => sc_glyphAt hr ⟨hb.1, by omega⟩ (by omega) ?_, fun c => by omega⟩
    have hy : I 13 0 = W 0 0 0 := by
      have := hr.1
      rwa [pf_cy_w (by decide) (by decide) (by decide)] at this
    have hyb := hW.y
    rw [pf_cy_3, pf_rainTo_at, show (ax_w 0).toNat = 0 from rfl, hy]
    refine sc_washed eh hS (hW.g b k) (by omega) (by omega) (fun I2 hE2 => sc_bitCount (hW.g b k) (sc_bitCount (pf_wash_15 (hW.g b k)) (sc_setGlyph ⟨hb.1, by omega⟩ (by omega) ?_)))
    refine ih (k + 1) _ _ ((hF.trans hE2.N).u) ?_ (by omega) (by omega) hQ
    rw [zu_row, hE2.n13 eh, pf_cy_step hb.1 (by omega)]
    refine rowC_set3 hr ?_ ⟨hb.1, by omega⟩ (by omega)
    exact (wOk_cy (W0 := W0) (k := k) hS0.ok hW hb).n
theorem sc_endYear_4 {I0 : zF} {W0 : zD} (eh : hs = 0 ∨ hs = 1) (hS0 : cS D pg hs I0) (hW : wOk D W) (hW0 : wOk D W0) (hr0 : rowC W0 (I0 14)) (h2 : ∀ b, W0 2 b 0 = W 2 b 0) {Q : Option ax_v → ax_S → Prop} : ∀ (n : Nat) (b l : Int) (I : zF), cN hs I0 I → rowC (pf_cy D pg W0 W b 0) (I 13) → 0 ≤ b → b + n = D 6 0 0 → (∀ I', cN hs I0 I' → rowC (pf_year D pg W0 W) (I' 13) → Q (some (.inl (pf_lostB D pg W n b l))) (zc_S hf pf I' J)) → zb_W (d + 6) ax_m124 (4, [some (.inr (.inr (some 12))), some (.inr (.inr (some ((39 + 29 * hs))))), some (.inl l), some (.inl b), none, none, none], [], zc_S hf pf I J) Q := by
  have h6 := hS0.ok.a6 0 0
  intro n
  induction n with
  | zero =>
    intro b l I hF hr h0 he hQ
    have hS := hF.S hS0
    have e : b = D 6 0 0 := by omega
    have hy : I 13 0 = W 0 0 0 := by
      have := hr.1
      rwa [pf_cy_w (by decide) (by decide) (by decide)] at this
    refine zk_Wall_endYear_4 hf pf I J l b hs eh ?_
    rw [hS.L.bn, zb_w (x := b) (by omega) (by omega), zb_w (x := D 6 0 0) (by omega) (by omega), show (ax_w 0).toNat = 0 from rfl]
    refine ⟨fun c => by omega, fun _ => hQ _ hF.u ?_⟩
    rw [zu_row, hy, ← pf_cy_end (v := W 0 0 0 + 1) rfl]
    rw [e] at hr
    exact rowC_set0 hr
  | succ n ih =>
    intro b l I hF hr h0 he hQ
    have hS := hF.S hS0
    have hb : 0 ≤ b ∧ b < D 6 0 0 := by omega
    have h4 := hS0.ok.a4 (W 1 b 0) 0
    refine zk_Wall_endYear_4 hf pf I J l b hs eh ?_
    rw [hS.L.bn, zb_w (x := b) (by omega) (by omega), zb_w (x := D 6 0 0) (by omega) (by omega)]
    refine ⟨fun _ => sc_endYear_15 (W0 := W0) eh hS0 hW hb (D 4 (W 1 b 0) 0).toNat 0 l I hF hr (by decide) (by omega) (fun I1 hF1 hB1 => ?_), fun c => by omega⟩
    have h14 : I1 14 = I0 14 := funext (fun j => hF1 14 j (by omega) (by omega) (by omega) (by omega) (by omega))
    refine sc_keepIfChanged (W0 := W0) eh hB1 hW0 (by rw [h14]; exact hr0) hb (by rw [pf_cv_w (by decide) (by decide) (by decide)]; exact h2 b) (fun I2 hF2 hB2 => ?_)
    rw [pf_cv_kb h4.1 hb] at hB2
    exact ih (b + 1) _ I2 (hF1.trans hF2) hB2.2.2 (by omega) (by omega) hQ
theorem sc_endYear {W0 : zD} (eh : hs = 0 ∨ hs = 1) (hB : cB D pg W hs I) (hW0 : wOk D W0) (hr0 : rowC W0 (I 14)) (h2 : ∀ b, W0 2 b 0 = W 2 b 0) (hy : W 0 0 0 < 999) (hP : ∀ I', cN hs I I' → cB D pg (pf_year D pg W0 W) hs I' → P (pf_lostB D pg W (D 6 0 0).toNat 0 0) I' J) : zc_i (d + 7) 124 [.inr (.inr (some 12)), .inr (.inr (some ((39 + 29 * hs))))] hf pf I J P := by
  have h6 := hB.S.ok.a6 0 0
  exact zc_ini (M := ax_m124) rfl (Nat.le_of_ble_eq_true rfl) (zk_Wall_endYear_0 hf pf I J hs (sc_endYear_4 (W0 := W0) eh hB.S hB.W hW0 hr0 h2 (D 6 0 0).toNat 0 0 I (cN.refl hs I) (by rw [pf_cy_0]; exact hB.2.2) (by decide) (by omega) (fun I' a b => zc_Qi.of (hP I' a ⟨a.S hB.S, wOk_year hB.S.ok hB.W hy, b⟩))))
theorem rowC_mv {W : zD} {f g : Nat → Int} (h : rowC W f) (hn : 0 ≤ W 4 0 0 ∧ W 4 0 0 ≤ 40) (e : ∀ j, j < 74 → g j = f j) : rowC W g := by
  obtain ⟨f1, f2, f3, f4, f5⟩ := h
  refine ⟨?_, fun x y z => ⟨?_, ?_⟩, fun x y a1 a2 a3 a4 => ?_, ?_, fun x a1 a2 => ?_⟩
  · exact (e 0 (by decide)).trans f1
  · exact (e _ (by omega)).trans (f2 x y z).1
  · exact (e _ (by omega)).trans (f2 x y z).2
  · exact (e _ (by omega)).trans (f3 x y a1 a2 a3 a4)
  · exact (e 1 (by decide)).trans f4
  · exact (e _ (by omega)).trans (f5 x a1 a2)
theorem sc_beginYear (hW : wOk D W) (hr : rowC W (I 13)) (hP : ∀ I', (∀ i j, i ≠ 14 → I' i j = I i j) → rowC W (I' 14) → P0 I' J) : zc_v (d + 1) 123 [.inr (.inr (some 12))] hf pf I J P0 := by
  refine zc_inv (M := ax_m123) rfl (Nat.le_of_ble_eq_true rfl) (zk_Wall_beginYear_0 hf pf I J (zc_Qv.of (hP _ (fun i j q => ?_) (rowC_mv hr hW.n (fun j hj => ?_)))))
  · unfold ax_cpy; rw [if_neg (by omega)]
  · show ax_cpy I 13 0 14 0 74 14 j = _
    unfold ax_cpy; rw [if_pos (by omega)]
    exact congrArg (I 13) (by omega)
theorem sc_strokes_11 (hW : wOk D W) (hr : rowC W (I 13)) {b : Int} (hb : 0 ≤ b ∧ b < 4) {Q : Option ax_v → ax_S → Prop} : ∀ (n : Nat) (k l : Int), 0 ≤ k → k + n = 6 → zb_W (d + 4) ax_m116 (4, [some (.inr (.inr (some 12))), some (.inl (pf_stK W b n k l)), some (.inl (b + 1)), none], [], zc_S hf pf I J) Q → zb_W (d + 4) ax_m116 (11, [some (.inr (.inr (some 12))), some (.inl l), some (.inl b), some (.inl k)], [], zc_S hf pf I J) Q := by
  intro n
  induction n with
  | zero =>
    intro k l h0 he hQ
    have e : k = 6 := by omega
    subst e
    exact zk_Wall_strokesInAll_11 hf pf I J l b 6 ⟨fun q => absurd q (by decide), fun _ => hQ⟩
  | succ n ih =>
    intro k l h0 he hQ
    refine zk_Wall_strokesInAll_11 hf pf I J l b k ?_
    rw [zb_w (x := k) (by omega) (by omega)]
    exact ⟨fun _ => sc_glyphAt hr hb (by omega) (sc_bitCount (hW.g b k) (ih (k + 1) _ (by omega) (by omega) hQ)), fun c => absurd (show k < 6 by omega) c⟩
theorem sc_strokes_4 (hW : wOk D W) (hr : rowC W (I 13)) {Q : Option ax_v → ax_S → Prop} : ∀ (n : Nat) (b l : Int), 0 ≤ b → b + n = 4 → Q (some (.inl (pf_stB W n b l))) (zc_S hf pf I J) → zb_W (d + 4) ax_m116 (4, [some (.inr (.inr (some 12))), some (.inl l), some (.inl b), none], [], zc_S hf pf I J) Q := by
  intro n
  induction n with
  | zero =>
    intro b l h0 he hQ
    have e : b = 4 := by omega
    subst e
    exact zk_Wall_strokesInAll_4 hf pf I J l 4 ⟨fun q => absurd q (by decide), fun _ => hQ⟩
  | succ n ih =>
    intro b l h0 he hQ
    refine zk_Wall_strokesInAll_4 hf pf I J l b ?_
    rw [zb_w (x := b) (by omega) (by omega)]
    exact ⟨fun _ => sc_strokes_11 hW hr (by omega) 6 0 l (by decide) (by decide) (ih (b + 1) _ (by omega) (by omega) hQ), fun c => absurd (show b < 4 by omega) c⟩
theorem pf_stK_0 {W : zD} {b : Int} (h : ∀ k, W 3 b k = 0) : ∀ (n : Nat) (k l : Int), pf_stK W b n k l = l := by
  intro n
  induction n with
  | zero => intro k l; rfl
  | succ n ih =>
    intro k l
    unfold pf_stK
    rw [ih, h k, show pf_bits 0 = 0 from by rw [show (0 : Int) = ((0 : Nat) : Int) from rfl, pf_bits_bN (by decide)]; rfl, Int.add_zero]
theorem pf_stB_0 {W : zD} : ∀ (n : Nat) (b l : Int), (∀ a, b ≤ a → a < b + n → ∀ k, W 3 a k = 0) → pf_stB W n b l = l := by
  intro n
  induction n with
  | zero => intro b l _; rfl
  | succ n ih =>
    intro b l h
    unfold pf_stB
    rw [pf_stK_0 (h b (Int.le_refl _) (by omega))]
    exact ih _ _ (fun a x y => h a (by omega) (by omega))
theorem pf_stB_add {W : zD} : ∀ (m n : Nat) (b l : Int), pf_stB W (m + n) b l = pf_stB W n (b + m) (pf_stB W m b l) := by
  intro m
  induction m with
  | zero => intro n b l; rw [Nat.zero_add, show b + ((0 : Nat) : Int) = b by omega]; rfl
  | succ m ih =>
    intro n b l
    rw [show m + 1 + n = (m + n) + 1 by omega]
    show pf_stB W (m + n) (b + 1) _ = _
    rw [ih, show b + 1 + (m : Int) = b + ((m + 1 : Nat) : Int) by omega]
    rfl
theorem sc_strokesInAll (ok : zD_ok D pg) (hW : wOk D W) (hr : rowC W (I 13)) (hP : P (pf_stB W (D 6 0 0).toNat 0 0) I J) : zc_i (d + 5) 116 [.inr (.inr (some 12))] hf pf I J P := by
  have h6 := ok.a6 0 0
  refine zc_ini (M := ax_m116) rfl (Nat.le_of_ble_eq_true rfl) (zk_Wall_strokesInAll_0 hf pf I J (sc_strokes_4 hW hr 4 0 0 (by decide) (by decide) (zc_Qi.of ?_)))
  have e : pf_stB W 4 0 0 = pf_stB W (D 6 0 0).toNat 0 0 := by
    have h4 : (4 : Nat) = (D 6 0 0).toNat + (4 - (D 6 0 0).toNat) := by omega
    rw [h4, pf_stB_add]
    exact pf_stB_0 _ _ _ (fun a x y k => (hW.z (by omega) (by omega)).2.2 k)
  rw [e]
  exact hP
theorem sc_begin {y : Int} (hP : ∀ I', (∀ i j, i ≠ 13 → ¬ (i = 12 ∧ (j = 3 ∨ j = 4)) → I' i j = I i j) → (∀ j, j < 74 → I' 13 j = (if j = 0 then y else 0)) → I' 12 3 = 0 → I' 12 4 = 0 → P0 I' J) : zc_v (d + 2) 108 [.inr (.inr (some 12)), .inl y] hf pf I J P0 := by
  refine zc_inv (M := ax_m108) rfl (Nat.le_of_ble_eq_true rfl) (zk_Wall_begin_0 hf pf I J y (sc_fill (by decide) (L := 74) rfl (by decide) (fun I1 hF h1 => ?_)))
  rw [show (ax_w 0).toNat = 0 from rfl]
  refine zc_Qv.of (hP _ (fun i j q1 q2 => ?_) (fun j hj => ?_) ?_ ?_)
  · rw [zu_ne (by omega), zu_ne (by omega), zu_ne (by omega)]; exact hF i j q1
  · rw [zu_ne (by omega), zu_ne (by omega)]
    by_cases e : j = 0
    · rw [if_pos e, e, zu_eq]
    · rw [if_neg e, zu_ne (by omega)]; exact h1 j hj
  · rw [zu_ne (by omega), zu_eq]
  · rw [zu_eq]
theorem rowC_pa1 {W : zD} {f : Nat → Int} (h : rowC W f) (D : zD) (ok : 0 ≤ W 4 0 0 ∧ W 4 0 0 ≤ 40) {b w hd : Int} (hb : 0 ≤ b ∧ b < 4) : rowC (pf_paTo D W b w hd 0) (sr (sr f (42 + b * 8).toNat w) (42 + b * 8 + 1).toNat hd) := by
  obtain ⟨h1, h2, h3, h4, h5⟩ := h
  have o : ∀ (i : Nat) (a c : Int), i ≠ 1 → i ≠ 2 → i ≠ 3 → pf_paTo D W b w hd 0 i a c = W i a c := by
    intro i a c q1 q2 q3
    unfold pf_paTo
    rw [if_neg (fun q => q1 q.2.1), if_neg (fun q => q2 q.2.1), if_neg (fun q => q3 q.2.1)]
  refine ⟨?_, fun x y z => ⟨?_, ?_⟩, fun x y a1 a2 a3 a4 => ?_, ?_, fun x a1 a2 => ?_⟩
  · rw [sr_ne (by omega), sr_ne (by omega), o 0 _ _ (by decide) (by decide) (by decide)]; exact h1
  · by_cases e : x = b
    · subst e
      rw [sr_ne (by omega), sr_eq]
      unfold pf_paTo
      rw [if_pos ⟨rfl, rfl, rfl⟩]
    · rw [sr_ne (by omega), sr_ne (by omega)]
      unfold pf_paTo
      rw [if_neg (fun q => e q.1), if_neg (fun q => e q.1), if_neg (fun q => e q.1)]
      exact (h2 x y z).1
  · by_cases e : x = b
    · subst e
      rw [sr_eq]
      unfold pf_paTo
      rw [if_neg (fun q => absurd q.2.1 (by decide)), if_pos ⟨rfl, rfl, rfl⟩]
    · rw [sr_ne (by omega), sr_ne (by omega)]
      unfold pf_paTo
      rw [if_neg (fun q => e q.1), if_neg (fun q => e q.1), if_neg (fun q => e q.1)]
      exact (h2 x y z).2
  · rw [sr_ne (by omega), sr_ne (by omega)]
    unfold pf_paTo
    rw [if_neg (fun q => absurd q.2.1 (by decide)), if_neg (fun q => absurd q.2.1 (by decide)), if_neg (by omega)]
    exact h3 x y a1 a2 a3 a4
  · rw [sr_ne (by omega), sr_ne (by omega), o 4 _ _ (by decide) (by decide) (by decide)]; exact h4
  · rw [o 4 _ _ (by decide) (by decide) (by decide)] at a2
    rw [sr_ne (by omega), sr_ne (by omega), o 5 _ _ (by decide) (by decide) (by decide), o 5 _ _ (by decide) (by decide) (by decide), o 5 _ _ (by decide) (by decide) (by decide)]; exact h5 x a1 a2
theorem pf_paTo_4 {D W : zD} {b w h K : Int} : pf_paTo D W b w h K 4 0 0 = W 4 0 0 := by
  unfold pf_paTo
  rw [if_neg (fun q => absurd q.2.1 (by decide)), if_neg (fun q => absurd q.2.1 (by decide)), if_neg (fun q => absurd q.2.1 (by decide))]
theorem sc_paintAnew_11 {I0 : zF} (eh : hs = 0 ∨ hs = 1) (ok : zD_ok D pg) (hL0 : cL D hs I0) (hn : 0 ≤ W 4 0 0 ∧ W 4 0 0 ≤ 40) {b w h : Int} (hb : 0 ≤ b ∧ b < 4) (hw : 0 ≤ w ∧ w < D 3 0 0) (hh : 0 ≤ h ∧ h < 2) {Q : Option ax_v → ax_S → Prop} : ∀ (n : Nat) (k : Int) (I : zF), (∀ i j, i ≠ 13 → I i j = I0 i j) → rowC (pf_paTo D W b w h k) (I 13) → 0 ≤ k → k + n = 6 → (∀ I', (∀ i j, i ≠ 13 → I' i j = I0 i j) → rowC (pf_pt D W b w h) (I' 13) → Q none (zc_S hf pf I' J)) → zb_W (d + 4) ax_m109 (11, [some (.inr (.inr (some 12))), some (.inr (.inr (some ((39 + 29 * hs))))), some (.inl b), some (.inl w), some (.inl h), some (.inl k)], [], zc_S hf pf I J) Q := by
  intro n
  induction n with
  | zero =>
    intro k I hF hr h0 he hQ
    have e : k = 6 := by omega
    subst e
    exact zk_Wall_paintAnew_11 hf pf I J b w h 6 hs eh ⟨fun q => absurd q (by decide), fun _ => hQ I hF hr⟩
  | succ n ih =>
    intro k I hF hr h0 he hQ
    have hL : cL D hs I := cL_cong hL0 (fun i j q => by unfold cLk at q; exact hF i j (by omega))
    refine zk_Wall_paintAnew_11 hf pf I J b w h k hs eh ?_
    rw [zb_w (x := k) (by omega) (by omega)]
    refine ⟨fun _ => sc_paintedGlyph eh ok hL hw hh (by omega) (sc_setGlyph hb (by omega) (ih (k + 1) _ (fun i j q => by rw [zu_ne (by omega)]; exact hF i j q) ?_ (by omega) (by omega) hQ)), fun c => absurd (show k < 6 by omega) c⟩
    rw [zu_row, pf_paTo_step]
    exact rowC_set3 hr (by rw [pf_paTo_4]; exact hn) hb (by omega)
theorem sc_paintAnew (eh : hs = 0 ∨ hs = 1) (ok : zD_ok D pg) (hL : cL D hs I) (hn : 0 ≤ W 4 0 0 ∧ W 4 0 0 ≤ 40) (hr : rowC W (I 13)) {b w h : Int} (hb : 0 ≤ b ∧ b < 4) (hw : 0 ≤ w ∧ w < D 3 0 0) (hh : 0 ≤ h ∧ h < 2) (hP : ∀ I', (∀ i j, i ≠ 13 → I' i j = I i j) → rowC (pf_pt D W b w h) (I' 13) → P0 I' J) : zc_v (d + 5) 109 [.inr (.inr (some 12)), .inr (.inr (some ((39 + 29 * hs)))), .inl b, .inl w, .inl h] hf pf I J P0 := by
  refine zc_inv (M := ax_m109) rfl (Nat.le_of_ble_eq_true rfl) (zk_Wall_paintAnew_0 hf pf I J b w h hs (sc_setBoard hb (sc_paintAnew_11 eh ok hL hn hb hw hh 6 0 _ (fun i j q => by rw [zu_ne (by omega), zu_ne (by omega)]) ?_ (by decide) (by decide) (fun I' a b => zc_Qv.of (hP I' a b)))))
  rw [zu_row, zu_row]
  exact rowC_pa1 hr D hn hb
/-! acts that can be undone -/
def uC (D : zD) (U : Nat → zD) (u : Int) (I : zF) : Prop := I 12 3 = u ∧ (0 ≤ u ∧ u ≤ 20) ∧ (0 ≤ I 12 4 ∧ I 12 4 < 20) ∧ ∀ i : Nat, (i : Int) < u → wOk D (U i) ∧ rowC (U i) (I (16 + ((I 12 4 + 19 - i) % 20).toNat))
theorem zc_R15 : ∀ n, n < 20 → zc_R 15 n = some (16 + n) := by decide
theorem zc_K16 : ∀ n, n < 20 → zc_K (16 + n) = (20, 74) := by decide
theorem zc_aal {M : ax_M} {Q : Option ax_v → ax_S → Prop} {pc : Nat} {ls : ax_L} {st : List ax_v} {hq pq : Nat} {x : Int} {n : Nat} (hl : M.2.2.2.2.2.2.lookup pc = some .aaload) (hn : n < 20) (hx : ax_w x = (n : Int)) (k : zb_W d M (pc + 1, ls, .inr (.inr (some (16 + n))) :: st, zc_S hq pq I J) Q) : zb_W d M (pc, ls, .inl x :: .inr (.inr (some 15)) :: st, zc_S hq pq I J) Q := by
  refine zb_1 (g := (0 : Int) ≤ ax_w x ∧ ax_w x < ((20 : Nat) : Int)) ?_ (by rw [hx]; omega) k
  unfold ax_p
  dsimp only
  rw [hl]
  show ax_gg (0 ≤ ax_w x ∧ ax_w x < ((20 : Nat) : Int)) (pc + 1) ls (.inr (.inr (zc_Rh hq pq 15 (ax_w x).toNat)) :: st) (zc_S hq pq I J) = _
  have e : zc_Rh hq pq 15 (ax_w x).toNat = some (16 + n) := by
    rw [hx, Int.toNat_natCast]
    unfold zc_Rh
    rw [if_neg (by omega), if_neg (by omega), if_neg (by omega)]
    exact zc_R15 n hn
  rw [e]
  rfl
theorem zc_acp {M : ax_M} {Q : Option ax_v → ax_S → Prop} {pc idx : Nat} {nest : Bool} {ls : ax_L} {st : List ax_v} {hq pq : Nat} {n dp sp : Int} {a0 a1 L0 L1 : Nat} (hl : M.2.2.2.2.2.2.lookup pc = some (.invokestatic idx)) (hm : ax_mr M.1 idx = some (9001, nest)) (h0 : a0 < 97) (h1 : a1 < 97) (k0 : zc_K a0 = (20, L0)) (k1 : zc_K a1 = (20, L1)) (hc : Nat.ble (ax_cats st) 8 = true) (hg : 0 ≤ ax_w sp ∧ 0 ≤ ax_w dp ∧ 0 ≤ ax_w n ∧ ax_w sp + ax_w n ≤ ((L0 : Nat) : Int) ∧ ax_w dp + ax_w n ≤ ((L1 : Nat) : Int)) (k : zb_W d M (pc + 3, ls, st, zc_S hq pq (ax_cpy I a0 (ax_w sp).toNat a1 (ax_w dp).toNat (ax_w n).toNat) J) Q) : zb_W d M (pc, ls, .inl n :: .inl dp :: .inr (.inr (some a1)) :: .inl sp :: .inr (.inr (some a0)) :: st, zc_S hq pq I J) Q := by
  refine zb_1 (g := 0 ≤ ax_w sp ∧ 0 ≤ ax_w dp ∧ 0 ≤ ax_w n ∧ ax_w sp + ax_w n ≤ ((L0 : Nat) : Int) ∧ ax_w dp + ax_w n ≤ ((L1 : Nat) : Int)) ?_ hg k
  unfold ax_p
  dsimp only
  rw [hl]
  show ax_inv M.1 2 idx pc ls (.inl n :: .inl dp :: .inr (.inr (some a1)) :: .inl sp :: .inr (.inr (some a0)) :: st) (zc_S hq pq I J) = _
  unfold ax_inv
  rw [hm]
  show ax_acp pc ls (.inl n :: .inl dp :: .inr (.inr (some a1)) :: .inl sp :: .inr (.inr (some a0)) :: st) (zc_S hq pq I J) = _
  unfold ax_acp
  dsimp only
  have e : (Nat.blt a0 (zc_S hq pq I J).1 && Nat.beq (ax_K (zc_S hq pq I J) a0).1 20 && Nat.blt a1 (zc_S hq pq I J).1 && Nat.beq (ax_K (zc_S hq pq I J) a1).1 20 && Nat.ble (ax_cats st) 8) = true := by
    show (Nat.blt a0 97 && Nat.beq (zc_K a0).1 20 && Nat.blt a1 97 && Nat.beq (zc_K a1).1 20 && Nat.ble (ax_cats st) 8) = true
    rw [k0, k1, hc, Nat.blt_eq.mpr h0, Nat.blt_eq.mpr h1]
    rfl
  rw [e]
  show ax_gg (0 ≤ ax_w sp ∧ 0 ≤ ax_w dp ∧ 0 ≤ ax_w n ∧ ax_w sp + ax_w n ≤ (((zc_K a0).2 : Nat) : Int) ∧ ax_w dp + ax_w n ≤ (((zc_K a1).2 : Nat) : Int)) (pc + 3) ls st (zc_S hq pq (ax_cpy I a0 (ax_w sp).toNat a1 (ax_w dp).toNat (ax_w n).toNat) J) = _
  rw [k0, k1]
  rfl
end ZC6
