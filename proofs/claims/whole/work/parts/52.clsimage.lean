/-! THE CLASS: images -/
def oC (l : List Int) (I : zF) : Prop := I 36 1 = (l.length : Int) ∧ ∀ q, q < l.length → I 37 q = l.getD q 0
theorem rowC_c {W W' : zD} {f : Nat → Int} (h : rowC W f) (h0 : W' 0 0 0 = W 0 0 0) (h1 : ∀ b, 0 ≤ b → b < 4 → W' 1 b 0 = W 1 b 0 ∧ W' 2 b 0 = W 2 b 0) (h3 : ∀ b k, 0 ≤ b → b < 4 → 0 ≤ k → k < 6 → W' 3 b k = W 3 b k) (h4 : W' 4 0 0 = W 4 0 0) (h5 : ∀ k, 0 ≤ k → k < W 4 0 0 → W' 5 k 0 = W 5 k 0 ∧ W' 5 k 1 = W 5 k 1 ∧ W' 5 k 2 = W 5 k 2) : rowC W' f := by
  obtain ⟨f1, f2, f3, f4, f5⟩ := h
  refine ⟨by rw [h0]; exact f1, fun x y z => by rw [(h1 x y z).1, (h1 x y z).2]; exact f2 x y z, fun x y a b c e => by rw [h3 x y a b c e]; exact f3 x y a b c e, by rw [h4]; exact f4, fun x a b => ?_⟩
  rw [h4] at b
  rw [(h5 x a b).1, (h5 x a b).2.1, (h5 x a b).2.2]
  exact f5 x a b
def z00 : zD := fun _ _ _ => 0
section ZCA
variable {d hf pf hs : Nat} {I J : zF} {D : zD} {pg : zG} {W : zD} {T : Nat → Int} {n : Int} {P : Int → zF → zF → Prop} {P0 : zF → zF → Prop}
def cI (I I' : zF) : Prop := ∀ i j, i ≠ 36 → i ≠ 37 → I' i j = I i j
theorem cI.trans {I I' I2 : zF} (h : cI I I') (h2 : cI I' I2) : cI I I2 := fun i j a b => (h2 i j a b).trans (h i j a b)
theorem cI.B (eh : hs = 0 ∨ hs = 1) {I I' : zF} (h : cI I I') (hB : cB D pg W hs I) : cB D pg W hs I' := by
  refine ⟨cS_cong hB.S (fun i j q => by unfold cLk at q; exact h i j (by omega) (by omega)) (h _ _ (by omega) (by omega)) (fun j => h _ _ (by omega) (by omega)) (h _ _ (by omega) (by omega)) (fun j => h _ _ (by omega) (by omega)), hB.W, ?_⟩
  rw [show I' 13 = I 13 from funext (fun j => h 13 j (by omega) (by omega))]
  exact hB.2.2
theorem sc_add {l : List Int} (hl : oC l I) (hc : I 36 2 = pf_ck l) (h59 : l.length < 59) {v : Int} (hv : 0 ≤ v ∧ v ≤ 255) (hP : ∀ I', cI I I' → oC (l ++ [v]) I' → I' 36 2 = pf_ck (l ++ [v]) → P0 I' J) : zc_v (d + 2) 30 [.inr (.inr (some 36)), .inl v] hf pf I J P0 := by
  obtain ⟨h1, h2⟩ := hl
  have hck := pf_ck_in l
  refine zc_inv (M := ax_m30) rfl (Nat.le_of_ble_eq_true rfl) (zk_Image_add_0 hf pf I J v ?_)
  rw [h1, zb_w (x := (l.length : Int)) (by omega) (by omega), show ax_w 59 = 59 from rfl, Int.toNat_natCast]
  refine ⟨fun _ => ⟨by omega, zc_ini (M := ax_m31) rfl (Nat.le_of_ble_eq_true rfl) (zk_Image_nextCheck_0 hf pf _ J _ v ?_)⟩, fun c => by omega⟩
  rw [zu_ne (i := 36) (j := 1) (b := 2) (by omega), zu_ne (i := 37) (a := 36) (by omega), zu_ne (i := 37) (a := 36) (b := 1) (by omega), hc, h1, zb_w (x := 3 * pf_ck l + v) (by omega) (by omega), show ax_w 251 = 251 from rfl, Int.tmod_eq_emod_of_nonneg (by omega), ← pf_ck_app]
  refine zc_Qi.of (zc_Qv.of (hP _ (fun i j a b => ?_) ⟨?_, fun q hq => ?_⟩ zu_eq))
  · rw [zu_ne (by omega), zu_ne (by omega), zu_ne (by omega)]
  · rw [zu_ne (by omega), zu_eq, List.length_append, List.length_singleton]; omega
  · rw [List.length_append, List.length_singleton] at hq
    rw [getD_app, zu_ne (by omega), zu_ne (by omega)]
    by_cases e : q < l.length
    · rw [if_pos e, zu_ne (by omega)]; exact h2 q e
    · have e2 : q = l.length := by omega
      rw [if_neg e, if_pos e2, e2, zu_eq]
theorem shr8 {v : Int} (hv : 0 ≤ v ∧ v ≤ 65535) : ax_shr v 8 = v / 256 := by
  obtain ⟨a, rfl⟩ := Int.eq_ofNat_of_zero_le hv.1
  have := bo_shr (a := a) (i := 8) (by omega) (by decide)
  rw [show ((8 : Nat) : Int) = 8 from rfl] at this
  rw [this]
  have : (2 : Nat) ^ 8 = 256 := rfl
  rw [this]
  omega
theorem sc_addPair {l : List Int} (hl : oC l I) (hc : I 36 2 = pf_ck l) (h59 : l.length < 58) {v : Int} (hv : 0 ≤ v ∧ v ≤ 65535) (hP : ∀ I', cI I I' → oC (l ++ [v / 256] ++ [v % 256]) I' → I' 36 2 = pf_ck (l ++ [v / 256] ++ [v % 256]) → P0 I' J) : zc_v (d + 3) 29 [.inr (.inr (some 36)), .inl v] hf pf I J P0 := by
  refine zc_inv (M := ax_m29) rfl (Nat.le_of_ble_eq_true rfl) (zk_Image_addPair_0 hf pf I J v ?_)
  rw [shr8 hv, and255_eq]
  exact sc_add hl hc (by omega) (by omega) (fun I1 f1 o1 c1 => sc_add o1 c1 (by rw [List.length_append, List.length_singleton]; omega) (by omega) (fun I2 f2 o2 c2 => zc_Qv.of (hP I2 (f1.trans f2) o2 c2)))
theorem sc_write_51 {I0 : zF} (eh : hs = 0 ∨ hs = 1) (hB0 : cB D pg W hs I0) {b : Int} (hb : 0 ≤ b ∧ b < 4) {Q : Option ax_v → ax_S → Prop} : ∀ (m : Nat) (k : Int) (l : List Int) (I : zF), cI I0 I → oC l I → I 36 2 = pf_ck l → 0 ≤ k → k + m = 6 → l.length + 2 * m ≤ 58 → (∀ I', cI I0 I' → oC (pf_imK W b m k l) I' → I' 36 2 = pf_ck (pf_imK W b m k l) → zb_W (d + 4) ax_m28 (22, [some (.inr (.inr (some 36))), some (.inr (.inr (some 12))), some (.inr (.inr (some ((39 + 29 * hs))))), some (.inl (b + 1)), none], [], zc_S hf pf I' J) Q) → zb_W (d + 4) ax_m28 (51, [some (.inr (.inr (some 36))), some (.inr (.inr (some 12))), some (.inr (.inr (some ((39 + 29 * hs))))), some (.inl b), some (.inl k)], [], zc_S hf pf I J) Q := by
  intro m
  induction m with
  | zero =>
    intro k l I hF ho hc h0 he hl hQ
    have e : k = 6 := by omega
    subst e
    exact zk_Image_write_51 hf pf I J b 6 hs ⟨fun q => absurd q (by decide), fun _ => hQ I hF ho hc⟩
  | succ m ih =>
    intro k l I hF ho hc h0 he hl hQ
    have hB := hF.B eh hB0
    have hg := hB.W.g b k
    have hg1 := hg.1
    have hg2 := hg.2
    refine zk_Image_write_51 hf pf I J b k hs ?_
    rw [zb_w (x := k) (by omega) (by omega)]
    exact ⟨fun _ => sc_glyphAt hB.2.2 hb (by omega) (sc_addPair ho hc (by omega) (by omega) (fun I1 h1 o1 c1 => ih (k + 1) _ I1 (hF.trans h1) o1 c1 (by omega) (by omega) (by rw [List.length_append, List.length_append, List.length_singleton, List.length_singleton]; omega) hQ)), fun c => absurd (show k < 6 by omega) c⟩
theorem sc_write_22 {I0 : zF} (eh : hs = 0 ∨ hs = 1) (hB0 : cB D pg W hs I0) {Q : Option ax_v → ax_S → Prop} : ∀ (m : Nat) (b : Int) (l : List Int) (I : zF), cI I0 I → oC l I → I 36 2 = pf_ck l → 0 ≤ b → b + m = D 6 0 0 → l.length + 14 * m ≤ 58 → (∀ I', cI I0 I' → oC (pf_imB W m b l ++ [pf_ck (pf_imB W m b l)]) I' → Q (some (.inl ((pf_imB W m b l).length + 1))) (zc_S hf pf I' J)) → zb_W (d + 4) ax_m28 (22, [some (.inr (.inr (some 36))), some (.inr (.inr (some 12))), some (.inr (.inr (some ((39 + 29 * hs))))), some (.inl b), none], [], zc_S hf pf I J) Q := by
  have h6 := hB0.S.ok.a6 0 0
  have h3 := hB0.S.ok.a3 0 0
  intro m
  induction m with
  | zero =>
    intro b l I hF ho hc h0 he hl hQ
    have hB := hF.B eh hB0
    have hck := pf_ck_in l
    refine zk_Image_write_22 hf pf I J b hs eh ?_
    rw [hB.S.L.bn, zb_w (x := b) (by omega) (by omega), zb_w (x := D 6 0 0) (by omega) (by omega), hc]
    refine ⟨fun c => by omega, fun _ => sc_add ho hc (by omega) (by omega) (fun I1 h1 o1 _ => ?_)⟩
    have o4 := o1.1
    rw [List.length_append, List.length_singleton] at o4
    rw [o4]
    exact hQ I1 (hF.trans h1) o1
  | succ m ih =>
    intro b l I hF ho hc h0 he hl hQ
    have hB := hF.B eh hB0
    have hb : 0 ≤ b ∧ b < D 6 0 0 := by omega
    have hw := hB.W.w hb
    have hh := hB.W.h hb
    refine zk_Image_write_22 hf pf I J b hs eh ?_
    rw [hB.S.L.bn, zb_w (x := b) (by omega) (by omega), zb_w (x := D 6 0 0) (by omega) (by omega)]
    exact ⟨fun _ => sc_wordOf hB.2.2 (by omega) (sc_add ho hc (by omega) (by omega) (fun I1 h1 o1 c1 => sc_handOf (h1.B eh hB).2.2 (by omega) (sc_add o1 c1 (by rw [List.length_append, List.length_singleton]; omega) (by omega) (fun I2 h2 o2 c2 => sc_write_51 eh ((h1.trans h2).B eh hB) (by omega) 6 0 _ I2 (fun _ _ _ _ => rfl) o2 c2 (by decide) (by decide) (by rw [List.length_append, List.length_append, List.length_singleton, List.length_singleton]; omega) (fun I3 h3' o3 c3 => ih (b + 1) _ I3 (hF.trans ((h1.trans h2).trans h3')) o3 c3 (by omega) (by omega) (by rw [pf_imK_len, List.length_append, List.length_append, List.length_singleton, List.length_singleton]; omega) hQ))))), fun c => by omega⟩
theorem sc_image (eh : hf = 0 ∨ hf = 1) (hB : cB D pg W hf I) (hP : ∀ I', cI I I' → oC (pf_im D W) I' → P ((pf_im D W).length : Int) I' J) : zc_i (d + 6) 156 [.inr (.inr (some 0))] hf pf I J P := by
  have h6 := hB.S.ok.a6 0 0
  have hy := hB.W.y
  refine zc_ini (M := ax_m156) rfl (Nat.le_of_ble_eq_true rfl) (zk_Top_image_0 hf pf I J (zc_ini (M := ax_m28) rfl (Nat.le_of_ble_eq_true rfl) (zk_Image_write_0 hf pf I J hf ?_)))
  have hO : cI I (ax_u (ax_u I 36 1 0) 36 2 223) := fun i j a b => by rw [zu_ne (by omega), zu_ne (by omega)]
  refine sc_yearNow (W := W) (by rw [zu_ne (by omega), zu_ne (by omega)]; exact hB.y) (sc_addPair (l := []) ⟨by rw [zu_ne (by omega), zu_eq]; rfl, fun q hq => absurd hq (Nat.not_lt_zero _)⟩ zu_eq (by decide) (by omega) (fun I1 h1 o1 c1 => sc_write_22 eh ((hO.trans h1).B eh hB) (D 6 0 0).toNat 0 _ I1 (fun _ _ _ _ => rfl) o1 c1 (by decide) (by omega) ?_ (fun I2 h2 o2 => zc_Qi.of (zc_Qi.of ?_))))
  · rw [List.length_append, List.length_append, List.length_singleton, List.length_singleton, List.length_nil]; omega
  · have := hP I2 ((hO.trans h1).trans h2) o2
    unfold pf_im at this
    rw [List.length_append, List.length_singleton] at this
    exact this
theorem sc_octet {l : List Int} (hl : oC l I) (h59 : l.length ≤ 59) {k : Int} (hk : n32 k) (hP : P (if 0 ≤ k ∧ k < (l.length : Int) then l.getD k.toNat 0 else -1) I J) : zc_i (d + 2) 157 [.inr (.inr (some 0)), .inl k] hf pf I J P := by
  obtain ⟨h1, h2⟩ := hl
  refine zc_ini (M := ax_m157) rfl (Nat.le_of_ble_eq_true rfl) (zk_Top_octet_0 hf pf I J k (zc_ini (M := ax_m32) rfl (Nat.le_of_ble_eq_true rfl) (zk_Image_byteAt_0 hf pf I J k ?_)))
  rw [h1, hk.w, zb_w (x := (l.length : Int)) (by omega) (by omega), show ax_w 0 = 0 from rfl]
  refine ⟨fun c => zc_Qi.of (zc_Qi.of ?_), fun c => ⟨fun c2 => ⟨by omega, zc_Qi.of (zc_Qi.of ?_)⟩, fun c2 => zc_Qi.of (zc_Qi.of ?_)⟩⟩
  · rwa [if_neg (by omega)] at hP
  · rw [h2 k.toNat (by omega)]; rwa [if_pos (by omega)] at hP
  · rwa [if_neg (by omega)] at hP
/-! on -/
theorem sc_pairAt (hT : tC T n I) {k : Int} (hk : 0 ≤ k ∧ k + 1 < n) (hP : P (pf_t2 T k) I J) : zc_i (d + 2) 35 [.inr (.inr (some 1)), .inl k] hf pf I J P := by
  have hn := hT.2.1
  refine zc_ini (M := ax_m35) rfl (Nat.le_of_ble_eq_true rfl) (zk_Image_pairAt_0 hf pf I J k (sc_at hT ⟨by omega, by omega⟩ (sc_at hT ⟨by omega, by omega⟩ (zc_Qi.of ?_))))
  rw [if_pos (by omega), if_pos (by omega)]
  unfold pf_t2 at hP
  rw [show T k.toNat * 256 = 256 * T k.toNat by omega]
  exact hP
theorem pf_t2_in' (hT : tC T n I) {k : Int} (hk : 0 ≤ k ∧ k + 1 < n) : 0 ≤ pf_t2 T k ∧ pf_t2 T k ≤ 65535 := by
  have h1 := (hT.2.2 k.toNat (by omega)).2
  have h2 := (hT.2.2 (k + 1).toNat (by omega)).2
  unfold pf_t2
  omega
theorem sc_boardFits_46 (eh : hs = 0 ∨ hs = 1) (hS : cS D pg hs I) (hT : tC T n I) {p w : Int} (hp : 0 ≤ p ∧ p + 14 ≤ n) (hw : T p.toNat = w) (hw2 : 0 ≤ w ∧ w < D 3 0 0) {Q : Option ax_v → ax_S → Prop} : ∀ (m : Nat) (k : Int), 0 ≤ k → k + m = 6 → Q (some (.inl (pf_btL D T p m k))) (zc_S hf pf I J) → zb_W (d + 4) ax_m34 (46, [some (.inr (.inr (some 1))), some (.inl p), some (.inr (.inr (some ((39 + 29 * hs))))), some (.inl w), none, some (.inl k), none], [], zc_S hf pf I J) Q := by
  have hn := hT.2.1
  have h4 := hS.ok.a4 w 0
  intro m
  induction m with
  | zero =>
    intro k h0 he hQ
    have e : k = 6 := by omega
    subst e
    exact zk_Image_boardFits_46 hf pf I J p w 6 hs eh ⟨fun q => absurd q (by decide), fun _ => hQ⟩
  | succ m ih =>
    intro k h0 he hQ
    have ht2 := pf_t2_in' hT (k := p + 2 + 2 * k) (by omega)
    refine zk_Image_boardFits_46 hf pf I J p w k hs eh ?_
    rw [zb_w (x := k) (by omega) (by omega)]
    refine ⟨fun _ => sc_sizeOf eh hS.ok hS.L hw2 ?_, fun c => absurd (show k < 6 by omega) c⟩
    rw [zb_w (x := D 4 w 0) (by omega) (by omega)]
    refine ⟨fun c => sc_pairAt hT (by omega) ?_, fun c => sc_pairAt hT (by omega) ?_⟩
    · rw [zb_w (x := pf_t2 T (p + 2 + 2 * k)) (by omega) (by omega), show ax_w 32767 = 32767 from rfl]
      refine ⟨fun c2 => ?_, fun c2 => ih (k + 1) (by omega) (by omega) ?_⟩
      · have e : pf_btL D T p (m + 1) k = 0 := if_neg (by rw [hw, if_pos c]; omega)
        rw [e] at hQ; exact hQ
      · have e : pf_btL D T p (m + 1) k = pf_btL D T p m (k + 1) := if_pos (by rw [hw, if_pos c]; omega)
        rw [e] at hQ; exact hQ
    · rw [zb_w (x := pf_t2 T (p + 2 + 2 * k)) (by omega) (by omega), show ax_w 0 = 0 from rfl]
      refine ⟨fun c2 => ?_, fun c2 => ih (k + 1) (by omega) (by omega) ?_⟩
      · have e : pf_btL D T p (m + 1) k = 0 := if_neg (by rw [hw, if_neg c]; omega)
        rw [e] at hQ; exact hQ
      · have e : pf_btL D T p (m + 1) k = pf_btL D T p m (k + 1) := if_pos (by rw [hw, if_neg c]; omega)
        rw [e] at hQ; exact hQ
theorem sc_boardFits (eh : hs = 0 ∨ hs = 1) (hS : cS D pg hs I) (hT : tC T n I) {p : Int} (hp : 0 ≤ p ∧ p + 14 ≤ n) (hP : P (pf_bt D T p) I J) : zc_i (d + 5) 34 [.inr (.inr (some 1)), .inl p, .inr (.inr (some ((39 + 29 * hs))))] hf pf I J P := by
  have hn := hT.2.1
  have t0 := (hT.2.2 p.toNat (by omega)).2
  have t1 := (hT.2.2 (p + 1).toNat (by omega)).2
  unfold pf_bt at hP
  refine zc_ini (M := ax_m34) rfl (Nat.le_of_ble_eq_true rfl) (zk_Image_boardFits_0 hf pf I J p hs eh (sc_at hT ⟨by omega, by omega⟩ (sc_at hT ⟨by omega, by omega⟩ ?_)))
  rw [if_pos (by omega), if_pos (by omega)]
  refine sc_holdsWord eh hS.ok hS.L (lt32 (by omega)) (bc (fun q => sc_isHand (lt32 (by omega)) (bc (fun q2 => sc_canPaint eh hS.ok hS.L q (by omega) (b01 (pf_can01 D _ _ _ _) (fun e => ?_) (fun e => zc_Qi.of ?_))) (fun q2 => zc_Qi.of (by rwa [if_neg (fun r => q2 r.2.1)] at hP)))) (fun q => zc_Qi.of (by rwa [if_neg (fun r => q r.1)] at hP)))
  · have e' : pf_canPaint D (T p.toNat) (T (p + 1).toNat) = 1 := e
    rw [if_pos ⟨q, q2, e'⟩] at hP
    exact sc_boardFits_46 eh hS hT hp rfl q 6 0 (by decide) (by decide) (zc_Qi.of hP)
  · have e' : pf_canPaint D (T p.toNat) (T (p + 1).toNat) = 0 := e
    rwa [if_neg (by omega)] at hP
theorem sc_fits_82 (eh : hs = 0 ∨ hs = 1) (hS : cS D pg hs I) (hT : tC T n I) (hn3 : n = 3 + 14 * D 6 0 0) {Q : Option ax_v → ax_S → Prop} : ∀ (m : Nat) (b : Int), 0 ≤ b → b + m = D 6 0 0 → Q (some (.inl (pf_imL D T m b))) (zc_S hf pf I J) → zb_W (d + 5) ax_m33 (82, [some (.inr (.inr (some 1))), some (.inr (.inr (some ((39 + 29 * hs))))), none, none, some (.inl 1), some (.inl b)], [], zc_S hf pf I J) Q := by
  have h6 := hS.ok.a6 0 0
  intro m
  induction m with
  | zero =>
    intro b h0 he hQ
    refine zk_Image_fits_82 hf pf I J 1 b hs eh ?_
    rw [hS.L.bn, zb_w (x := b) (by omega) (by omega), zb_w (x := D 6 0 0) (by omega) (by omega)]
    exact ⟨fun c => by omega, fun _ => ⟨Or.inr rfl, hQ⟩⟩
  | succ m ih =>
    intro b h0 he hQ
    unfold pf_imL at hQ
    refine zk_Image_fits_82 hf pf I J 1 b hs eh ?_
    rw [hS.L.bn, zb_w (x := b) (by omega) (by omega), zb_w (x := D 6 0 0) (by omega) (by omega), show 2 + b * 14 = 2 + 14 * b by omega]
    refine ⟨fun _ => b1 (sc_boardFits eh hS hT (by omega) ?_), fun c => by omega⟩
    rcases pf_bt01 D T (2 + 14 * b) with e | e
    · rw [e]
      rw [if_neg (by omega)] at hQ
      refine zk_Image_fits_82 hf pf I J 0 (b + 1) hs eh ?_
      exact ⟨fun _ => b0 ⟨Or.inl rfl, hQ⟩, fun _ => ⟨Or.inl rfl, hQ⟩⟩
    · rw [e]
      rw [if_pos e] at hQ
      exact ih (b + 1) (by omega) (by omega) hQ
theorem sc_fits_40 (eh : hs = 0 ∨ hs = 1) (hT : tC T n I) {l : Int} (hl : 0 ≤ l ∧ l + 1 = n) {Q : Option ax_v → ax_S → Prop} : ∀ (m : Nat) (k c : Int), 0 ≤ c ∧ c ≤ 250 → 0 ≤ k → k + m = l → (T l.toNat = pf_ckT T m k c → zb_W (d + 4) ax_m33 (82, [some (.inr (.inr (some 1))), some (.inr (.inr (some ((39 + 29 * hs))))), none, none, some (.inl 1), some (.inl 0)], [], zc_S hf pf I J) Q) → (T l.toNat ≠ pf_ckT T m k c → zb_W (d + 4) ax_m33 (82, [some (.inr (.inr (some 1))), some (.inr (.inr (some ((39 + 29 * hs))))), none, none, some (.inl 0), some (.inl 0)], [], zc_S hf pf I J) Q) → zb_W (d + 4) ax_m33 (40, [some (.inr (.inr (some 1))), some (.inr (.inr (some ((39 + 29 * hs))))), some (.inl l), some (.inl c), some (.inl k), none], [], zc_S hf pf I J) Q := by
  have hn := hT.2.1
  intro m
  induction m with
  | zero =>
    intro k c hc h0 he hQ1 hQ0
    have tl := (hT.2.2 l.toNat (by omega)).2
    refine zk_Image_fits_40 hf pf I J l c k hs ?_
    rw [zb_w (x := k) (by omega) (by omega), zb_w (x := l) (by omega) (by omega)]
    refine ⟨fun q => by omega, fun _ => sc_at hT ⟨by omega, by omega⟩ ?_⟩
    rw [if_pos (by omega), zb_w (x := T l.toNat) (by omega) (by omega), zb_w (x := c) (by omega) (by omega)]
    exact ⟨fun e => hQ1 e, fun e => hQ0 e⟩
  | succ m ih =>
    intro k c hc h0 he hQ1 hQ0
    have tk := (hT.2.2 k.toNat (by omega)).2
    refine zk_Image_fits_40 hf pf I J l c k hs ?_
    rw [zb_w (x := k) (by omega) (by omega), zb_w (x := l) (by omega) (by omega)]
    refine ⟨fun _ => sc_at hT ⟨by omega, by omega⟩ (zc_ini (M := ax_m31) rfl (Nat.le_of_ble_eq_true rfl) (zk_Image_nextCheck_0 hf pf I J c _ ?_)), fun q => by omega⟩
    rw [if_pos (by omega), zb_w (x := 3 * c + T k.toNat) (by omega) (by omega), show ax_w 251 = 251 from rfl, Int.tmod_eq_emod_of_nonneg (by omega)]
    exact zc_Qi.of (ih (k + 1) _ (by omega) (by omega) (by omega) hQ1 hQ0)
theorem sc_fits (eh : hs = 0 ∨ hs = 1) (hS : cS D pg hs I) (hT : tC T n I) (hP : P (pf_isI D T n) I J) : zc_i (d + 6) 33 [.inr (.inr (some 1)), .inr (.inr (some ((39 + 29 * hs))))] hf pf I J P := by
  have h6 := hS.ok.a6 0 0
  have hn := hT.2.1
  unfold pf_isI at hP
  refine zc_ini (M := ax_m33) rfl (Nat.le_of_ble_eq_true rfl) (zk_Image_fits_0 hf pf I J hs eh (sc_length hT ?_))
  rw [hS.L.bn, zb_w (x := n) (by omega) (by omega), zb_w (x := 2 + D 6 0 0 * 14 + 1) (by omega) (by omega)]
  refine ⟨fun e => sc_pairAt hT (by omega) ?_, fun e => zc_Qi.of (by rwa [if_neg (fun r => e (by omega))] at hP)⟩
  have ht2 := pf_t2_in' hT (k := 0) (by omega)
  rw [zb_w (x := pf_t2 T 0) (by omega) (by omega), show ax_w 999 = 999 from rfl]
  refine ⟨fun c => zc_Qi.of (by rwa [if_neg (by omega)] at hP), fun c => sc_fits_40 (l := 2 + D 6 0 0 * 14) eh hT (by omega) (2 + D 6 0 0 * 14).toNat 0 223 ⟨by decide, by decide⟩ (by decide) (by omega) (fun e2 => ?_) (fun e2 => ?_)⟩
  · rw [if_pos ⟨by omega, by rw [show n - 1 = 2 + D 6 0 0 * 14 by omega]; exact e2, by omega⟩] at hP
    exact sc_fits_82 eh hS hT (by omega) (D 6 0 0).toNat 0 (by decide) (by omega) (zc_Qi.of hP)
  · rw [if_neg (fun r => e2 (by have := r.2.1; rw [show n - 1 = 2 + D 6 0 0 * 14 by omega] at this; exact this))] at hP
    refine zk_Image_fits_82 hf pf I J 0 0 hs eh ?_
    exact ⟨fun _ => b0 ⟨Or.inl rfl, zc_Qi.of hP⟩, fun _ => ⟨Or.inl rfl, zc_Qi.of hP⟩⟩
theorem sc_restore_49 {I0 : zF} (hT : tC T n I0) (hn3 : n = 3 + 14 * D 6 0 0) (h6 : 0 ≤ D 6 0 0 ∧ D 6 0 0 ≤ 4) {b : Int} (hb : 0 ≤ b ∧ b < D 6 0 0) {Q : Option ax_v → ax_S → Prop} : ∀ (m : Nat) (k : Int) (I : zF), (∀ i j, i ≠ 13 → I i j = I0 i j) → rowC (pf_onTo D T z00 b k) (I 13) → 0 ≤ k → k + m = 6 → (∀ I', (∀ i j, i ≠ 13 → I' i j = I0 i j) → rowC (pf_onTo D T z00 b 6) (I' 13) → zb_W (d + 3) ax_m36 (11, [some (.inr (.inr (some 1))), some (.inr (.inr (some 12))), some (.inr (.inr (some ((39 + 29 * hs))))), some (.inl (b + 1)), none, none], [], zc_S hf pf I' J) Q) → zb_W (d + 3) ax_m36 (49, [some (.inr (.inr (some 1))), some (.inr (.inr (some 12))), some (.inr (.inr (some ((39 + 29 * hs))))), some (.inl b), some (.inl (2 + b * 14)), some (.inl k)], [], zc_S hf pf I J) Q := by
  have hn := hT.2.1
  intro m
  induction m with
  | zero =>
    intro k I hF hr h0 he hQ
    have e : k = 6 := by omega
    subst e
    exact zk_Image_restore_49 hf pf I J b _ 6 hs ⟨fun q => absurd q (by decide), fun _ => hQ I hF hr⟩
  | succ m ih =>
    intro k I hF hr h0 he hQ
    have hT1 : tC T n I := ⟨by rw [hF 1 1 (by decide)]; exact hT.1, hT.2.1, fun j hj => by rw [hF 2 j (by decide)]; exact hT.2.2 j hj⟩
    refine zk_Image_restore_49 hf pf I J b _ k hs ?_
    rw [zb_w (x := k) (by omega) (by omega), show 2 + b * 14 + 2 + 2 * k = 4 + 14 * b + 2 * k by omega]
    refine ⟨fun _ => sc_pairAt hT1 (by omega) (sc_setGlyph (by omega) (by omega) (ih (k + 1) _ (fun i j q => by rw [zu_ne (by omega)]; exact hF i j q) ?_ (by omega) (by omega) hQ)), fun c => absurd (show k < 6 by omega) c⟩
    rw [zu_row]
    refine rowC_c (rowC_set3 hr (by rw [on4]; exact ⟨by decide, by decide⟩) (b := b) (k := k) (v := pf_t2 T (4 + 14 * b + 2 * k)) (by omega) (by omega)) ?_ (fun x q1 q2 => ?_) (fun x y q1 q2 q3 q4 => ?_) ?_ (fun x _ _ => ?_)
    · rw [wu_ne (by omega)]; rfl
    · rw [wu_ne (by omega), wu_ne (by omega), on1, on1, on2, on2]
      exact ⟨ic (by omega), ic (by omega)⟩
    · by_cases e : x = b ∧ y = k
      · obtain ⟨rfl, rfl⟩ := e
        rw [wu_eq, on3, if_pos (by omega)]
      · rw [wu_ne (by omega), on3, on3]
        exact ic (by omega)
    · rw [wu_ne (by omega), on4, on4]
    · rw [wu_ne (by omega), wu_ne (by omega), wu_ne (by omega), on5, on5, on5, on5, on5, on5]
      exact ⟨rfl, rfl, rfl⟩
theorem sc_restore_11 {I0 : zF} (eh : hs = 0 ∨ hs = 1) (hT : tC T n I0) (hn3 : n = 3 + 14 * D 6 0 0) (hS0 : cS D pg hs I0) {Q : Option ax_v → ax_S → Prop} : ∀ (m : Nat) (b : Int) (I : zF), (∀ i j, i ≠ 13 → I i j = I0 i j) → rowC (pf_onTo D T z00 b (-1)) (I 13) → 0 ≤ b → b + m = D 6 0 0 → (∀ I', (∀ i j, i ≠ 13 → I' i j = I0 i j) → rowC (pf_onTo D T z00 (D 6 0 0) (-1)) (I' 13) → Q none (zc_S hf pf I' J)) → zb_W (d + 3) ax_m36 (11, [some (.inr (.inr (some 1))), some (.inr (.inr (some 12))), some (.inr (.inr (some ((39 + 29 * hs))))), some (.inl b), none, none], [], zc_S hf pf I J) Q := by
  have h6 := hS0.ok.a6 0 0
  have hn := hT.2.1
  intro m
  induction m with
  | zero =>
    intro b I hF hr h0 he hQ
    have e : b = D 6 0 0 := by omega
    refine zk_Image_restore_11 hf pf I J b hs eh ?_
    rw [hF _ _ (by omega), hS0.L.bn, zb_w (x := b) (by omega) (by omega), zb_w (x := D 6 0 0) (by omega) (by omega)]
    rw [e] at hr
    exact ⟨fun c => by omega, fun _ => hQ I hF hr⟩
  | succ m ih =>
    intro b I hF hr h0 he hQ
    have hT1 : tC T n I := ⟨by rw [hF 1 1 (by decide)]; exact hT.1, hT.2.1, fun j hj => by rw [hF 2 j (by decide)]; exact hT.2.2 j hj⟩
    refine zk_Image_restore_11 hf pf I J b hs eh ?_
    rw [hF _ _ (by omega), hS0.L.bn, zb_w (x := b) (by omega) (by omega), zb_w (x := D 6 0 0) (by omega) (by omega)]
    refine ⟨fun _ => sc_at hT1 ⟨by omega, by omega⟩ (sc_at hT1 ⟨by omega, by omega⟩ (sc_setBoard (by omega) ?_)), fun c => by omega⟩
    rw [if_pos (by omega), if_pos (by omega)]
    refine sc_restore_49 hT hn3 h6 (by omega) 6 0 _ (fun i j q => by rw [zu_ne (by omega), zu_ne (by omega)]; exact hF i j q) ?_ (by decide) (by decide) (fun I' hF' hr' => ih (b + 1) I' hF' ?_ (by omega) (by omega) hQ)
    · rw [zu_row, zu_row]
      obtain ⟨f1, f2, f3, f4, f5⟩ := hr
      refine ⟨?_, fun x y z => ⟨?_, ?_⟩, fun x y a1 a2 a3 a4 => ?_, ?_, fun x a1 a2 => ?_⟩
      · rw [sr_ne (by omega), sr_ne (by omega)]; exact f1
      · by_cases e : x = b
        · subst e
          rw [sr_ne (by omega), sr_eq, on1, if_pos (by omega)]
          exact congrArg T (by omega)
        · rw [sr_ne (by omega), sr_ne (by omega), (f2 x y z).1, on1, on1]
          exact ic (by omega)
      · by_cases e : x = b
        · subst e
          rw [sr_eq, on2, if_pos (by omega)]
          exact congrArg T (by omega)
        · rw [sr_ne (by omega), sr_ne (by omega), (f2 x y z).2, on2, on2]
          exact ic (by omega)
      · rw [sr_ne (by omega), sr_ne (by omega), f3 x y a1 a2 a3 a4, on3, on3]
        exact ic (by omega)
      · rw [sr_ne (by omega), sr_ne (by omega), on4]; rw [on4] at f4; exact f4
      · rw [on4] at a2
        exact absurd a2 (show ¬ x < 0 by omega)
    · refine rowC_c hr' ?_ (fun x q1 q2 => ?_) (fun x y q1 q2 q3 q4 => ?_) ?_ (fun x _ _ => ?_)
      · rfl
      · rw [on1, on1, on2, on2]
        exact ⟨ic (by omega), ic (by omega)⟩
      · rw [on3, on3]
        exact ic (by omega)
      · rw [on4, on4]
      · rw [on5, on5, on5, on5, on5, on5]
        exact ⟨rfl, rfl, rfl⟩
theorem sc_on {U : Nat → zD} {u : Int} (eh : hf = 0 ∨ hf = 1) (hB : cB D pg W hf I) (hU : uC D U u I) (hT : tC T n I) (hP0 : pf_isI D T n = 0 → P 0 (ax_u (ax_u I 1 1 0) 38 5 ((ax_u I 1 1 0) 38 5 + 1)) J) (hP : pf_isI D T n = 1 → ∀ I', (∀ i j, i ≠ 13 → ¬ (i = 12 ∧ (j = 3 ∨ j = 4)) → ¬ (i = 1 ∧ j = 1) → I' i j = I i j) → I' 1 1 = 0 → cB D pg (pf_on D T W) hf I' → uC D U 0 I' → P 1 I' J) : zc_i (d + 7) 158 [.inr (.inr (some 0))] hf pf I J P := by
  have h6 := hB.S.ok.a6 0 0
  refine zc_ini (M := ax_m158) rfl (Nat.le_of_ble_eq_true rfl) (zk_Top_on_0 hf pf I J (sc_fits eh hB.S hT ?_))
  rcases pf_isI01 D T n with e | e
  · rw [e]
    refine b0 (zk_Top_on_31 hf pf I J 0 (sc_cut (by rw [hT.1]; have := hT.2.1; omega) (b0 (sc_refuse ⟨by decide, by decide⟩ (b0 (zc_Qi.of (hP0 e)))))))
  · rw [e]
    obtain ⟨hn3, hy, _⟩ := pf_isI_bt hB.S.ok e
    refine b1 (zc_inv (M := ax_m36) rfl (Nat.le_of_ble_eq_true rfl) (zk_Image_restore_0 hf pf I J hf (sc_pairAt hT (by omega) (sc_begin (fun I1 hF1 h13 h3 h4 => ?_)))))
    have hS1 : cS D pg hf I1 := cA.S (fun i j a _ _ _ _ => hF1 i j (by omega) (by omega)) hB.S
    have hT1 : tC T n I1 := ⟨by rw [hF1 1 1 (by omega) (by omega)]; exact hT.1, hT.2.1, fun j hj => by rw [hF1 2 j (by omega) (by omega)]; exact hT.2.2 j hj⟩
    have hr0 : rowC (pf_onTo D T z00 0 (-1)) (I1 13) := by
      refine ⟨?_, fun x y z => ⟨?_, ?_⟩, fun x y a1 a2 a3 a4 => ?_, ?_, fun x a1 a2 => ?_⟩
      · rw [h13 0 (by decide), if_pos rfl]; rfl
      · rw [h13 _ (by omega), if_neg (by omega), on1, if_neg (by omega)]; rfl
      · rw [h13 _ (by omega), if_neg (by omega), on2, if_neg (by omega)]; rfl
      · rw [h13 _ (by omega), if_neg (by omega), on3, if_neg (by omega)]; rfl
      · rw [h13 1 (by decide), if_neg (by decide), on4]; rfl
      · rw [on4] at a2
        exact absurd a2 (show ¬ x < 0 by omega)
    refine sc_restore_11 eh hT1 hn3 hS1 (D 6 0 0).toNat 0 I1 (fun _ _ _ => rfl) hr0 (by decide) (by omega) (fun I2 hF2 hr2 => zc_Qv.of (zk_Top_on_31 hf pf I2 J 1 (sc_cut (by rw [hF2 1 1 (by omega), hT1.1]; have := hT1.2.1; omega) (b1 (zc_Qi.of (hP e _ (fun i j q1 q2 q3 => ?_) zu_eq ⟨?_, ?_, ?_⟩ ?_))))))
    · rw [zu_ne (by omega), hF2 i j q1, hF1 i j q1 q2]
    · refine cS_cong hS1 (fun i j q => ?_) ?_ (fun j => ?_) ?_ (fun j => ?_)
      · unfold cLk at q
        rw [zu_ne (by omega), hF2 i j (by omega)]
      · rw [zu_ne (by omega), hF2 _ _ (by omega)]
      · rw [zu_ne (by omega), hF2 _ _ (by omega)]
      · rw [zu_ne (by omega), hF2 _ _ (by omega)]
      · rw [zu_ne (by omega), hF2 _ _ (by omega)]
    · exact wOk_on hB.S.ok (fun j hj => (hT.2.2 j hj).2) e hB.W
    · rw [zu_oth (by decide)]
      unfold pf_on
      refine rowC_c hr2 ?_ (fun x q1 q2 => ?_) (fun x y q1 q2 q3 q4 => ?_) ?_ (fun x q1 q2 => ?_)
      · rw [wu_ne (by omega)]; rfl
      · rw [wu_ne (by omega), wu_ne (by omega), on1, on1, on2, on2]
        by_cases q : x < D 6 0 0
        · rw [if_pos (by omega), if_pos (by omega), if_pos (by omega), if_pos (by omega)]; exact ⟨rfl, rfl⟩
        · rw [if_neg (by omega), if_neg (by omega), if_neg (by omega), if_neg (by omega)]
          exact ⟨(hB.W.z (by omega) q2).1, (hB.W.z (by omega) q2).2.1⟩
      · rw [wu_ne (by omega), on3, on3]
        by_cases q : x < D 6 0 0
        · rw [if_pos (by omega), if_pos (by omega)]
        · rw [if_neg (by omega), if_neg (by omega)]
          exact (hB.W.z (by omega) q2).2.2 y
      · rw [wu_eq, on4]; rfl
      · rw [on4] at q2
        exact absurd q2 (show ¬ x < 0 by omega)
    · refine ⟨?_, ⟨by decide, by decide⟩, ?_, fun i hi => by omega⟩
      · rw [zu_ne (by omega), hF2 12 3 (by decide), h3]
      · rw [zu_ne (by omega), hF2 12 4 (by decide), h4]; exact ⟨by decide, by decide⟩
end ZCA
