/-! THE REFERENCE: on -/
/-- the bytes of the tape, whatever its length -/
def tB (T : Nat → Int) (n : Int) (I : zF) : Prop := n ≤ 1600 ∧ ∀ j : Nat, (j : Int) < n → I 1 j = T j ∧ 0 ≤ T j ∧ T j ≤ 255
theorem on0 {D : zD} {T : Nat → Int} {W : zD} {B K a c : Int} : pf_onTo D T W B K 0 a c = pf_t2 T 0 := rfl
theorem on1 {D : zD} {T : Nat → Int} {W : zD} {B K a c : Int} : pf_onTo D T W B K 1 a c = if a ≤ B ∧ (0 ≤ a ∧ a < D 6 0 0) ∧ (a < B ∨ 0 ≤ K) then T (2 + 14 * a).toNat else W 1 a c := by
  unfold pf_onTo
  by_cases q : a ≤ B ∧ (0 ≤ a ∧ a < D 6 0 0) ∧ (a < B ∨ 0 ≤ K)
  · rw [if_neg (by decide), if_pos ⟨rfl, q⟩, if_pos q]
  · rw [if_neg (by decide), if_neg (fun r => q r.2), if_neg (fun r => absurd r.1 (by decide)), if_neg (fun r => absurd r.1 (by decide)), if_neg q]
theorem on2 {D : zD} {T : Nat → Int} {W : zD} {B K a c : Int} : pf_onTo D T W B K 2 a c = if a ≤ B ∧ (0 ≤ a ∧ a < D 6 0 0) ∧ (a < B ∨ 0 ≤ K) then T (3 + 14 * a).toNat else W 2 a c := by
  unfold pf_onTo
  by_cases q : a ≤ B ∧ (0 ≤ a ∧ a < D 6 0 0) ∧ (a < B ∨ 0 ≤ K)
  · rw [if_neg (by decide), if_neg (fun r => absurd r.1 (by decide)), if_pos ⟨rfl, q⟩, if_pos q]
  · rw [if_neg (by decide), if_neg (fun r => absurd r.1 (by decide)), if_neg (fun r => q r.2), if_neg (fun r => absurd r.1 (by decide)), if_neg q]
theorem on3 {D : zD} {T : Nat → Int} {W : zD} {B K a c : Int} : pf_onTo D T W B K 3 a c = if (0 ≤ a ∧ a < D 6 0 0) ∧ (0 ≤ c ∧ c < 6) ∧ (a < B ∨ (a = B ∧ c < K)) then pf_t2 T (4 + 14 * a + 2 * c) else W 3 a c := by
  unfold pf_onTo
  by_cases q : (0 ≤ a ∧ a < D 6 0 0) ∧ (0 ≤ c ∧ c < 6) ∧ (a < B ∨ (a = B ∧ c < K))
  · rw [if_neg (by decide), if_neg (fun r => absurd r.1 (by decide)), if_neg (fun r => absurd r.1 (by decide)), if_pos ⟨rfl, q⟩, if_pos q]
  · rw [if_neg (by decide), if_neg (fun r => absurd r.1 (by decide)), if_neg (fun r => absurd r.1 (by decide)), if_neg (fun r => q r.2), if_neg q]
theorem on4 {D : zD} {T : Nat → Int} {W : zD} {B K a c : Int} : pf_onTo D T W B K 4 a c = W 4 a c := by
  unfold pf_onTo
  rw [if_neg (by decide), if_neg (fun r => absurd r.1 (by decide)), if_neg (fun r => absurd r.1 (by decide)), if_neg (fun r => absurd r.1 (by decide))]
theorem on5 {D : zD} {T : Nat → Int} {W : zD} {B K a c : Int} : pf_onTo D T W B K 5 a c = W 5 a c := by
  unfold pf_onTo
  rw [if_neg (by decide), if_neg (fun r => absurd r.1 (by decide)), if_neg (fun r => absurd r.1 (by decide)), if_neg (fun r => absurd r.1 (by decide))]
section ZRF
variable {d : Nat} {I J : zF} {D : zD} {pg : zG} {W : zD} {P : Int → zF → zF → Prop} {P0 : zF → zF → Prop} {T : Nat → Int} {n : Int}
theorem sr_twoAt (hT : tB T n I) {k : Int} (hk : 0 ≤ k ∧ k + 1 < n) (hP : P (pf_t2 T k) I J) : zr_i (d + 1) 311 [.inr (.inr (some 0)), .inl k] I J P := by
  obtain ⟨hn, ht⟩ := hT
  refine zr_ini (M := ax_m311) rfl (Nat.le_of_ble_eq_true rfl) (zq_twoAt_0 I J k ?_)
  rw [zb_w (x := k) (by omega) (by omega), zb_w (x := k + 1) (by omega) (by omega), (ht k.toNat (by omega)).1, (ht (k + 1).toNat (by omega)).1]
  exact ⟨by omega, by omega, zr_Qi.of hP⟩
theorem pf_t2_in (hT : tB T n I) {k : Int} (hk : 0 ≤ k ∧ k + 1 < n) : 0 ≤ pf_t2 T k ∧ pf_t2 T k ≤ 65535 := by
  obtain ⟨hn, ht⟩ := hT
  have h1 := ht k.toNat (by omega)
  have h2 := ht (k + 1).toNat (by omega)
  unfold pf_t2
  omega
theorem sr_isBoardTold_51 (hS : rS D pg I) (hT : tB T n I) {p w : Int} (hp : 0 ≤ p ∧ p + 14 ≤ n) (hw : T p.toNat = w) (hw2 : 0 ≤ w ∧ w < D 3 0 0) {Q : Option ax_v → ax_S → Prop} : ∀ (m : Nat) (k : Int), 0 ≤ k → k + m = 6 → Q (some (.inl (pf_btL D T p m k))) (zr_S I J) → zb_W (d + 1) ax_m312 (51, [some (.inr (.inr (some 0))), some (.inl p), some (.inl w), some (.inl k)], [], zr_S I J) Q := by
  have hn := hT.1
  have h4 := hS.ok.a4 w 0
  intro m
  induction m with
  | zero =>
    intro k h0 he hQ
    have e : k = 6 := by omega
    subst e
    exact zq_isBoardTold_51 I J p w 6 ⟨fun q => absurd q (by decide), fun _ => hQ⟩
  | succ m ih =>
    intro k h0 he hQ
    have ht2 := pf_t2_in hT (k := p + 2 + 2 * k) (by omega)
    refine zq_isBoardTold_51 I J p w k ?_
    rw [zb_w (x := k) (by omega) (by omega)]
    refine ⟨fun _ => sr_twoAt hT (by omega) (sr_longOf hS hw2 ?_), fun q => absurd (show k < 6 by omega) q⟩
    simp (disch := omega) only [zb_w]
    refine ⟨fun c => ⟨fun c2 => ?_, fun c2 => ih (k + 1) (by omega) (by omega) ?_⟩, fun c => ⟨fun c2 => ?_, fun c2 => ih (k + 1) (by omega) (by omega) ?_⟩⟩
    · have e : pf_btL D T p (m + 1) k = 0 := if_neg (by rw [hw, if_pos c]; omega)
      rw [e] at hQ; exact hQ
    · have e : pf_btL D T p (m + 1) k = pf_btL D T p m (k + 1) := if_pos (by rw [hw, if_pos c]; omega)
      rw [e] at hQ; exact hQ
    · have e : pf_btL D T p (m + 1) k = 0 := if_neg (by rw [hw, if_neg c]; omega)
      rw [e] at hQ; exact hQ
    · have e : pf_btL D T p (m + 1) k = pf_btL D T p m (k + 1) := if_pos (by rw [hw, if_neg c]; omega)
      rw [e] at hQ; exact hQ
theorem sr_isBoardTold (hS : rS D pg I) (hT : tB T n I) {p : Int} (hp : 0 ≤ p ∧ p + 14 ≤ n) (hP : P (pf_bt D T p) I J) : zr_i (d + 4) 312 [.inr (.inr (some 0)), .inl p] I J P := by
  have hn := hT.1
  have t0 := hT.2 p.toNat (by omega)
  have t1 := hT.2 (p + 1).toNat (by omega)
  unfold pf_bt at hP
  refine zr_ini (M := ax_m312) rfl (Nat.le_of_ble_eq_true rfl) (zq_isBoardTold_0 I J p ?_)
  rw [zb_w (x := p) (by omega) (by omega), zb_w (x := p + 1) (by omega) (by omega), t0.1, zb_w (x := T p.toNat) (by omega) (by omega)]
  refine ⟨by omega, sr_isWord hS ⟨by omega, by omega⟩ (bc (fun q => ⟨by omega, ?_⟩) (fun q => zr_Qi.of (by rwa [if_neg (fun r => q r.1)] at hP)))⟩
  rw [t1.1]
  refine sr_isHand (lt32 (by omega)) (bc (fun q2 => ⟨by omega, ?_⟩) (fun q2 => zr_Qi.of (by rwa [if_neg (fun r => q2 r.2.1)] at hP)))
  rw [t1.1]
  refine sr_canPaint hS q (by omega) (b01 (pf_can01 D _ _ _ _) (fun e => ?_) (fun e => zr_Qi.of ?_))
  · have e' : pf_canPaint D (T p.toNat) (T (p + 1).toNat) = 1 := e
    rw [if_pos ⟨q, q2, e'⟩] at hP
    exact sr_isBoardTold_51 hS hT hp rfl q 6 0 (by decide) (by decide) (zr_Qi.of hP)
  · have e' : pf_canPaint D (T p.toNat) (T (p + 1).toNat) = 0 := e
    rwa [if_neg (by omega)] at hP
theorem sr_isImage_49 (hS : rS D pg I) (hT : tB T n I) (hn : n = 3 + 14 * D 6 0 0) {Q : Option ax_v → ax_S → Prop} : ∀ (m : Nat) (b : Int), 0 ≤ b → b + m = D 6 0 0 → Q (some (.inl (pf_imL D T m b))) (zr_S I J) → zb_W (d + 4) ax_m313 (49, [some (.inr (.inr (some 0))), none, some (.inl b)], [], zr_S I J) Q := by
  have h6 := hS.ok.a6 0 0
  intro m
  induction m with
  | zero =>
    intro b h0 he hQ
    refine zq_isImage_49 I J b (sr_boardMany hS ?_)
    simp (disch := omega) only [zb_w]
    exact ⟨fun q => by omega, fun _ => hQ⟩
  | succ m ih =>
    intro b h0 he hQ
    unfold pf_imL at hQ
    refine zq_isImage_49 I J b (sr_boardMany hS ?_)
    rw [zb_w (x := b) (by omega) (by omega), zb_w (x := D 6 0 0) (by omega) (by omega)]
    refine ⟨fun _ => sr_isBoardTold hS hT (by omega) (b01 (pf_bt01 D T _) (fun e => ?_) (fun e => ?_)), fun q => by omega⟩
    · rw [if_pos e] at hQ; exact ih (b + 1) (by omega) (by omega) hQ
    · rw [if_neg (by omega)] at hQ; exact hQ
theorem sr_isImage (hS : rS D pg I) (hT : tB T n I) (h0 : 0 ≤ n) (hP : P (pf_isI D T n) I J) : zr_i (d + 5) 313 [.inr (.inr (some 0)), .inl n] I J P := by
  have h6 := hS.ok.a6 0 0
  have hn := hT.1
  unfold pf_isI at hP
  refine zr_ini (M := ax_m313) rfl (Nat.le_of_ble_eq_true rfl) (zq_isImage_0 I J n (sr_boardMany hS ?_))
  rw [zb_w (x := n) (by omega) (by omega), zb_w (x := 3 + 14 * D 6 0 0) (by omega) (by omega)]
  refine ⟨fun e => ?_, fun e => zr_Qi.of (by rwa [if_neg (fun r => e r.1)] at hP)⟩
  have tn := hT.2 (n - 1).toNat (by omega)
  rw [zb_w (x := n - 1) (by omega) (by omega), tn.1]
  refine ⟨by omega, sr_checked (f := T) (by decide) (L := 1600) rfl (by omega) (by decide) (fun j hj => hT.2 j (by omega)) ?_⟩
  have hck : ∀ (m : Nat) (k c : Int), 0 ≤ c ∧ c ≤ 250 → 0 ≤ k → k + m ≤ n → 0 ≤ pf_ckT T m k c ∧ pf_ckT T m k c ≤ 250 := by
    intro m
    induction m with
    | zero => intro k c hc _ _; exact hc
    | succ m ih => intro k c hc q1 q2; exact ih _ _ (by omega) (by omega) (by omega)
  have hck' := hck (n - 1).toNat 0 223 ⟨by decide, by decide⟩ (by decide) (by omega)
  have ht2 := pf_t2_in hT (k := 0) (by omega)
  simp (disch := omega) only [zb_w]
  refine ⟨fun e2 => sr_twoAt hT (by omega) ?_, fun e2 => zr_Qi.of (by rwa [if_neg (fun r => e2 r.2.1)] at hP)⟩
  simp (disch := omega) only [zb_w]
  refine ⟨fun c => zr_Qi.of (by rwa [if_neg (by omega)] at hP), fun c => ?_⟩
  rw [if_pos ⟨e, e2, by omega⟩] at hP
  exact sr_isImage_49 hS hT e (D 6 0 0).toNat 0 (by decide) (by omega) (zr_Qi.of hP)
theorem rowR_c {W W' : zD} {f : Nat → Int} (h : rowR W f) (h0 : W' 0 0 0 = W 0 0 0) (h1 : ∀ b, 0 ≤ b → b < 4 → W' 1 b 0 = W 1 b 0 ∧ W' 2 b 0 = W 2 b 0) (h3 : ∀ b k, 0 ≤ b → b < 4 → 0 ≤ k → k < 6 → W' 3 b k = W 3 b k) (h4 : W' 4 0 0 = W 4 0 0) (h5 : ∀ k c, W' 5 k c = W 5 k c) : rowR W' f := by
  obtain ⟨f1, f2, f3, f4, f5⟩ := h
  refine ⟨by rw [h0]; exact f1, fun x y z => by rw [(h1 x y z).1, (h1 x y z).2]; exact f2 x y z, fun x y a b c e => by rw [h3 x y a b c e]; exact f3 x y a b c e, by rw [h4]; exact f4, fun x y a b c e => by rw [h5]; rw [h4] at b; exact f5 x y a b c e⟩
theorem sr_on_97 {I0 : zF} (hT : tB T n I0) (hn : n = 3 + 14 * D 6 0 0) (h6 : 0 ≤ D 6 0 0 ∧ D 6 0 0 ≤ 4) (h4 : 0 ≤ W 4 0 0 ∧ W 4 0 0 ≤ 40) {b : Int} (hb : 0 ≤ b ∧ b < D 6 0 0) {Q : Option ax_v → ax_S → Prop} : ∀ (m : Nat) (k : Int) (I : zF), (∀ i j, i ≠ 40 → I i j = I0 i j) → rowR (pf_onTo D T W b k) (I 40) → 0 ≤ k → k + m = 6 → (∀ I', (∀ i j, i ≠ 40 → I' i j = I0 i j) → rowR (pf_onTo D T W b 6) (I' 40) → zb_W (d + 1) ax_m314 (43, [some (.inr (.inr (some 0))), none, some (.inl (b + 1)), none], [], zr_S I' J) Q) → zb_W (d + 1) ax_m314 (97, [some (.inr (.inr (some 0))), none, some (.inl b), some (.inl k)], [], zr_S I J) Q := by
  have hn' := hT.1
  intro m
  induction m with
  | zero =>
    intro k I hF hr h0 he hQ
    have e : k = 6 := by omega
    subst e
    exact zq_on_97 I J b 6 ⟨fun q => absurd q (by decide), fun _ => hQ I hF hr⟩
  | succ m ih =>
    intro k I hF hr h0 he hQ
    have hT1 : tB T n I := ⟨hT.1, fun j hj => by rw [hF 1 j (by omega)]; exact hT.2 j hj⟩
    refine zq_on_97 I J b k ?_
    simp (disch := omega) only [zb_w]
    refine ⟨fun _ => sr_twoAt hT1 (by omega) ⟨by omega, ih (k + 1) _ (fun i j q => by rw [zu_ne (by omega)]; exact hF i j q) ?_ (by omega) (by omega) hQ⟩, fun q => by omega⟩
    rw [zu_row]
    refine rowR_c (rowR_set3 hr (by rw [on4]; exact h4) (b := b) (k := k) (v := pf_t2 T (4 + 14 * b + 2 * k)) (by omega) (by omega)) ?_ (fun x q1 q2 => ?_) (fun x y q1 q2 q3 q4 => ?_) ?_ (fun x y => ?_)
    · rw [wu_ne (by omega)]; rfl
    · rw [wu_ne (by omega), wu_ne (by omega), on1, on1, on2, on2]
      exact ⟨ic (by omega), ic (by omega)⟩
    · by_cases e : x = b ∧ y = k
      · obtain ⟨rfl, rfl⟩ := e
        rw [wu_eq, on3, if_pos (by omega)]
      · rw [wu_ne (by omega), on3, on3]
        exact ic (by omega)
    · rw [wu_ne (by omega), on4, on4]
    · rw [wu_ne (by omega), on5, on5]
theorem sr_on_43 {I0 : zF} (hT : tB T n I0) (hn : n = 3 + 14 * D 6 0 0) (hS0 : rS D pg I0) (h4 : 0 ≤ W 4 0 0 ∧ W 4 0 0 ≤ 40) {Q : Option ax_v → ax_S → Prop} : ∀ (m : Nat) (b : Int) (I : zF), (∀ i j, i ≠ 40 → I i j = I0 i j) → rowR (pf_onTo D T W b (-1)) (I 40) → 0 ≤ b → b + m = D 6 0 0 → (∀ I', (∀ i j, i ≠ 40 → I' i j = I0 i j) → rowR (pf_onTo D T W (D 6 0 0) (-1)) (I' 40) → Q (some (.inl 1)) (zr_S (ax_u (ax_u I' 40 33 0) 0 78 0) J)) → zb_W (d + 1) ax_m314 (43, [some (.inr (.inr (some 0))), none, some (.inl b), none], [], zr_S I J) Q := by
  have h6 := hS0.ok.a6 0 0
  have hn' := hT.1
  intro m
  induction m with
  | zero =>
    intro b I hF hr h0 he hQ
    have hS : rS D pg I := rS_cong hS0 (fun i j _ _ _ => hF i j (by omega)) (hF 0 45 (by omega)) (hF 0 48 (by omega))
    have e : b = D 6 0 0 := by omega
    refine zq_on_43 I J b (sr_boardMany hS ?_)
    rw [zb_w (x := b) (by omega) (by omega), zb_w (x := D 6 0 0) (by omega) (by omega)]
    rw [e] at hr
    exact ⟨fun q => by omega, fun _ => hQ I hF hr⟩
  | succ m ih =>
    intro b I hF hr h0 he hQ
    have hS : rS D pg I := rS_cong hS0 (fun i j _ _ _ => hF i j (by omega)) (hF 0 45 (by omega)) (hF 0 48 (by omega))
    have ta : I 1 (2 + 14 * b).toNat = T (2 + 14 * b).toNat := by rw [hF 1 _ (by omega)]; exact (hT.2 _ (by omega)).1
    have tb : ∀ v, (ax_u I 40 (1 + 8 * b).toNat v) 1 (3 + 14 * b).toNat = T (3 + 14 * b).toNat := fun v => by rw [zu_ne (by omega), hF 1 _ (by omega)]; exact (hT.2 _ (by omega)).1
    refine zq_on_43 I J b (sr_boardMany hS ?_)
    simp (disch := omega) only [zb_w]
    rw [ta, tb]
    refine ⟨fun _ => ⟨by omega, by omega, by omega, by omega, sr_on_97 hT hn h6 h4 (W := W) (by omega) 6 0 _ (fun i j q => by rw [zu_ne (by omega), zu_ne (by omega)]; exact hF i j q) ?_ (by decide) (by decide) (fun I' hF' hr' => ih (b + 1) I' hF' ?_ (by omega) (by omega) hQ)⟩, fun q => by omega⟩
    · rw [zu_row, zu_row]
      obtain ⟨f1, f2, f3, f4, f5⟩ := hr
      refine ⟨?_, fun x y z => ⟨?_, ?_⟩, fun x y a1 a2 a3 a4 => ?_, ?_, fun x c a1 a2 a3 a4 => ?_⟩
      · rw [sr_ne (by omega), sr_ne (by omega)]; exact f1
      · by_cases e : x = b
        · subst e
          rw [sr_ne (by omega), sr_eq, on1, if_pos (by omega)]
        · rw [sr_ne (by omega), sr_ne (by omega), (f2 x y z).1, on1, on1]
          exact ic (by omega)
      · by_cases e : x = b
        · subst e
          rw [sr_eq, on2, if_pos (by omega)]
        · rw [sr_ne (by omega), sr_ne (by omega), (f2 x y z).2, on2, on2]
          exact ic (by omega)
      · rw [sr_ne (by omega), sr_ne (by omega), f3 x y a1 a2 a3 a4, on3, on3]
        exact ic (by omega)
      · rw [sr_ne (by omega), sr_ne (by omega), on4]; rw [on4] at f4; exact f4
      · rw [on4] at a2
        rw [sr_ne (by omega), sr_ne (by omega), on5]
        exact (f5 x c a1 (by rw [on4]; exact a2) a3 a4).trans on5
    · refine rowR_c hr' ?_ (fun x q1 q2 => ?_) (fun x y q1 q2 q3 q4 => ?_) ?_ (fun x y => ?_)
      · rfl
      · rw [on1, on1, on2, on2]
        exact ⟨ic (by omega), ic (by omega)⟩
      · rw [on3, on3]
        exact ic (by omega)
      · rw [on4, on4]
      · rw [on5, on5]
theorem sr_on {U : Nat → zD} {u : Int} (hB : rB D pg W I) (hU : uR D U u I) (hT : tR T n I) (hP0 : pf_isI D T n = 0 → P 0 (ax_u (ax_u I 0 1 0) 2 5 ((ax_u I 0 1 0) 2 5 + 1)) J) (hP : pf_isI D T n = 1 → ∀ I', (∀ i j, i ≠ 40 → ¬ (i = 0 ∧ (j = 1 ∨ j = 78)) → I' i j = I i j) → I' 0 1 = 0 → rB D pg (pf_on D T W) I' → uR D U 0 I' → P 1 I' J) : zr_i (d + 6) 314 [.inr (.inr (some 0))] I J P := by
  obtain ⟨t1, t2, t3⟩ := hT
  have hX : ∀ v, rS D pg (ax_u I 0 1 v) := fun v => rS_cong hB.S (fun i j _ _ _ => zu_ne (by omega)) (zu_ne (by omega)) (zu_ne (by omega))
  have hTB : tB T n (ax_u I 0 1 0) := ⟨t2.2, fun j hj => by rw [zu_ne (by omega)]; exact t3 j hj⟩
  refine zr_ini (M := ax_m314) rfl (Nat.le_of_ble_eq_true rfl) (zq_on_0 I J ?_)
  rw [t1]
  refine sr_isImage (hX 0) hTB t2.1 (b01 (pf_isI01 D T n) (fun e => ?_) (fun e => zr_Qi.of (hP0 e)))
  obtain ⟨hn, hy, _⟩ := pf_isI_bt hB.S.ok e
  have h6 := hB.S.ok.a6 0 0
  refine sr_twoAt hTB (by omega) ?_
  have hr0 : rowR (pf_onTo D T W 0 (-1)) ((ax_u (ax_u I 0 1 0) 40 (ax_w 0).toNat (pf_t2 T 0)) 40) := by
    rw [zu_row, zu_oth (by decide)]
    refine rowR_c (rowR_set0 hB.2.2 (v := pf_t2 T 0)) ?_ (fun x q1 q2 => ?_) (fun x y q1 q2 q3 q4 => ?_) ?_ (fun x y => ?_)
    · rw [wu_eq]; rfl
    · rw [wu_ne (by omega), wu_ne (by omega), on1, on2, if_neg (by omega), if_neg (by omega)]
      exact ⟨rfl, rfl⟩
    · rw [wu_ne (by omega), on3, if_neg (by omega)]
    · rw [wu_ne (by omega), on4]
    · rw [wu_ne (by omega), on5]
  refine sr_on_43 (I0 := ax_u I 0 1 0) hTB hn (hX 0) hB.W.n (D 6 0 0).toNat 0 _ (fun i j q => zu_ne (by omega)) hr0 (by decide) (by omega) (fun I' hF hr => zr_Qi.of (hP e _ (fun i j q1 q2 => ?_) ?_ ⟨?_, ?_, ?_⟩ ?_))
  · rw [zu_ne (by omega), zu_ne (by omega), hF i j q1, zu_ne (by omega)]
  · rw [zu_ne (by omega), zu_ne (by omega), hF 0 1 (by omega), zu_eq]
  · refine rS_cong hB.S (fun i j q1 q2 _ => ?_) ?_ ?_
    · rw [zu_ne (by omega), zu_ne (by omega), hF i j (by omega), zu_ne (by omega)]
    · rw [zu_ne (by omega), zu_ne (by omega), hF 0 45 (by omega), zu_ne (by omega)]
    · rw [zu_ne (by omega), zu_ne (by omega), hF 0 48 (by omega), zu_ne (by omega)]
  · exact wOk_on hB.S.ok (fun j hj => (t3 j hj).2) e hB.W
  · rw [zu_oth (by decide), zu_row]
    obtain ⟨f1, f2, f3, f4, f5⟩ := hr
    unfold pf_on
    refine ⟨?_, fun x y z => ⟨?_, ?_⟩, fun x y a1 a2 a3 a4 => ?_, ?_, fun x c a1 a2 a3 a4 => ?_⟩
    · rw [sr_ne (by omega), wu_ne (by omega)]; exact f1
    · rw [sr_ne (by omega), wu_ne (by omega)]; exact (f2 x y z).1
    · rw [sr_ne (by omega), wu_ne (by omega)]; exact (f2 x y z).2
    · rw [sr_ne (by omega), wu_ne (by omega)]; exact f3 x y a1 a2 a3 a4
    · rw [sr_eq, wu_eq]
    · rw [wu_eq] at a2; omega
  · obtain ⟨u1, u2, u3, u4⟩ := hU
    refine ⟨zu_eq, ⟨by decide, by decide⟩, ?_, fun i hi => by omega⟩
    rw [zu_ne (by omega), zu_ne (by omega), hF 0 79 (by omega), zu_ne (by omega)]
    exact u3
end ZRF
