/-! THE CLASS: the wall's row -/
/-- nothing has changed but the row now and what a reckoning writes -/
def cN (hs : Nat) (I I' : zF) : Prop := ∀ i j, i ≠ 13 → i ≠ 44 + 29 * hs → i ≠ 47 + 29 * hs → i ≠ 60 + 29 * hs → i ≠ 61 + 29 * hs → I' i j = I i j
theorem cN.refl (hs : Nat) (I : zF) : cN hs I I := fun _ _ _ _ _ _ _ => rfl
theorem cN.trans {hs : Nat} {I I' I2 : zF} (h : cN hs I I') (h2 : cN hs I' I2) : cN hs I I2 := fun i j a b c e f => (h2 i j a b c e f).trans (h i j a b c e f)
theorem cE.N {hs : Nat} {I I' : zF} (h : cE hs I I') : cN hs I I' := fun i j _ b c e f => h i j b c e f
theorem cN.S {D : zD} {pg : zG} {hs : Nat} {I I' : zF} (h : cN hs I I') (hS : cS D pg hs I) : cS D pg hs I' := cS_cong hS (fun i j q => by unfold cLk at q; exact h i j (by omega) (by omega) (by omega) (by omega) (by omega)) (h _ _ (by omega) (by omega) (by omega) (by omega) (by omega)) (fun j => h _ _ (by omega) (by omega) (by omega) (by omega) (by omega)) (h _ _ (by omega) (by omega) (by omega) (by omega) (by omega)) (fun j => h _ _ (by omega) (by omega) (by omega) (by omega) (by omega))
theorem cN.u {hs : Nat} {I I' : zF} (h : cN hs I I') {n : Nat} {v : Int} : cN hs I (ax_u I' 13 n v) := fun a b q1 q2 q3 q4 q5 => by rw [zu_ne (by omega)]; exact h a b q1 q2 q3 q4 q5
theorem rowC_set3 {W : zD} {f : Nat → Int} (h : rowC W f) (ok : 0 ≤ W 4 0 0 ∧ W 4 0 0 ≤ 40) {b k v : Int} (hb : 0 ≤ b ∧ b < 4) (hk : 0 ≤ k ∧ k < 6) : rowC (wu W 3 b k v) (sr f (42 + b * 8 + 2 + k).toNat v) := by
  obtain ⟨h1, h2, h3, h4, h5⟩ := h
  refine ⟨?_, fun x y z => ⟨?_, ?_⟩, fun x y a1 a2 a3 a4 => ?_, ?_, fun x a1 a2 => ?_⟩
  · rw [sr_ne (by omega), wu_ne (by omega)]; exact h1
  · rw [sr_ne (by omega), wu_ne (by omega)]; exact (h2 x y z).1
  · rw [sr_ne (by omega), wu_ne (by omega)]; exact (h2 x y z).2
  · by_cases e : x = b ∧ y = k
    · obtain ⟨rfl, rfl⟩ := e
      rw [sr_eq, wu_eq]
    · rw [sr_ne (by omega), wu_ne (by omega)]; exact h3 x y a1 a2 a3 a4
  · rw [sr_ne (by omega), wu_ne (by omega)]; exact h4
  · rw [wu_ne (by omega)] at a2
    rw [sr_ne (by omega), wu_ne (by omega), wu_ne (by omega), wu_ne (by omega)]; exact h5 x a1 a2
theorem rowC_set0 {W : zD} {f : Nat → Int} (h : rowC W f) {v : Int} : rowC (wu W 0 0 0 v) (sr f 0 v) := by
  obtain ⟨h1, h2, h3, h4, h5⟩ := h
  refine ⟨?_, fun x y z => ⟨?_, ?_⟩, fun x y a1 a2 a3 a4 => ?_, ?_, fun x a1 a2 => ?_⟩
  · rw [sr_eq, wu_eq]
  · rw [sr_ne (by omega), wu_ne (by omega)]; exact (h2 x y z).1
  · rw [sr_ne (by omega), wu_ne (by omega)]; exact (h2 x y z).2
  · rw [sr_ne (by omega), wu_ne (by omega)]; exact h3 x y a1 a2 a3 a4
  · rw [sr_ne (by omega), wu_ne (by omega)]; exact h4
  · rw [wu_ne (by omega)] at a2
    rw [sr_ne (by omega), wu_ne (by omega), wu_ne (by omega), wu_ne (by omega)]; exact h5 x a1 a2
theorem rowC_keep {W : zD} {f f' : Nat → Int} (h : rowC W f) {b s : Int} (hn : 0 ≤ W 4 0 0 ∧ W 4 0 0 ≤ 40) (h0 : f' 0 = f 0) (h42 : ∀ j, 42 ≤ j → f' j = f j) (hc : (W 4 0 0 = 40 ∧ f' 1 = 40 ∧ f' 41 = W 0 0 0 * 64 + b * 8 + s ∧ ∀ j, 2 ≤ j → j < 41 → f' j = f (j + 1)) ∨ (W 4 0 0 ≠ 40 ∧ f' 1 = W 4 0 0 + 1 ∧ f' (2 + W 4 0 0).toNat = W 0 0 0 * 64 + b * 8 + s ∧ ∀ j : Nat, 2 ≤ j → (j : Int) < 2 + W 4 0 0 → f' j = f j)) : rowC (pf_keep W b s) f' := by
  obtain ⟨h1, h2, h3, h4, h5⟩ := h
  refine ⟨?_, fun x y z => ⟨?_, ?_⟩, fun x y a1 a2 a3 a4 => ?_, ?_, fun x a1 a2 => ?_⟩
  · rw [h0, pf_keep_o (by decide) (by decide)]; exact h1
  · rw [h42 _ (by omega), pf_keep_o (by decide) (by decide)]; exact (h2 x y z).1
  · rw [h42 _ (by omega), pf_keep_o (by decide) (by decide)]; exact (h2 x y z).2
  · rw [h42 _ (by omega), pf_keep_o (by decide) (by decide)]; exact h3 x y a1 a2 a3 a4
  · rw [pf_keep4]
    rcases hc with q | q
    · rw [if_pos q.1]; exact q.2.1
    · rw [if_neg q.1]; exact q.2.1
  · rw [pf_keep4] at a2
    rw [pf_keep5, pf_keep5, pf_keep5]
    have e0 : pf_ent W b s 0 = W 0 0 0 := rfl
    have e1 : pf_ent W b s 1 = b := rfl
    have e2 : pf_ent W b s 2 = s := rfl
    rcases hc with q | q
    · rw [if_pos q.1] at a2
      rw [if_pos q.1, if_pos q.1, if_pos q.1]
      by_cases e : x = 39
      · rw [if_pos e, if_pos e, if_pos e, e0, e1, e2, ← q.2.2.1]
        exact congrArg f' (by omega)
      · rw [if_neg e, if_neg e, if_neg e, q.2.2.2 _ (by omega) (by omega), ← h5 (x + 1) (by omega) (by omega)]
        exact congrArg f (by omega)
    · rw [if_neg q.1] at a2
      rw [if_neg q.1, if_neg q.1, if_neg q.1]
      by_cases e : x = W 4 0 0
      · rw [if_pos e, if_pos e, if_pos e, e0, e1, e2, ← q.2.2.1, e]
      · rw [if_neg e, if_neg e, if_neg e, q.2.2.2 _ (by omega) (by omega)]
        exact h5 x a1 (by omega)
theorem pf_any_eq {f g : Int → Int} : ∀ (n : Nat) (k : Int), (∀ j, k ≤ j → j < k + n → f j = g j) → pf_any f g n k 0 = 0 := by
  intro n
  induction n with
  | zero => intro k _; rfl
  | succ n ih =>
    intro k h
    unfold pf_any
    rw [if_pos ⟨rfl, h k (Int.le_refl _) (by omega)⟩]
    exact ih _ (fun j a b => h j (by omega) (by omega))
theorem pf_any_c {f f' g : Int → Int} : ∀ (n : Nat) (k a : Int), (∀ j, k ≤ j → j < k + n → f j = f' j) → pf_any f g n k a = pf_any f' g n k a := by
  intro n
  induction n with
  | zero => intro k a _; rfl
  | succ n ih =>
    intro k a h
    unfold pf_any
    rw [h k (Int.le_refl _) (by omega)]
    exact ih _ _ (fun j a b => h j (by omega) (by omega))
theorem pf_zer_c {f f' : Int → Int} : ∀ (n : Nat) (k a : Int), (∀ j, k ≤ j → j < k + n → f j = f' j) → pf_zer f n k a = pf_zer f' n k a := by
  intro n
  induction n with
  | zero => intro k a _; rfl
  | succ n ih =>
    intro k a h
    unfold pf_zer
    rw [h k (Int.le_refl _) (by omega)]
    exact ih _ _ (fun j a b => h j (by omega) (by omega))
section ZC5
variable {d hf pf hs : Nat} {I J : zF} {D : zD} {pg : zG} {W : zD} {P : Int → zF → zF → Prop} {P0 : zF → zF → Prop}
theorem sc_yearNow (hy : I 13 0 = W 0 0 0) (hP : P (W 0 0 0) I J) : zc_i (d + 1) 112 [.inr (.inr (some 12))] hf pf I J P := by
  refine zc_ini (M := ax_m112) rfl (Nat.le_of_ble_eq_true rfl) (zk_Wall_yearNow_0 hf pf I J ?_)
  rw [show (ax_w 0).toNat = 0 from rfl, hy]
  exact zc_Qi.of hP
theorem sc_hasRow {b : Int} (hb : n32 b) (hP : P (if 0 ≤ b ∧ b < 4 then 1 else 0) I J) : zc_i (d + 1) 323 [.inl b] hf pf I J P := by
  refine zc_ini (M := ax_m323) rfl (Nat.le_of_ble_eq_true rfl) (zk_Wall_hasRow_0 hf pf I J b ?_)
  rw [hb.w, show ax_w 0 = 0 from rfl, show ax_w 4 = 4 from rfl]
  refine ⟨fun c => zc_Qi.of ?_, fun c => ⟨fun c2 => zc_Qi.of ?_, fun c2 => zc_Qi.of ?_⟩⟩
  · rwa [if_neg (by omega)] at hP
  · rwa [if_pos (by omega)] at hP
  · rwa [if_neg (by omega)] at hP
theorem sc_hasCell {b k : Int} (hb : n32 b) (hk : n32 k) (hP : P (if (0 ≤ b ∧ b < 4) ∧ (0 ≤ k ∧ k < 6) then 1 else 0) I J) : zc_i (d + 2) 324 [.inl b, .inl k] hf pf I J P := by
  refine zc_ini (M := ax_m324) rfl (Nat.le_of_ble_eq_true rfl) (zk_Wall_hasCell_0 hf pf I J b k (sc_hasRow hb (bc (fun q => ?_) (fun q => zc_Qi.of (by rwa [if_neg (by omega)] at hP)))))
  rw [hk.w, show ax_w 0 = 0 from rfl, show ax_w 6 = 6 from rfl]
  refine ⟨fun c => zc_Qi.of ?_, fun c => ⟨fun c2 => zc_Qi.of ?_, fun c2 => zc_Qi.of ?_⟩⟩
  · rwa [if_neg (by omega)] at hP
  · rwa [if_pos (by omega)] at hP
  · rwa [if_neg (by omega)] at hP
theorem sc_wordOf (hr : rowC W (I 13)) {b : Int} (hb : 0 ≤ b ∧ b < 4) (hP : P (W 1 b 0) I J) : zc_i (d + 2) 113 [.inr (.inr (some 12)), .inl b] hf pf I J P := by
  refine zc_ini (M := ax_m113) rfl (Nat.le_of_ble_eq_true rfl) (zk_Wall_wordOf_0 hf pf I J b (sc_hasRow ⟨by omega, by omega⟩ (bc (fun _ => ?_) (fun q => absurd hb q))))
  rw [zb_w (x := 42 + b * 8) (by omega) (by omega), (hr.2.1 b hb.1 hb.2).1]
  exact ⟨by omega, zc_Qi.of hP⟩
theorem sc_handOf (hr : rowC W (I 13)) {b : Int} (hb : 0 ≤ b ∧ b < 4) (hP : P (W 2 b 0) I J) : zc_i (d + 2) 114 [.inr (.inr (some 12)), .inl b] hf pf I J P := by
  refine zc_ini (M := ax_m114) rfl (Nat.le_of_ble_eq_true rfl) (zk_Wall_handOf_0 hf pf I J b (sc_hasRow ⟨by omega, by omega⟩ (bc (fun _ => ?_) (fun q => absurd hb q))))
  rw [zb_w (x := 42 + b * 8 + 1) (by omega) (by omega), (hr.2.1 b hb.1 hb.2).2]
  exact ⟨by omega, zc_Qi.of hP⟩
theorem sc_glyphIn {w : Nat} (hw : w < 97) (hkw : zc_K w = (20, 74)) (hr : rowC W (I w)) {b k : Int} (hb : 0 ≤ b ∧ b < 4) (hk : 0 ≤ k ∧ k < 6) (hP : P (W 3 b k) I J) : zc_i (d + 3) 325 [.inr (.inr (some w)), .inl b, .inl k] hf pf I J P := by
  refine zc_ini (M := ax_m325) rfl (Nat.le_of_ble_eq_true rfl) (zk_Wall_glyphIn_0 hf pf I J b k w 74 hw hkw (sc_hasCell ⟨by omega, by omega⟩ ⟨by omega, by omega⟩ (bc (fun _ => ?_) (fun q => absurd ⟨hb, hk⟩ q))))
  rw [zb_w (x := 42 + b * 8 + 2 + k) (by omega) (by omega), show ax_w ((74 : Nat) : Int) = 74 from rfl, hr.2.2.1 b k hb.1 hb.2 hk.1 hk.2]
  exact ⟨fun _ => ⟨by omega, zc_Qi.of hP⟩, fun c => by omega⟩
theorem sc_glyphAt (hr : rowC W (I 13)) {b k : Int} (hb : 0 ≤ b ∧ b < 4) (hk : 0 ≤ k ∧ k < 6) (hP : P (W 3 b k) I J) : zc_i (d + 4) 115 [.inr (.inr (some 12)), .inl b, .inl k] hf pf I J P :=
  zc_ini (M := ax_m115) rfl (Nat.le_of_ble_eq_true rfl) (zk_Wall_glyphAt_0 hf pf I J b k (sc_glyphIn (by decide) rfl hr hb hk (zc_Qi.of hP)))
theorem sc_setGlyph {b k v : Int} (hb : 0 ≤ b ∧ b < 4) (hk : 0 ≤ k ∧ k < 6) (hP : P0 (ax_u I 13 (42 + b * 8 + 2 + k).toNat v) J) : zc_v (d + 3) 111 [.inr (.inr (some 12)), .inl b, .inl k, .inl v] hf pf I J P0 := by
  refine zc_inv (M := ax_m111) rfl (Nat.le_of_ble_eq_true rfl) (zk_Wall_setGlyph_0 hf pf I J b k v (sc_hasCell ⟨by omega, by omega⟩ ⟨by omega, by omega⟩ (bc (fun _ => ?_) (fun q => absurd ⟨hb, hk⟩ q))))
  rw [zb_w (x := 42 + b * 8 + 2 + k) (by omega) (by omega)]
  exact ⟨by omega, zc_Qv.of hP⟩
theorem sc_setBoard {b w h : Int} (hb : 0 ≤ b ∧ b < 4) (hP : P0 (ax_u (ax_u I 13 (42 + b * 8).toNat w) 13 (42 + b * 8 + 1).toNat h) J) : zc_v (d + 2) 110 [.inr (.inr (some 12)), .inl b, .inl w, .inl h] hf pf I J P0 := by
  refine zc_inv (M := ax_m110) rfl (Nat.le_of_ble_eq_true rfl) (zk_Wall_setBoard_0 hf pf I J b w h (sc_hasRow ⟨by omega, by omega⟩ (bc (fun _ => ?_) (fun q => absurd hb q))))
  rw [zb_w (x := 42 + b * 8) (by omega) (by omega), zb_w (x := 42 + b * 8 + 1) (by omega) (by omega)]
  exact ⟨by omega, by omega, zc_Qv.of hP⟩
theorem sc_keptCount (hn : I 13 1 = W 4 0 0) (hP : P (W 4 0 0) I J) : zc_i (d + 1) 117 [.inr (.inr (some 12))] hf pf I J P := by
  refine zc_ini (M := ax_m117) rfl (Nat.le_of_ble_eq_true rfl) (zk_Wall_keptCount_0 hf pf I J ?_)
  rw [show (ax_w 1).toNat = 1 from rfl, hn]
  exact zc_Qi.of hP
theorem sc_keptPart (hW : wOk D W) (hr : rowC W (I 13)) {k c : Int} (hk : n32 k) (hc : n32 c) (hP : P (an_kept W k c) I J) : zc_i (d + 1) 118 [.inr (.inr (some 12)), .inl k, .inl c] hf pf I J P := by
  have hn := hW.n
  have hkk := hW.k k
  unfold an_kept at hP
  refine zc_ini (M := ax_m118) rfl (Nat.le_of_ble_eq_true rfl) (zk_Wall_keptPart_0 hf pf I J k c ?_)
  rw [hk.w, hc.w, show (ax_w 1).toNat = 1 from rfl, hr.2.2.2.1, zb_w (x := W 4 0 0) (by omega) (by omega), show ax_w 0 = 0 from rfl, show ax_w 40 = 40 from rfl]
  refine ⟨fun q => zc_Qi.of (by rwa [if_neg (by omega)] at hP), fun q => ⟨fun q2 => ⟨fun q3 => ?_, fun q3 => by omega⟩, fun q2 => zc_Qi.of (by rwa [if_neg (by omega)] at hP)⟩⟩
  rw [if_pos (by omega)] at hP
  rw [zb_w (x := 2 + k) (by omega) (by omega), hr.2.2.2.2 k (by omega) q2]
  have v1 := hkk.1
  have v2 := hkk.2.1
  have v3 := hkk.2.2
  rw [zb_w (x := W 5 k 0 * 64 + W 5 k 1 * 8 + W 5 k 2) (by omega) (by omega), show ax_w 64 = 64 from rfl, show ax_w 8 = 8 from rfl]
  have d1 : Int.tdiv (W 5 k 0 * 64 + W 5 k 1 * 8 + W 5 k 2) 64 = W 5 k 0 := by rw [Int.tdiv_eq_ediv_of_nonneg (by omega)]; omega
  have d2 : Int.tdiv (W 5 k 0 * 64 + W 5 k 1 * 8 + W 5 k 2) 8 = W 5 k 0 * 8 + W 5 k 1 := by rw [Int.tdiv_eq_ediv_of_nonneg (by omega)]; omega
  have d3 : Int.tmod (W 5 k 0 * 8 + W 5 k 1) 8 = W 5 k 1 := by rw [Int.tmod_eq_emod_of_nonneg (by omega)]; omega
  have d4 : Int.tmod (W 5 k 0 * 64 + W 5 k 1 * 8 + W 5 k 2) 8 = W 5 k 2 := by rw [Int.tmod_eq_emod_of_nonneg (by omega)]; omega
  rw [d1, d2, zb_w (x := W 5 k 0 * 8 + W 5 k 1) (by omega) (by omega), d3, d4]
  refine ⟨by omega, fun e => zc_Qi.of ?_, fun e => ⟨fun e1 => zc_Qi.of ?_, fun e1 => ⟨fun e2 => zc_Qi.of ?_, fun e2 => zc_Qi.of ?_⟩⟩⟩
  · rw [if_pos (by omega), e] at hP; exact hP
  · rw [if_pos (by omega), e1] at hP; exact hP
  · rw [if_pos (by omega), e2] at hP; exact hP
  · rwa [if_neg (by omega)] at hP
theorem sc_keep (hW : wOk D W) (hr : rowC W (I 13)) {b s : Int} (hP : ∀ I', (∀ i j, i ≠ 13 → I' i j = I i j) → rowC (pf_keep W b s) (I' 13) → P0 I' J) : zc_v (d + 1) 119 [.inr (.inr (some 12)), .inl b, .inl s] hf pf I J P0 := by
  have hn := hW.n
  have h1 := hr.2.2.2.1
  have h0 := hr.1
  refine zc_inv (M := ax_m119) rfl (Nat.le_of_ble_eq_true rfl) (zk_Wall_keep_0 hf pf I J b s ?_)
  rw [show (ax_w 1).toNat = 1 from rfl, h1, zb_w (x := W 4 0 0) (by omega) (by omega), show ax_w 40 = 40 from rfl, show (ax_w 3).toNat = 3 from rfl, show (ax_w 2).toNat = 2 from rfl, show (ax_w 39).toNat = 39 from rfl]
  have fin : ∀ (I1 : zF) (n : Int), (∀ i j, i ≠ 13 → I1 i j = I i j) → I1 13 0 = I 13 0 → I1 13 1 = n → 0 ≤ n ∧ n ≤ 39 → (∀ j, 42 ≤ j → I1 13 j = I 13 j) → ((W 4 0 0 = 40 ∧ n = 39 ∧ ∀ j, 2 ≤ j → j < 41 → I1 13 j = I 13 (j + 1)) ∨ (W 4 0 0 ≠ 40 ∧ n = W 4 0 0 ∧ ∀ j, 2 ≤ j → j < 42 → I1 13 j = I 13 j)) → zb_W d ax_m119 (34, [some (.inr (.inr (some 12))), some (.inl b), some (.inl s)], [], zc_S hf pf I1 J) (zc_Qv hf pf P0) := by
    intro I1 n hF e0 e1 hn1 e42 hc
    refine zk_Wall_keep_34 hf pf I1 J b s ?_
    rw [show (ax_w 1).toNat = 1 from rfl, e1, zb_w (x := 2 + n) (by omega) (by omega), show (ax_w 0).toNat = 0 from rfl, e0, h0, zu_ne (i := 13) (j := (2 + n).toNat) (a := 13) (b := 1) (by omega), e1]
    refine ⟨by omega, zc_Qv.of (hP _ (fun i j q => by rw [zu_ne (by omega), zu_ne (by omega)]; exact hF i j q) (rowC_keep hr hn ?_ (fun j q => ?_) ?_))⟩
    · rw [zu_ne (by omega), zu_ne (by omega), e0]
    · rw [zu_ne (by omega), zu_ne (by omega), e42 j q]
    · rcases hc with ⟨c1, c2, c3⟩ | ⟨c1, c2, c3⟩
      · subst c2
        refine Or.inl ⟨c1, ?_, ?_, fun j q1 q2 => ?_⟩
        · rw [zu_eq]; rfl
        · rw [zu_ne (by omega)]; exact zu_eq
        · rw [zu_ne (by omega), zu_ne (by omega), c3 j q1 q2]
      · subst c2
        refine Or.inr ⟨c1, zu_eq, ?_, fun j q1 q2 => ?_⟩
        · rw [zu_ne (by omega), zu_eq]
        · rw [zu_ne (by omega), zu_ne (by omega), c3 j q1 (by omega)]
  refine ⟨fun c => fin I _ (fun _ _ _ => rfl) rfl h1 (by omega) (fun _ _ => rfl) (Or.inr ⟨by omega, rfl, fun _ _ _ => rfl⟩), fun c => fin _ 39 (fun i j q => ?_) ?_ zu_eq ⟨by decide, by decide⟩ (fun j q => ?_) (Or.inl ⟨by omega, rfl, fun j q1 q2 => ?_⟩)⟩
  · rw [zu_ne (by omega)]; unfold ax_cpy; rw [if_neg (by omega)]
  · rw [zu_ne (by omega)]; unfold ax_cpy; rw [if_neg (by omega)]
  · rw [zu_ne (by omega)]; unfold ax_cpy; rw [if_neg (by omega)]
  · rw [zu_ne (by omega)]; unfold ax_cpy; rw [if_pos (by omega)]
    exact congrArg (I 13) (by omega)
theorem sc_keepIf_22 {W0 : zD} (hW : wOk D W) (hW0 : wOk D W0) (hr : rowC W (I 13)) (hr0 : rowC W0 (I 14)) {b m : Int} (hb : 0 ≤ b ∧ b < 4) (hm : 0 ≤ m ∧ m ≤ 6) {Q : Option ax_v → ax_S → Prop} : ∀ (n : Nat) (k f : Int), 0 ≤ k → k + n = m → (f = 0 ∨ f = 1) → (f = 0 → ∀ j, 0 ≤ j → j < k → W 3 b j = W0 3 b j) → ((∀ j, 0 ≤ j → j < m → W 3 b j = W0 3 b j) → Q none (zc_S hf pf I J)) → zb_W (d + 5) ax_m125 (76, [some (.inr (.inr (some 12))), some (.inr (.inr (some ((39 + 29 * hs))))), some (.inl b), some (.inl 0), none, some (.inl 0), some (.inl m), some (.inl 0), none, none], [], zc_S hf pf I J) Q → zb_W (d + 5) ax_m125 (22, [some (.inr (.inr (some 12))), some (.inr (.inr (some ((39 + 29 * hs))))), some (.inl b), some (.inl 0), some (.inl f), some (.inl 0), some (.inl m), some (.inl k), none, none], [], zc_S hf pf I J) Q := by
  intro n
  induction n with
  | zero =>
    intro k f h0 he hf01 hf0 hQ1 hQ2
    refine zk_Wall_keepIfChanged_22 hf pf I J b 0 f 0 m k hs ?_
    rw [zb_w (x := k) (by omega) (by omega), zb_w (x := m) (by omega) (by omega)]
    exact ⟨fun c => by omega, fun _ => b01 hf01 (fun _ => hQ2) (fun e => hQ1 (fun j a c => hf0 e j a (by omega)))⟩
  | succ n ih =>
    intro k f h0 he hf01 hf0 hQ1 hQ2
    have g1 := hW.g b k
    have g2 := hW0.g b k
    have up : zb_W (d + 5) ax_m125 (54, [some (.inr (.inr (some 12))), some (.inr (.inr (some ((39 + 29 * hs))))), some (.inl b), some (.inl 0), none, some (.inl 0), some (.inl m), some (.inl k), none, none], [], zc_S hf pf I J) Q := zk_Wall_keepIfChanged_54 hf pf I J b 0 0 m k hs (ih (k + 1) 1 (by omega) (by omega) (Or.inr rfl) (fun e => absurd e (by decide)) hQ1 hQ2)
    refine zk_Wall_keepIfChanged_22 hf pf I J b 0 f 0 m k hs ?_
    rw [zb_w (x := k) (by omega) (by omega), zb_w (x := m) (by omega) (by omega)]
    refine ⟨fun _ => b01 hf01 (fun _ => up) (fun e => sc_glyphAt hr hb ⟨h0, by omega⟩ (sc_glyphIn (by decide) rfl hr0 hb ⟨h0, by omega⟩ ?_)), fun c => by omega⟩
    rw [g1.w, g2.w]
    refine ⟨fun e2 => ?_, fun _ => up⟩
    refine ih (k + 1) 0 (by omega) (by omega) (Or.inl rfl) (fun _ j a c => ?_) hQ1 hQ2
    by_cases e3 : j = k
    · subst e3; exact e2
    · exact hf0 e j a (by omega)
theorem sc_keepIf_76 {I0 : zF} {W0 : zD} (eh : hs = 0 ∨ hs = 1) (hS0 : cS D pg hs I0) (hW : wOk D W) (hW0 : wOk D W0) (hr : rowC W (I0 13)) (hr0 : rowC W0 (I0 14)) {b m : Int} (hb : 0 ≤ b ∧ b < D 6 0 0) (hm : m = D 4 (W 1 b 0) 0) (h2 : W0 2 b 0 = W 2 b 0) {Q : Option ax_v → ax_S → Prop} : ∀ (n : Nat) (k c s : Int) (I : zF), cE hs I0 I → 0 ≤ k → k + n = m → (c = 0 ∨ c = 1) → (∀ I', cE hs I0 I' → pf_any (pf_said D pg W b) (pf_said D pg W0 b) n k c = 0 → Q none (zc_S hf pf I' J)) → (∀ I', cE hs I0 I' → pf_any (pf_said D pg W b) (pf_said D pg W0 b) n k c = 1 → zc_v (d + 5) 119 [.inr (.inr (some 12)), .inl b, .inl (pf_zer (pf_said D pg W b) n k s)] hf pf I' J (fun I22 J23 => Q none (zc_S hf pf I22 J23))) → zb_W (d + 5) ax_m125 (76, [some (.inr (.inr (some 12))), some (.inr (.inr (some ((39 + 29 * hs))))), some (.inl b), some (.inl s), none, some (.inl c), some (.inl m), some (.inl k), none, none], [], zc_S hf pf I J) Q := by
  have h6 := hS0.ok.a6 0 0
  have h4 := hS0.ok.a4 (W 1 b 0) 0
  intro n
  induction n with
  | zero =>
    intro k c s I hE h0 he hc hQ0 hQ1
    refine zk_Wall_keepIfChanged_76 hf pf I J b s c m k hs eh ?_
    rw [zb_w (x := k) (by omega) (by omega), zb_w (x := m) (by omega) (by omega)]
    exact ⟨fun q => by omega, fun _ => b01 hc (fun e => hQ1 I hE e) (fun e => hQ0 I hE e)⟩
  | succ n ih =>
    intro k c s I hE h0 he hc hQ0 hQ1
    have hS := hE.S hS0
    have hr1 : rowC W (I 13) := by rw [hE.n13 eh]; exact hr
    have hr01 : rowC W0 (I 14) := by rw [show I 14 = I0 14 from funext (fun j => hE 14 j (by omega) (by omega) (by omega) (by omega))]; exact hr0
    have r1 := pf_read_in hS0.ok (W 2 b 0) (W0 3 b k)
    have r2 := pf_read_in hS0.ok (W 2 b 0) (W 3 b k)
    have e1 : pf_said D pg W b k = pf_read D pg (W 2 b 0) (W 3 b k) := rfl
    have e0 : pf_said D pg W0 b k = pf_read D pg (W 2 b 0) (W0 3 b k) := by unfold pf_said; rw [h2]
    unfold pf_any pf_zer at hQ1
    unfold pf_any at hQ0
    rw [e1, e0] at hQ1 hQ0
    refine zk_Wall_keepIfChanged_76 hf pf I J b s c m k hs eh ?_
    rw [zb_w (x := k) (by omega) (by omega), zb_w (x := m) (by omega) (by omega)]
    refine ⟨fun _ => sc_handOf hr1 ⟨hb.1, by omega⟩ (sc_glyphIn (by decide) rfl hr01 ⟨hb.1, by omega⟩ ⟨h0, by omega⟩ (sc_readingOf eh hS (hW.h hb) (hW0.g b k) (fun I2 hE2 => ?_))), fun q => by omega⟩
    have hE3 := hE.trans hE2
    have hr2 : rowC W (I2 13) := by rw [hE3.n13 eh]; exact hr
    refine sc_handOf hr2 ⟨hb.1, by omega⟩ (sc_glyphAt hr2 ⟨hb.1, by omega⟩ ⟨h0, by omega⟩ (sc_readingOf eh (hE3.S hS0) (hW.h hb) (hW.g b k) (fun I4 hE4 => ?_)))
    have hE5 := hE3.trans hE4
    rw [zb_w (x := pf_read D pg (W 2 b 0) (W0 3 b k)) (by omega) (by omega), zb_w (x := pf_read D pg (W 2 b 0) (W 3 b k)) (by omega) (by omega), show ax_w 0 = 0 from rfl]
    have nx : ∀ c' s', (c' = 0 ∨ c' = 1) → c' = (if c = 0 ∧ pf_read D pg (W 2 b 0) (W 3 b k) = pf_read D pg (W 2 b 0) (W0 3 b k) then (0 : Int) else 1) → s' = (if pf_read D pg (W 2 b 0) (W 3 b k) = 0 then s + 1 else s) → zb_W (d + 5) ax_m125 (76, [some (.inr (.inr (some 12))), some (.inr (.inr (some ((39 + 29 * hs))))), some (.inl b), some (.inl s'), none, some (.inl c'), some (.inl m), some (.inl (k + 1)), none, none], [], zc_S hf pf I4 J) Q := by
      intro c' s' hc' ec es
      subst ec
      subst es
      exact ih (k + 1) _ _ I4 hE5 (by omega) (by omega) hc' hQ0 hQ1
    have one : (¬ (c = 0 ∧ pf_read D pg (W 2 b 0) (W 3 b k) = pf_read D pg (W 2 b 0) (W0 3 b k))) → zb_W (d + 5) ax_m125 (140, [some (.inr (.inr (some 12))), some (.inr (.inr (some ((39 + 29 * hs))))), some (.inl b), some (.inl s), none, none, some (.inl m), some (.inl k), none, some (.inl (pf_read D pg (W 2 b 0) (W 3 b k)))], [], zc_S hf pf I4 J) Q := by
      intro q
      refine zk_Wall_keepIfChanged_140 hf pf I4 J b s m k _ hs ?_
      rw [zb_w (x := pf_read D pg (W 2 b 0) (W 3 b k)) (by omega) (by omega), show ax_w 0 = 0 from rfl]
      exact ⟨fun e => nx 1 _ (Or.inr rfl) (by rw [if_neg q]) (by rw [if_pos e]), fun e => nx 1 _ (Or.inr rfl) (by rw [if_neg q]) (by rw [if_neg e]; omega)⟩
    have hc0 : ax_w c = 0 → c = 0 := by
      intro e
      rcases hc with r | r
      · exact r
      · rw [r] at e; exact absurd e (by decide)
    have hc1 : c = 0 → ax_w c = 0 := fun e => by rw [e]; rfl
    exact ⟨fun e => ⟨fun e2 => ⟨fun e3 => nx 0 _ (Or.inl rfl) (by rw [if_pos ⟨hc0 e, e2.symm⟩]) (by rw [if_pos e3]), fun e3 => nx 0 _ (Or.inl rfl) (by rw [if_pos ⟨hc0 e, e2.symm⟩]) (by rw [if_neg e3]; omega)⟩, fun e2 => one (fun r => e2 r.2.symm)⟩, fun e => one (fun r => e (hc1 r.1))⟩
theorem sc_keepIfChanged {W0 : zD} (eh : hs = 0 ∨ hs = 1) (hB : cB D pg W hs I) (hW0 : wOk D W0) (hr0 : rowC W0 (I 14)) {b : Int} (hb : 0 ≤ b ∧ b < D 6 0 0) (h2 : W0 2 b 0 = W 2 b 0) (hP : ∀ I', cN hs I I' → cB D pg (pf_kb D pg W0 W b) hs I' → P0 I' J) : zc_v (d + 6) 125 [.inr (.inr (some 12)), .inr (.inr (some ((39 + 29 * hs)))), .inl b] hf pf I J P0 := by
  have h6 := hB.S.ok.a6 0 0
  have h4 := hB.S.ok.a4 (W 1 b 0) 0
  have hok := wOk_kb (W0 := W0) hB.S.ok hB.W (b := b) (by omega)
  unfold pf_kb at hP hok
  refine zc_inv (M := ax_m125) rfl (Nat.le_of_ble_eq_true rfl) (zk_Wall_keepIfChanged_0 hf pf I J b hs eh (sc_wordOf hB.2.2 (by omega) (sc_sizeOf eh hB.S.ok hB.S.L (hB.W.w hb) ?_)))
  refine sc_keepIf_22 hB.W hW0 hB.2.2 hr0 (by omega) h4 (D 4 (W 1 b 0) 0).toNat 0 0 (by decide) (by omega) (Or.inl rfl) (fun _ j a c => by omega) (fun hall => ?_) ?_
  · rw [if_pos (pf_any_eq _ _ (fun j a c => ?_))] at hP
    · exact zc_Qv.of (hP I (cN.refl hs I) hB)
    · unfold pf_said
      rw [h2, hall j a (by omega)]
  · refine sc_keepIf_76 eh hB.S hB.W hW0 hB.2.2 hr0 hb rfl h2 (D 4 (W 1 b 0) 0).toNat 0 0 0 I (cE.refl hs I) (by decide) (by omega) (Or.inl rfl) (fun I' hE e => ?_) (fun I' hE e => ?_)
    · rw [if_pos e] at hP
      exact zc_Qv.of (hP I' hE.N (hE.B eh hB))
    · rw [if_neg (by omega)] at hP hok
      have hB' := hE.B eh hB
      refine sc_keep hB.W hB'.2.2 (fun I2 hF hr2 => zc_Qv.of (hP I2 (hE.N.trans (fun i j a _ _ _ _ => hF i j a)) ⟨?_, hok, hr2⟩))
      exact cN.S (fun i j a _ _ _ _ => hF i j a) hB'.S
end ZC5
