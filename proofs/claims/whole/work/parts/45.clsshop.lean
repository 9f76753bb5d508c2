/-! THE CLASS: a shop's letters and words -/
def cL (D : zD) (hs : Nat) (I : zF) : Prop :=
  (∀ h : Int, 0 ≤ h → h < 2 → I (41 + 29 * hs) h.toNat = D 0 h 0) ∧
  (∀ h k : Int, 0 ≤ h → h < 2 → 0 ≤ k → k < D 0 h 0 → I (42 + 29 * hs) (h * 12 + k).toNat = D 1 h k ∧ I (43 + 29 * hs) (h * 12 + k).toNat = D 2 h k) ∧
  I (39 + 29 * hs) 10 = D 3 0 0 ∧ (∀ w : Int, 0 ≤ w → w < D 3 0 0 → I (62 + 29 * hs) w.toNat = D 4 w 0) ∧
  (∀ w k : Int, 0 ≤ w → w < D 3 0 0 → 0 ≤ k → k < 6 → I (63 + 29 * hs) (w * 6 + k).toNat = D 5 w k) ∧ I (39 + 29 * hs) 11 = D 6 0 0 ∧
  (I (40 + 29 * hs) 5 = D 8 0 0 ∧ I (39 + 29 * hs) 13 = D 8 1 0 ∧ I (39 + 29 * hs) 14 = D 8 2 0)
def cS (D : zD) (pg : zG) (hs : Nat) (I : zF) : Prop := zD_ok D pg ∧ cL D hs I ∧ cP I (45 + 29 * hs) (pg 0) ∧ cP I (58 + 29 * hs) (pg 1)
theorem cL.cn {D : zD} {hs : Nat} {I : zF} (h : cL D hs I) {a : Int} (ha : 0 ≤ a ∧ a < 2) : I (41 + 29 * hs) a.toNat = D 0 a 0 := h.1 a ha.1 ha.2
theorem cL.nm {D : zD} {hs : Nat} {I : zF} (h : cL D hs I) {a k : Int} (ha : 0 ≤ a ∧ a < 2) (hk : 0 ≤ k ∧ k < D 0 a 0) : I (42 + 29 * hs) (a * 12 + k).toNat = D 1 a k := (h.2.1 a k ha.1 ha.2 hk.1 hk.2).1
theorem cL.gl {D : zD} {hs : Nat} {I : zF} (h : cL D hs I) {a k : Int} (ha : 0 ≤ a ∧ a < 2) (hk : 0 ≤ k ∧ k < D 0 a 0) : I (43 + 29 * hs) (a * 12 + k).toNat = D 2 a k := (h.2.1 a k ha.1 ha.2 hk.1 hk.2).2
theorem cL.wn {D : zD} {hs : Nat} {I : zF} (h : cL D hs I) : I (39 + 29 * hs) 10 = D 3 0 0 := h.2.2.1
theorem cL.wl {D : zD} {hs : Nat} {I : zF} (h : cL D hs I) {w : Int} (hw : 0 ≤ w ∧ w < D 3 0 0) : I (62 + 29 * hs) w.toNat = D 4 w 0 := h.2.2.2.1 w hw.1 hw.2
theorem cL.wk {D : zD} {hs : Nat} {I : zF} (h : cL D hs I) {w k : Int} (hw : 0 ≤ w ∧ w < D 3 0 0) (hk : 0 ≤ k ∧ k < 6) : I (63 + 29 * hs) (w * 6 + k).toNat = D 5 w k := h.2.2.2.2.1 w k hw.1 hw.2 hk.1 hk.2
theorem cL.bn {D : zD} {hs : Nat} {I : zF} (h : cL D hs I) : I (39 + 29 * hs) 11 = D 6 0 0 := h.2.2.2.2.2.1
theorem cL.rl {D : zD} {hs : Nat} {I : zF} (h : cL D hs I) : I (40 + 29 * hs) 5 = D 8 0 0 ∧ I (39 + 29 * hs) 13 = D 8 1 0 ∧ I (39 + 29 * hs) 14 = D 8 2 0 := h.2.2.2.2.2.2
/-- the cells of a shop that a reckoning leaves as they are -/
def cLk (hs i j : Nat) : Prop := i = 41 + 29 * hs ∨ i = 42 + 29 * hs ∨ i = 43 + 29 * hs ∨ i = 62 + 29 * hs ∨ i = 63 + 29 * hs ∨ (i = 39 + 29 * hs ∧ (j = 10 ∨ j = 11 ∨ j = 13 ∨ j = 14)) ∨ (i = 40 + 29 * hs ∧ j = 5)
theorem cL_cong {D : zD} {hs : Nat} {I I' : zF} (h : cL D hs I) (k : ∀ i j, cLk hs i j → I' i j = I i j) : cL D hs I' := by
  unfold cL at *
  obtain ⟨a, b, c, d, e, f, g⟩ := h
  unfold cLk at k
  refine ⟨fun x y z => by rw [k _ _ (by omega)]; exact a x y z, fun x y p q r s => by rw [k _ _ (by omega), k _ _ (by omega)]; exact b x y p q r s, by rw [k _ _ (by omega)]; exact c, fun x y z => by rw [k _ _ (by omega)]; exact d x y z, fun x y p q r s => by rw [k _ _ (by omega)]; exact e x y p q r s, by rw [k _ _ (by omega)]; exact f, ?_⟩
  rw [k _ _ (by omega), k _ _ (by omega), k _ _ (by omega)]
  exact g
theorem cS_cong {D : zD} {pg : zG} {hs : Nat} {I I' : zF} (h : cS D pg hs I) (k : ∀ i j, cLk hs i j → I' i j = I i j) (h1 : I' (45 + 29 * hs) 2 = I (45 + 29 * hs) 2) (h2 : ∀ j, I' (46 + 29 * hs) j = I (46 + 29 * hs) j) (h3 : I' (58 + 29 * hs) 2 = I (58 + 29 * hs) 2) (h4 : ∀ j, I' (59 + 29 * hs) j = I (59 + 29 * hs) j) : cS D pg hs I' := by
  refine ⟨h.1, cL_cong h.2.1 k, cP_cong h1 (fun j => ?_) h.2.2.1, cP_cong h3 (fun j => ?_) h.2.2.2⟩
  · rw [show 45 + 29 * hs + 1 = 46 + 29 * hs by omega]; exact h2 j
  · rw [show 58 + 29 * hs + 1 = 59 + 29 * hs by omega]; exact h4 j
/-- nothing has changed but what a reckoning of shop hs writes -/
def cE (hs : Nat) (I I' : zF) : Prop := ∀ i j, i ≠ 44 + 29 * hs → i ≠ 47 + 29 * hs → i ≠ 60 + 29 * hs → i ≠ 61 + 29 * hs → I' i j = I i j
theorem cE.refl (hs : Nat) (I : zF) : cE hs I I := fun _ _ _ _ _ _ => rfl
theorem cE.trans {hs : Nat} {I I' I2 : zF} (h : cE hs I I') (h2 : cE hs I' I2) : cE hs I I2 := fun i j a b c e => (h2 i j a b c e).trans (h i j a b c e)
theorem cE.u {hs : Nat} {I I' : zF} (h : cE hs I I') {i n : Nat} {v : Int} (hi : i = 44 + 29 * hs ∨ i = 47 + 29 * hs ∨ i = 60 + 29 * hs ∨ i = 61 + 29 * hs) : cE hs I (ax_u I' i n v) := fun a b q1 q2 q3 q4 => by rw [zu_ne (by omega)]; exact h a b q1 q2 q3 q4
theorem cE.L {D : zD} {hs : Nat} {I I' : zF} (h : cE hs I I') (hL : cL D hs I) : cL D hs I' := cL_cong hL (fun i j q => by unfold cLk at q; exact h i j (by omega) (by omega) (by omega) (by omega))
theorem cE.S {D : zD} {pg : zG} {hs : Nat} {I I' : zF} (h : cE hs I I') (hS : cS D pg hs I) : cS D pg hs I' := cS_cong hS (fun i j q => by unfold cLk at q; exact h i j (by omega) (by omega) (by omega) (by omega)) (h _ _ (by omega) (by omega) (by omega) (by omega)) (fun j => h _ _ (by omega) (by omega) (by omega) (by omega)) (h _ _ (by omega) (by omega) (by omega) (by omega)) (fun j => h _ _ (by omega) (by omega) (by omega) (by omega))
theorem cS.ok {D : zD} {pg : zG} {hs : Nat} {I : zF} (h : cS D pg hs I) : zD_ok D pg := h.1
theorem cS.L {D : zD} {pg : zG} {hs : Nat} {I : zF} (h : cS D pg hs I) : cL D hs I := h.2.1
section ZC3
variable {d hf pf hs : Nat} {I J : zF} {D : zD} {pg : zG} {P : Int → zF → zF → Prop} {P0 : zF → zF → Prop}
theorem sc_isHand {x : Int} (hx : n32 x) (hP : P (if 0 ≤ x ∧ x ≤ 1 then 1 else 0) I J) : zc_i (d + 1) 161 [.inl x] hf pf I J P := by
  refine zc_ini (M := ax_m161) rfl (Nat.le_of_ble_eq_true rfl) (zk_Top_isHand_0 hf pf I J x ?_)
  rw [hx.w, show ax_w 0 = 0 from rfl, show ax_w 2 = 2 from rfl]
  refine ⟨fun c => zc_Qi.of ?_, fun c => ⟨fun c2 => zc_Qi.of ?_, fun c2 => zc_Qi.of ?_⟩⟩
  · rwa [if_neg (by omega)] at hP
  · rwa [if_pos (by omega)] at hP
  · rwa [if_neg (by omega)] at hP
theorem sc_count (eh : hs = 0 ∨ hs = 1) (hL : cL D hs I) {h : Int} (hh : 0 ≤ h ∧ h < 2) (hP : P (D 0 h 0) I J) : zc_i (d + 2) 3 [.inr (.inr (some (40 + 29 * hs))), .inl h] hf pf I J P := by
  refine zc_ini (M := ax_m3) rfl (Nat.le_of_ble_eq_true rfl) (zk_Alphabet_count_0 hf pf I J h hs eh (sc_isHand ⟨by omega, by omega⟩ (bc (fun _ => ?_) (fun q => absurd (show 0 ≤ h ∧ h ≤ 1 by omega) q))))
  rw [zb_w (x := h) (by omega) (by omega), hL.cn hh]
  exact ⟨by omega, zc_Qi.of hP⟩
theorem sc_holds (eh : hs = 0 ∨ hs = 1) (ok : zD_ok D pg) (hL : cL D hs I) {h k : Int} (hh : n32 h) (hk : n32 k) (hP : P (if (0 ≤ h ∧ h < 2) ∧ (0 ≤ k ∧ k < D 0 h 0) then 1 else 0) I J) : zc_i (d + 2) 4 [.inr (.inr (some (40 + 29 * hs))), .inl h, .inl k] hf pf I J P := by
  have h0 := ok.a0 h 0
  refine zc_ini (M := ax_m4) rfl (Nat.le_of_ble_eq_true rfl) (zk_Alphabet_holds_0 hf pf I J h k hs eh (sc_isHand hh (bc (fun q => ?_) (fun q => zc_Qi.of (by rwa [if_neg (by omega)] at hP)))))
  rw [hk.w, zb_w (x := h) (by omega) (by omega), hL.cn (by omega), zb_w (x := D 0 h 0) (by omega) (by omega), show ax_w 0 = 0 from rfl]
  refine ⟨fun c => zc_Qi.of ?_, fun c => ⟨by omega, fun c2 => zc_Qi.of ?_, fun c2 => zc_Qi.of ?_⟩⟩
  · rwa [if_neg (by omega)] at hP
  · rwa [if_pos (by omega)] at hP
  · rwa [if_neg (by omega)] at hP
theorem sc_nameOf (eh : hs = 0 ∨ hs = 1) (ok : zD_ok D pg) (hL : cL D hs I) {h k : Int} (hh : 0 ≤ h ∧ h < 2) (hk : 0 ≤ k ∧ k < D 0 h 0) (hP : P (D 1 h k) I J) : zc_i (d + 3) 5 [.inr (.inr (some (40 + 29 * hs))), .inl h, .inl k] hf pf I J P := by
  have h0 := ok.a0 h 0
  refine zc_ini (M := ax_m5) rfl (Nat.le_of_ble_eq_true rfl) (zk_Alphabet_nameOf_0 hf pf I J h k hs eh (sc_holds eh ok hL ⟨by omega, by omega⟩ ⟨by omega, by omega⟩ (bc (fun _ => ?_) (fun q => absurd (show (0 ≤ h ∧ h < 2) ∧ (0 ≤ k ∧ k < D 0 h 0) from ⟨hh, hk⟩) q))))
  rw [zb_w (x := h * 12 + k) (by omega) (by omega), hL.nm hh hk]
  exact ⟨by omega, zc_Qi.of hP⟩
theorem sc_glyphOf (eh : hs = 0 ∨ hs = 1) (ok : zD_ok D pg) (hL : cL D hs I) {h k : Int} (hh : 0 ≤ h ∧ h < 2) (hk : 0 ≤ k ∧ k < D 0 h 0) (hP : P (D 2 h k) I J) : zc_i (d + 3) 6 [.inr (.inr (some (40 + 29 * hs))), .inl h, .inl k] hf pf I J P := by
  have h0 := ok.a0 h 0
  refine zc_ini (M := ax_m6) rfl (Nat.le_of_ble_eq_true rfl) (zk_Alphabet_glyphOf_0 hf pf I J h k hs eh (sc_holds eh ok hL ⟨by omega, by omega⟩ ⟨by omega, by omega⟩ (bc (fun _ => ?_) (fun q => absurd (show (0 ≤ h ∧ h < 2) ∧ (0 ≤ k ∧ k < D 0 h 0) from ⟨hh, hk⟩) q))))
  rw [zb_w (x := h * 12 + k) (by omega) (by omega), hL.gl hh hk]
  exact ⟨by omega, zc_Qi.of hP⟩
theorem sc_indexOf_l (eh : hs = 0 ∨ hs = 1) (ok : zD_ok D pg) (hL : cL D hs I) {h x : Int} (hh : 0 ≤ h ∧ h < 2) (hx : n32 x) {Q : Option ax_v → ax_S → Prop} : ∀ (n : Nat) (k : Int), 0 ≤ k → k + n = D 0 h 0 → Q (some (.inl (pf_find (D 1 h) x n k))) (zc_S hf pf I J) → zb_W (d + 2) ax_m7 (9, [some (.inr (.inr (some (40 + 29 * hs)))), some (.inl h), some (.inl x), some (.inl (D 0 h 0)), some (.inl k)], [], zc_S hf pf I J) Q := by
  have h0d := ok.a0 h 0
  intro n
  induction n with
  | zero =>
    intro k h0 he hQ
    refine zk_Alphabet_indexOf_9 hf pf I J h x (D 0 h 0) k hs eh ?_
    rw [zb_w (x := k) (by omega) (by omega), zb_w (x := D 0 h 0) (by omega) (by omega)]
    exact ⟨fun c => by omega, fun _ => hQ⟩
  | succ n ih =>
    intro k h0 he hQ
    have h1 := ok.a1 h k
    unfold pf_find at hQ
    refine zk_Alphabet_indexOf_9 hf pf I J h x (D 0 h 0) k hs eh ?_
    rw [zb_w (x := k) (by omega) (by omega), zb_w (x := D 0 h 0) (by omega) (by omega), zb_w (x := h * 12 + k) (by omega) (by omega), hL.nm hh (by omega), zb_w (x := D 1 h k) (by omega) (by omega), hx.w]
    refine ⟨fun _ => ⟨by omega, fun e => ?_, fun e => ?_⟩, fun c => by omega⟩
    · rw [if_pos e] at hQ; exact hQ
    · rw [if_neg e] at hQ; exact ih (k + 1) (by omega) (by omega) hQ
theorem sc_indexOf (eh : hs = 0 ∨ hs = 1) (ok : zD_ok D pg) (hL : cL D hs I) {h x : Int} (hh : 0 ≤ h ∧ h < 2) (hx : n32 x) (hP : P (pf_at D h x) I J) : zc_i (d + 3) 7 [.inr (.inr (some (40 + 29 * hs))), .inl h, .inl x] hf pf I J P := by
  have h0 := ok.a0 h 0
  exact zc_ini (M := ax_m7) rfl (Nat.le_of_ble_eq_true rfl) (zk_Alphabet_indexOf_0 hf pf I J h x hs eh (sc_count eh hL hh (sc_indexOf_l eh ok hL hh hx (D 0 h 0).toNat 0 (by omega) (by omega) (zc_Qi.of hP))))
theorem cK24 {hs : Nat} (eh : hs = 0 ∨ hs = 1) : zc_K (44 + 29 * hs) = (20, 24) ∧ zc_K (61 + 29 * hs) = (20, 24) := by
  rcases eh with rfl | rfl
  · exact ⟨rfl, rfl⟩
  · exact ⟨rfl, rfl⟩
theorem sc_doubtOf (eh : hs = 0 ∨ hs = 1) (hS : cS D pg hs I) {h k g : Int} (hh : 0 ≤ h ∧ h < 2) (hk : 0 ≤ k ∧ k < D 0 h 0) (hg : g15 g) (hP : ∀ I', cE hs I I' → P (pf_doubt D pg h k g) I' J) : zc_i (d + 4) 8 [.inr (.inr (some (40 + 29 * hs))), .inl h, .inl k, .inl g] hf pf I J P := by
  have h0 := hS.ok.a0 h 0
  have a2 := hS.ok.a2 h k
  refine zc_ini (M := ax_m8) rfl (Nat.le_of_ble_eq_true rfl) (zk_Alphabet_doubtOf_0 hf pf I J h k g hs eh (sc_holds eh hS.ok hS.L ⟨by omega, by omega⟩ ⟨by omega, by omega⟩ (bc (fun _ => ?_) (fun q => absurd (show (0 ≤ h ∧ h < 2) ∧ (0 ≤ k ∧ k < D 0 h 0) from ⟨hh, hk⟩) q))))
  rw [zb_w (x := h * 12 + k) (by omega) (by omega), hS.L.gl hh hk]
  refine ⟨by omega, sc_bitCount (g15_andn hg a2.g31) (sc_bitCount (g15_andn a2 hg.g31) (sc_bitCount a2 ?_))⟩
  have b1 := pf_bits_b (ax_and g (ax_xor (D 2 h k) (-1)))
  have b2 := pf_bits_b (ax_and (D 2 h k) (ax_xor g (-1)))
  have b3 := pf_bits_b (D 2 h k)
  rw [pf_doubt_eq] at hP
  revert b1 b2 b3 hP
  generalize pf_bits (ax_and g (ax_xor (D 2 h k) (-1))) = m
  generalize pf_bits (ax_and (D 2 h k) (ax_xor g (-1))) = l
  generalize pf_bits (D 2 h k) = n
  intro hP b1 b2 b3
  rw [show (ax_w 0).toNat = 0 from rfl, show (ax_w 1).toNat = 1 from rfl, show (ax_w 2).toNat = 2 from rfl]
  have hE : cE hs I (ax_u (ax_u (ax_u I (44 + 29 * hs) 0 m) (44 + 29 * hs) 1 l) (44 + 29 * hs) 2 n) := (((cE.refl hs I).u (by omega)).u (by omega)).u (by omega)
  have e0 : (ax_u (ax_u (ax_u I (44 + 29 * hs) 0 m) (44 + 29 * hs) 1 l) (44 + 29 * hs) 2 n) (44 + 29 * hs) 0 = m := by rw [zu_ne (by omega), zu_ne (by omega), zu_eq]
  have e1 : (ax_u (ax_u (ax_u I (44 + 29 * hs) 0 m) (44 + 29 * hs) 1 l) (44 + 29 * hs) 2 n) (44 + 29 * hs) 1 = l := by rw [zu_ne (by omega), zu_eq]
  have e2 : (ax_u (ax_u (ax_u I (44 + 29 * hs) 0 m) (44 + 29 * hs) 1 l) (44 + 29 * hs) 2 n) (44 + 29 * hs) 2 = n := zu_eq
  revert hE e0 e1 e2
  generalize ax_u (ax_u (ax_u I (44 + 29 * hs) 0 m) (44 + 29 * hs) 1 l) (44 + 29 * hs) 2 n = I1
  intro hE e0 e1 e2
  have hS1 := hE.S hS
  have hb := pf_dw_in hS.ok b1 b2 b3
  refine sc_run (kd := 0) (v := pf_vd m l n) (q := pf_q0) (b := false) (by unfold isP; omega) (by omega) (cK24 eh).1 (by omega) ⟨fun p hp hp9 => ?_, fun q => absurd q (by decide), q0_b, fun p _ => pf_vd_b b1 b2 b3 p⟩ hS1.2.2.1 (Or.inr hS.ok.2.2.1) (fun I2 hF => ?_)
  · have hp' := of_decide_eq_true hp
    refine ⟨?_, pf_vd_b b1 b2 b3 p⟩
    have : p = 0 ∨ p = 1 ∨ p = 2 := by omega
    unfold pf_vd
    rcases this with rfl | rfl | rfl
    · exact e0
    · exact e1
    · exact e2
  · refine sc_max ⟨by decide, by decide⟩ hb.n32 (zc_Qi.of ?_)
    have hE2 : cE hs I I2 := hE.trans (fun i j q1 q2 q3 q4 => hF i j (by omega))
    have := hP I2 hE2
    unfold pf_dw at this
    by_cases c : (0 : Int) < pf_res (pf_vd m l n) pf_q0 (pg 0)
    · rw [if_pos c]; rwa [if_neg (by omega)] at this
    · rw [if_neg c]
      by_cases c2 : pf_res (pf_vd m l n) pf_q0 (pg 0) < 0
      · rwa [if_pos c2] at this
      · rw [if_neg c2, show pf_res (pf_vd m l n) pf_q0 (pg 0) = 0 by omega] at this; exact this
theorem sc_readingOf_l {I0 : zF} (eh : hs = 0 ∨ hs = 1) (hS0 : cS D pg hs I0) {h g : Int} (hh : 0 ≤ h ∧ h < 2) (hg : g15 g) {Q : Option ax_v → ax_S → Prop} : ∀ (n : Nat) (k l f : Int) (I : zF), cE hs I0 I → 0 ≤ k → k + n = D 0 h 0 → (0 ≤ l ∧ l ≤ 1000000) → (∀ I', cE hs I0 I' → Q (some (.inl (pf_readL D pg h g n k l f))) (zc_S hf pf I' J)) → zb_W (d + 4) ax_m9 (20, [some (.inr (.inr (some (40 + 29 * hs)))), some (.inl h), some (.inl g), some (.inl l), some (.inl f), some (.inl (D 0 h 0)), some (.inl k), none], [], zc_S hf pf I J) Q := by
  have h0d := hS0.ok.a0 h 0
  intro n
  induction n with
  | zero =>
    intro k l f I hE h0 he hl hQ
    refine zk_Alphabet_readingOf_20 hf pf I J h g l f (D 0 h 0) k hs eh ?_
    rw [zb_w (x := k) (by omega) (by omega), zb_w (x := D 0 h 0) (by omega) (by omega)]
    exact ⟨fun c => by omega, fun _ => hQ I hE⟩
  | succ n ih =>
    intro k l f I hE h0 he hl hQ
    have hd := pf_doubt_in hS0.ok h k g
    unfold pf_readL at hQ
    refine zk_Alphabet_readingOf_20 hf pf I J h g l f (D 0 h 0) k hs eh ?_
    rw [zb_w (x := k) (by omega) (by omega), zb_w (x := D 0 h 0) (by omega) (by omega)]
    refine ⟨fun _ => sc_doubtOf eh (hE.S hS0) hh (by omega) hg (fun I2 hE2 => ?_), fun c => by omega⟩
    have hE3 := hE.trans hE2
    rw [zb_w (x := pf_doubt D pg h k g) (by omega) (by omega), zb_w (x := l) (by omega) (by omega), zb_w (x := h * 12 + k) (by omega) (by omega), (hE3.L hS0.L).nm hh (by omega)]
    refine ⟨fun e => ⟨by omega, ?_⟩, fun e => ?_⟩
    · rw [if_pos e] at hQ
      exact zk_Alphabet_readingOf_60 hf pf I2 J h g _ _ (D 0 h 0) k hs (ih (k + 1) _ _ I2 hE3 (by omega) (by omega) hd hQ)
    · rw [if_neg e] at hQ
      exact zk_Alphabet_readingOf_60 hf pf I2 J h g l f (D 0 h 0) k hs (ih (k + 1) l f I2 hE3 (by omega) (by omega) hl hQ)
theorem sc_readingOf (eh : hs = 0 ∨ hs = 1) (hS : cS D pg hs I) {h g : Int} (hh : 0 ≤ h ∧ h < 2) (hg : g15 g) (hP : ∀ I', cE hs I I' → P (pf_read D pg h g) I' J) : zc_i (d + 5) 9 [.inr (.inr (some (40 + 29 * hs))), .inl h, .inl g] hf pf I J P := by
  have h0 := hS.ok.a0 h 0
  have h8 := hS.ok.a8 0 0
  refine zc_ini (M := ax_m9) rfl (Nat.le_of_ble_eq_true rfl) (zk_Alphabet_readingOf_0 hf pf I J h g hs eh (sc_count eh hS.L hh ?_))
  rw [hS.L.rl.1]
  exact sc_readingOf_l eh hS hh hg (D 0 h 0).toNat 0 (D 8 0 0 + 1) 0 I (cE.refl hs I) (by omega) (by omega) (by omega) (fun I' hE => zc_Qi.of (hP I' hE))
theorem sc_turned_l {g how : Int} (hg : g15 g) (hw : n32 how) {Q : Option ax_v → ax_S → Prop} : ∀ (m : Nat) (i t : Int), 0 ≤ i → i + m = 15 → Q (some (.inl (pf_seenL g how m i t))) (zc_S hf pf I J) → zb_W d ax_m11 (4, [some (.inl g), some (.inl how), some (.inl t), some (.inl i), none, none], [], zc_S hf pf I J) Q := by
  intro m
  induction m with
  | zero =>
    intro i t h0 he hQ
    refine zk_Alphabet_turned_4 hf pf I J g how t i ?_
    rw [zb_w (x := i) (by omega) (by omega)]
    exact ⟨fun c => absurd (show i < 15 from c) (by omega), fun _ => hQ⟩
  | succ m ih =>
    intro i t h0 he hQ
    have hb := bit01' g i
    have et : Int.tdiv i 3 = i / 3 := Int.tdiv_eq_ediv_of_nonneg h0
    have em : Int.tmod i 3 = i % 3 := Int.tmod_eq_emod_of_nonneg h0
    unfold pf_seenL at hQ
    have nx : ∀ t', Q (some (.inl (pf_seenL g how m (i + 1) t'))) (zc_S hf pf I J) → zb_W d ax_m11 (76, [some (.inl g), some (.inl how), some (.inl t'), some (.inl i), none, none], [], zc_S hf pf I J) Q := fun t' h' => zk_Alphabet_turned_76 hf pf I J g how t' i (ih (i + 1) t' (by omega) (by omega) h')
    have n51 : ∀ row, 3 * row + (2 - i % 3) = pf_to how i → ax_and (ax_shr g i) 1 ≠ 0 → zb_W d ax_m11 (51, [some (.inl g), some (.inl how), some (.inl t), some (.inl i), some (.inl row), none], [], zc_S hf pf I J) Q := by
      intro row e1 e2
      refine zk_Alphabet_turned_51 hf pf I J g how t i row ?_
      rw [zb_w (x := i) (by omega) (by omega), show ax_w 3 = 3 from rfl, em, e1]
      rw [if_neg e2] at hQ
      exact nx _ hQ
    refine zk_Alphabet_turned_4 hf pf I J g how t i ?_
    rw [zb_w (x := i) (by omega) (by omega), zb_w (x := ax_and (ax_shr g i) 1) (by omega) (by omega), hw.w, show ax_w 3 = 3 from rfl, et, em, show ax_w 1 = 1 from rfl, show ax_w 2 = 2 from rfl, show ax_w 0 = 0 from rfl]
    have p1 : ∀ r, (how = 1 ∨ how = 2) → r = 4 - i / 3 → ∀ c, ((how = 1 ∨ how = 3) → c = 2 - i % 3) → (¬ (how = 1 ∨ how = 3) → c = i % 3) → 3 * r + c = pf_to how i := by
      intro r a1 a2 c a3 a4
      unfold pf_to
      rw [if_pos a1]
      split
      · rename_i q; rw [a3 q, a2]
      · rename_i q; rw [a4 q, a2]
    have p2 : ∀ r, ¬ (how = 1 ∨ how = 2) → r = i / 3 → ∀ c, ((how = 1 ∨ how = 3) → c = 2 - i % 3) → (¬ (how = 1 ∨ how = 3) → c = i % 3) → 3 * r + c = pf_to how i := by
      intro r a1 a2 c a3 a4
      unfold pf_to
      rw [if_neg a1]
      split
      · rename_i q; rw [a3 q, a2]
      · rename_i q; rw [a4 q, a2]
    have n28 : (how = 1 ∨ how = 2) → ax_and (ax_shr g i) 1 ≠ 0 → zb_W d ax_m11 (28, [some (.inl g), some (.inl how), some (.inl t), some (.inl i), none, none], [], zc_S hf pf I J) Q := by
      intro a1 e2
      refine zk_Alphabet_turned_28 hf pf I J g how t i ?_
      rw [zb_w (x := i) (by omega) (by omega), hw.w, show ax_w 3 = 3 from rfl, et, em, show ax_w 1 = 1 from rfl]
      refine ⟨fun e => n51 _ (p1 _ a1 rfl _ (fun _ => rfl) (fun q => by omega)) e2, fun e => ⟨fun e3 => by omega, fun e3 => ?_⟩⟩
      rw [p1 _ a1 rfl _ (fun q => by omega) (fun _ => rfl)]
      rw [if_neg e2] at hQ
      exact nx _ hQ
    refine ⟨fun _ => ⟨fun e => ?_, fun e => ⟨fun e1 => n28 (Or.inl e1) e, fun e1 => ⟨fun e2 => n28 (Or.inr e2) e, fun e2 => ⟨fun e3 => absurd e3 e1, fun _ => ⟨fun e3 => n51 _ (p2 _ (by omega) rfl _ (fun _ => rfl) (fun q => by omega)) e, fun e3 => ?_⟩⟩⟩⟩⟩, fun c => absurd (show i < 15 by omega) c⟩
    · rw [if_pos e] at hQ; exact nx t hQ
    · rw [p2 _ (by omega) rfl _ (fun q => by omega) (fun _ => rfl)]
      rw [if_neg e] at hQ
      exact nx _ hQ
theorem sc_turned {g how : Int} (hg : g15 g) (hw : n32 how) (hP : P (pf_seen g how) I J) : zc_i (d + 1) 11 [.inl g, .inl how] hf pf I J P := zc_ini (M := ax_m11) rfl (Nat.le_of_ble_eq_true rfl) (zk_Alphabet_turned_0 hf pf I J g how (sc_turned_l hg hw 15 0 0 (by decide) (by decide) (zc_Qi.of hP)))
theorem sc_nearOf {g i : Int} (hi : 0 ≤ i ∧ i < 15) (hP : P (pf_near g i) I J) : zc_i (d + 1) 12 [.inl g, .inl i] hf pf I J P := by
  have em : Int.tmod i 3 = i % 3 := Int.tmod_eq_emod_of_nonneg hi.1
  have k53 : ∀ a, P (a + (if i % 3 < 2 then ax_and (ax_shr g (i + 1)) 1 else 0)) I J → zb_W d ax_m12 (53, [some (.inl g), some (.inl i), some (.inl (i % 3)), some (.inl a)], [], zc_S hf pf I J) (zc_Qi hf pf P) := by
    intro a h
    refine zk_Alphabet_nearOf_53 hf pf I J g i (i % 3) a ?_
    rw [zb_w (x := i % 3) (by omega) (by omega)]
    refine ⟨fun c => zc_Qi.of ?_, fun c => zc_Qi.of ?_⟩
    · rw [if_pos (show i % 3 < 2 from c)] at h; exact h
    · rw [if_neg (show ¬ i % 3 < 2 from c), Int.add_zero] at h; exact h
  have k39 : ∀ a, P (a + (if 0 < i % 3 then ax_and (ax_shr g (i - 1)) 1 else 0) + (if i % 3 < 2 then ax_and (ax_shr g (i + 1)) 1 else 0)) I J → zb_W d ax_m12 (39, [some (.inl g), some (.inl i), some (.inl (i % 3)), some (.inl a)], [], zc_S hf pf I J) (zc_Qi hf pf P) := by
    intro a h
    refine zk_Alphabet_nearOf_39 hf pf I J g i (i % 3) a ?_
    rw [zb_w (x := i % 3) (by omega) (by omega)]
    refine ⟨fun c => k53 _ ?_, fun c => k53 _ ?_⟩
    · rw [if_pos (show 0 < i % 3 from c)] at h; exact h
    · rw [if_neg (show ¬ 0 < i % 3 from c), Int.add_zero] at h; exact h
  have k21 : ∀ a, P (a + (if i < 12 then ax_and (ax_shr g (i + 3)) 1 else 0) + (if 0 < i % 3 then ax_and (ax_shr g (i - 1)) 1 else 0) + (if i % 3 < 2 then ax_and (ax_shr g (i + 1)) 1 else 0)) I J → zb_W d ax_m12 (21, [some (.inl g), some (.inl i), some (.inl (i % 3)), some (.inl a)], [], zc_S hf pf I J) (zc_Qi hf pf P) := by
    intro a h
    refine zk_Alphabet_nearOf_21 hf pf I J g i (i % 3) a ?_
    rw [zb_w (x := i + 3) (by omega) (by omega)]
    refine ⟨fun c => k39 _ ?_, fun c => k39 _ ?_⟩
    · have c' : i + 3 < 15 := c
      rw [if_pos (show i < 12 by omega)] at h; exact h
    · have c' : ¬ i + 3 < 15 := c
      rw [if_neg (show ¬ i < 12 by omega), Int.add_zero] at h; exact h
  refine zc_ini (M := ax_m12) rfl (Nat.le_of_ble_eq_true rfl) (zk_Alphabet_nearOf_0 hf pf I J g i ?_)
  rw [zb_w (x := i) (by omega) (by omega), show ax_w 3 = 3 from rfl, em]
  unfold pf_near at hP
  refine ⟨fun c => k21 _ ?_, fun c => k21 _ ?_⟩
  · rw [if_neg (show ¬ 3 ≤ i by omega)] at hP; exact hP
  · rw [if_pos (show 3 ≤ i by omega)] at hP; rw [Int.zero_add]; exact hP
theorem sc_holdsWord (eh : hs = 0 ∨ hs = 1) (ok : zD_ok D pg) (hL : cL D hs I) {w : Int} (hw : n32 w) (hP : P (if 0 ≤ w ∧ w < D 3 0 0 then 1 else 0) I J) : zc_i (d + 1) 66 [.inr (.inr (some (39 + 29 * hs))), .inl w] hf pf I J P := by
  have h3 := ok.a3 0 0
  refine zc_ini (M := ax_m66) rfl (Nat.le_of_ble_eq_true rfl) (zk_Shop_holdsWord_0 hf pf I J w hs eh ?_)
  rw [hw.w, hL.wn, zb_w (x := D 3 0 0) (by omega) (by omega), show ax_w 0 = 0 from rfl]
  refine ⟨fun c => zc_Qi.of ?_, fun c => ⟨fun c2 => zc_Qi.of ?_, fun c2 => zc_Qi.of ?_⟩⟩
  · rwa [if_neg (by omega)] at hP
  · rwa [if_pos (by omega)] at hP
  · rwa [if_neg (by omega)] at hP
theorem sc_sizeOf (eh : hs = 0 ∨ hs = 1) (ok : zD_ok D pg) (hL : cL D hs I) {w : Int} (hw : 0 ≤ w ∧ w < D 3 0 0) (hP : P (D 4 w 0) I J) : zc_i (d + 2) 67 [.inr (.inr (some (39 + 29 * hs))), .inl w] hf pf I J P := by
  have h3 := ok.a3 0 0
  refine zc_ini (M := ax_m67) rfl (Nat.le_of_ble_eq_true rfl) (zk_Shop_sizeOf_0 hf pf I J w hs eh (sc_holdsWord eh ok hL ⟨by omega, by omega⟩ (bc (fun _ => ?_) (fun q => absurd hw q))))
  rw [zb_w (x := w) (by omega) (by omega), hL.wl hw]
  exact ⟨by omega, zc_Qi.of hP⟩
theorem sc_letterAt (eh : hs = 0 ∨ hs = 1) (ok : zD_ok D pg) (hL : cL D hs I) {w k : Int} (hw : 0 ≤ w ∧ w < D 3 0 0) (hk : 0 ≤ k ∧ k < 6) (hP : P (D 5 w k) I J) : zc_i (d + 2) 68 [.inr (.inr (some (39 + 29 * hs))), .inl w, .inl k] hf pf I J P := by
  have h3 := ok.a3 0 0
  refine zc_ini (M := ax_m68) rfl (Nat.le_of_ble_eq_true rfl) (zk_Shop_letterAt_0 hf pf I J w k hs eh (sc_holdsWord eh ok hL ⟨by omega, by omega⟩ (bc (fun _ => ?_) (fun q => absurd hw q))))
  rw [zb_w (x := k) (by omega) (by omega), zb_w (x := w * 6 + k) (by omega) (by omega), hL.wk hw hk]
  exact ⟨fun c => absurd (show k < 0 from c) (by omega), fun _ => ⟨fun _ => ⟨by omega, zc_Qi.of hP⟩, fun c => absurd (show k < 6 by omega) c⟩⟩
theorem sc_canPaint_l (eh : hs = 0 ∨ hs = 1) (ok : zD_ok D pg) (hL : cL D hs I) {w h : Int} (hw : 0 ≤ w ∧ w < D 3 0 0) (hh : 0 ≤ h ∧ h < 2) {Q : Option ax_v → ax_S → Prop} : ∀ (n : Nat) (k : Int), 0 ≤ k → k + n = D 4 w 0 → Q (some (.inl (pf_can D w h n k))) (zc_S hf pf I J) → zb_W (d + 3) ax_m70 (9, [some (.inr (.inr (some (39 + 29 * hs)))), some (.inl w), some (.inl h), some (.inl (D 4 w 0)), some (.inl k)], [], zc_S hf pf I J) Q := by
  have h3 := ok.a3 0 0
  have h4 := ok.a4 w 0
  intro n
  induction n with
  | zero =>
    intro k h0 he hQ
    refine zk_Shop_canPaint_9 hf pf I J w h (D 4 w 0) k hs eh ?_
    rw [zb_w (x := k) (by omega) (by omega), zb_w (x := D 4 w 0) (by omega) (by omega)]
    exact ⟨fun c => by omega, fun _ => hQ⟩
  | succ n ih =>
    intro k h0 he hQ
    have h5 := ok.a5 w k
    have ha := pf_at_in ok h (D 5 w k)
    have h0d := ok.a0 h 0
    unfold pf_can at hQ
    refine zk_Shop_canPaint_9 hf pf I J w h (D 4 w 0) k hs eh ?_
    rw [zb_w (x := k) (by omega) (by omega), zb_w (x := D 4 w 0) (by omega) (by omega)]
    refine ⟨fun _ => sc_letterAt eh ok hL hw (by omega) (sc_indexOf eh ok hL hh ⟨by omega, by omega⟩ ?_), fun c => by omega⟩
    rw [zb_w (x := pf_at D h (D 5 w k)) (by omega) (by omega), show ax_w (-1) = -1 from rfl]
    refine ⟨fun e => ?_, fun e => ?_⟩
    · rw [if_pos e] at hQ; exact hQ
    · rw [if_neg e] at hQ; exact ih (k + 1) (by omega) (by omega) hQ
theorem sc_canPaint (eh : hs = 0 ∨ hs = 1) (ok : zD_ok D pg) (hL : cL D hs I) {w h : Int} (hw : 0 ≤ w ∧ w < D 3 0 0) (hh : 0 ≤ h ∧ h < 2) (hP : P (pf_canPaint D w h) I J) : zc_i (d + 4) 70 [.inr (.inr (some (39 + 29 * hs))), .inl w, .inl h] hf pf I J P := by
  have h4 := ok.a4 w 0
  exact zc_ini (M := ax_m70) rfl (Nat.le_of_ble_eq_true rfl) (zk_Shop_canPaint_0 hf pf I J w h hs eh (sc_sizeOf eh ok hL hw (sc_canPaint_l eh ok hL hw hh (D 4 w 0).toNat 0 (by omega) (by omega) (zc_Qi.of hP))))
theorem sc_paintedGlyph (eh : hs = 0 ∨ hs = 1) (ok : zD_ok D pg) (hL : cL D hs I) {w h k : Int} (hw : 0 ≤ w ∧ w < D 3 0 0) (hh : 0 ≤ h ∧ h < 2) (hk : 0 ≤ k ∧ k < 6) (hP : P (pf_pg D w h k) I J) : zc_i (d + 4) 71 [.inr (.inr (some (39 + 29 * hs))), .inl w, .inl h, .inl k] hf pf I J P := by
  have h5 := ok.a5 w k
  have ha := pf_at_in ok h (D 5 w k)
  have h0d := ok.a0 h 0
  unfold pf_pg at hP
  refine zc_ini (M := ax_m71) rfl (Nat.le_of_ble_eq_true rfl) (zk_Shop_paintedGlyph_0 hf pf I J w h k hs eh (sc_letterAt eh ok hL hw hk (sc_indexOf eh ok hL hh ⟨by omega, by omega⟩ ?_)))
  rw [zb_w (x := pf_at D h (D 5 w k)) (by omega) (by omega), show ax_w (-1) = -1 from rfl]
  refine ⟨fun e => zc_Qi.of ?_, fun e => sc_glyphOf eh ok hL hh (by omega) (zc_Qi.of ?_)⟩
  · rwa [if_pos e] at hP
  · rwa [if_neg e] at hP
theorem sc_inkOf_l (eh : hs = 0 ∨ hs = 1) (ok : zD_ok D pg) (hL : cL D hs I) {w : Int} (hw : 0 ≤ w ∧ w < D 3 0 0) {Q : Option ax_v → ax_S → Prop} : ∀ (n : Nat) (k a : Int), 0 ≤ k → k + n = D 4 w 0 → Q (some (.inl (pf_inkL D w n k a))) (zc_S hf pf I J) → zb_W (d + 4) ax_m74 (11, [some (.inr (.inr (some (39 + 29 * hs)))), some (.inl w), some (.inl a), some (.inl (D 4 w 0)), some (.inl k)], [], zc_S hf pf I J) Q := by
  have h3 := ok.a3 0 0
  have h4 := ok.a4 w 0
  intro n
  induction n with
  | zero =>
    intro k a h0 he hQ
    refine zk_Shop_inkOf_11 hf pf I J w a (D 4 w 0) k hs eh ?_
    rw [zb_w (x := k) (by omega) (by omega), zb_w (x := D 4 w 0) (by omega) (by omega)]
    exact ⟨fun c => by omega, fun _ => hQ⟩
  | succ n ih =>
    intro k a h0 he hQ
    refine zk_Shop_inkOf_11 hf pf I J w a (D 4 w 0) k hs eh ?_
    rw [zb_w (x := k) (by omega) (by omega), zb_w (x := D 4 w 0) (by omega) (by omega)]
    exact ⟨fun _ => sc_paintedGlyph eh ok hL hw ⟨by decide, by decide⟩ (by omega) (sc_bitCount (pf_pg_15 ok _ _ _) (ih (k + 1) _ (by omega) (by omega) hQ)), fun c => by omega⟩
theorem sc_inkOf (eh : hs = 0 ∨ hs = 1) (ok : zD_ok D pg) (hL : cL D hs I) {w : Int} (hw : 0 ≤ w ∧ w < D 3 0 0) (hP : P (pf_ink D w) I J) : zc_i (d + 5) 74 [.inr (.inr (some (39 + 29 * hs))), .inl w] hf pf I J P := by
  have h4 := ok.a4 w 0
  exact zc_ini (M := ax_m74) rfl (Nat.le_of_ble_eq_true rfl) (zk_Shop_inkOf_0 hf pf I J w hs eh (sc_sizeOf eh ok hL hw (sc_inkOf_l eh ok hL hw (D 4 w 0).toNat 0 0 (by omega) (by omega) (zc_Qi.of hP))))
end ZC3
