/-! THE REFERENCE: the wall's readers, rain -/
def sr (f : Nat → Int) (j : Nat) (v : Int) : Nat → Int := fun a => if a = j then v else f a
theorem sr_eq {f : Nat → Int} {j : Nat} {v : Int} : sr f j v j = v := if_pos rfl
theorem sr_ne {f : Nat → Int} {j a : Nat} {v : Int} (h : a ≠ j) : sr f j v a = f a := if_neg h
theorem zu_row {I : zF} {i j : Nat} {v : Int} : ax_u I i j v i = sr (I i) j v := by
  funext a
  unfold ax_u sr
  by_cases h : a = j
  · rw [if_pos ⟨rfl, h⟩, if_pos h]
  · rw [if_neg (fun q => h q.2), if_neg h]
theorem zu_oth {I : zF} {i j i' : Nat} {v : Int} (h : i' ≠ i) : ax_u I i j v i' = I i' := by
  funext a
  exact zu_ne (fun q => h q.1)
/-- the shop, the wall, in the reference's store -/
def rB (D : zD) (pg : zG) (W : zD) (I : zF) : Prop := rS D pg I ∧ wOk D W ∧ rowR W (I 40)
/-- nothing has changed but the row now and what nobody needs later -/
def rX (I J I' J' : zF) : Prop := (∀ i j, i ≠ 40 → ¬ (41 ≤ i ∧ i ≤ 49) → ¬ (i = 0 ∧ (j = 56 ∨ (59 ≤ j ∧ j ≤ 65) ∨ j = 67 ∨ j = 74 ∨ j = 112 ∨ j = 114)) → I' i j = I i j) ∧ J' 0 80 = J 0 80
/-- nothing has changed but the row now and what rain writes -/
def rR (I J I' J' : zF) : Prop := (∀ i j, i ≠ 40 → ¬ (i = 0 ∧ (j = 56 ∨ (59 ≤ j ∧ j ≤ 65) ∨ j = 67 ∨ j = 112)) → I' i j = I i j) ∧ J' 0 80 = J 0 80
theorem rX.refl (I J : zF) : rX I J I J := ⟨fun _ _ _ _ _ => rfl, rfl⟩
theorem rX.trans {I J I' J' I2 J2 : zF} (h : rX I J I' J') (h2 : rX I' J' I2 J2) : rX I J I2 J2 := ⟨fun i j a b c => (h2.1 i j a b c).trans (h.1 i j a b c), h2.2.trans h.2⟩
theorem rR.refl (I J : zF) : rR I J I J := ⟨fun _ _ _ _ => rfl, rfl⟩
theorem rR.trans {I J I' J' I2 J2 : zF} (h : rR I J I' J') (h2 : rR I' J' I2 J2) : rR I J I2 J2 := ⟨fun i j a b => (h2.1 i j a b).trans (h.1 i j a b), h2.2.trans h.2⟩
theorem rE.rR {I J I' J' : zF} (h : rE I J I' J') : rR I J I' J' := ⟨fun i j _ b => h.1 i j (by omega), h.2 0 80 (by decide)⟩
theorem rR.rX {I J I' J' : zF} (h : rR I J I' J') : rX I J I' J' := ⟨fun i j a _ c => h.1 i j a (by omega), h.2⟩
theorem rE.rX {I J I' J' : zF} (h : rE I J I' J') : rX I J I' J' := h.rR.rX
theorem rX.rS {D : zD} {pg : zG} {I J I' J' : zF} (h : rX I J I' J') (hS : rS D pg I) : rS D pg I' := rS_cong hS (fun i j a b _ => h.1 i j (by omega) (by omega) (by omega)) (h.1 0 45 (by omega) (by omega) (by omega)) (h.1 0 48 (by omega) (by omega) (by omega))
theorem rE.n40 {I J I' J' : zF} (h : rE I J I' J') : I' 40 = I 40 := funext (fun j => h.1 40 j (by omega))
theorem rE.rB {D : zD} {pg : zG} {W : zD} {I J I' J' : zF} (h : rE I J I' J') (hB : rB D pg W I) : rB D pg W I' := ⟨h.rS hB.1, hB.2.1, by rw [h.n40]; exact hB.2.2⟩
theorem rB.S {D : zD} {pg : zG} {W : zD} {I : zF} (h : rB D pg W I) : rS D pg I := h.1
theorem rB.W {D : zD} {pg : zG} {W : zD} {I : zF} (h : rB D pg W I) : wOk D W := h.2.1
theorem rB.y {D : zD} {pg : zG} {W : zD} {I : zF} (h : rB D pg W I) : I 40 0 = W 0 0 0 := h.2.2.1
theorem rB.b1 {D : zD} {pg : zG} {W : zD} {I : zF} (h : rB D pg W I) {b : Int} (hb : 0 ≤ b ∧ b < 4) : I 40 (1 + 8 * b).toNat = W 1 b 0 := (h.2.2.2.1 b hb.1 hb.2).1
theorem rB.b2 {D : zD} {pg : zG} {W : zD} {I : zF} (h : rB D pg W I) {b : Int} (hb : 0 ≤ b ∧ b < 4) : I 40 (2 + 8 * b).toNat = W 2 b 0 := (h.2.2.2.1 b hb.1 hb.2).2
theorem rB.b3 {D : zD} {pg : zG} {W : zD} {I : zF} (h : rB D pg W I) {b k : Int} (hb : 0 ≤ b ∧ b < 4) (hk : 0 ≤ k ∧ k < 6) : I 40 (3 + 8 * b + k).toNat = W 3 b k := h.2.2.2.2.1 b k hb.1 hb.2 hk.1 hk.2
theorem rB.n {D : zD} {pg : zG} {W : zD} {I : zF} (h : rB D pg W I) : I 40 33 = W 4 0 0 := h.2.2.2.2.2.1
theorem rB.k {D : zD} {pg : zG} {W : zD} {I : zF} (h : rB D pg W I) {k c : Int} (hk : 0 ≤ k ∧ k < W 4 0 0) (hc : 0 ≤ c ∧ c < 3) : I 40 (34 + 3 * k + c).toNat = W 5 k c := h.2.2.2.2.2.2 k c hk.1 hk.2 hc.1 hc.2
theorem rowR_set3 {W : zD} {f : Nat → Int} (h : rowR W f) (ok : 0 ≤ W 4 0 0 ∧ W 4 0 0 ≤ 40) {b k v : Int} (hb : 0 ≤ b ∧ b < 4) (hk : 0 ≤ k ∧ k < 6) : rowR (wu W 3 b k v) (sr f (3 + 8 * b + k).toNat v) := by
  obtain ⟨h1, h2, h3, h4, h5⟩ := h
  refine ⟨?_, fun x y z => ⟨?_, ?_⟩, fun x y a1 a2 a3 a4 => ?_, ?_, fun x y a1 a2 a3 a4 => ?_⟩
  · rw [sr_ne (by omega), wu_ne (by omega)]; exact h1
  · rw [sr_ne (by omega), wu_ne (by omega)]; exact (h2 x y z).1
  · rw [sr_ne (by omega), wu_ne (by omega)]; exact (h2 x y z).2
  · by_cases e : x = b ∧ y = k
    · obtain ⟨rfl, rfl⟩ := e
      rw [sr_eq, wu_eq]
    · rw [sr_ne (by omega), wu_ne (by omega)]; exact h3 x y a1 a2 a3 a4
  · rw [sr_ne (by omega), wu_ne (by omega)]; exact h4
  · rw [wu_ne (by omega)] at a2
    rw [sr_ne (by omega), wu_ne (by omega)]; exact h5 x y a1 a2 a3 a4
theorem pf_rainTo_next {D : zD} {pg : zG} {W : zD} {b : Int} : pf_rainTo D pg W b (D 4 (W 1 b 0) 0) = pf_rainTo D pg W (b + 1) 0 := by
  funext i a c
  unfold pf_rainTo
  by_cases e : a = b
  · subst e
    by_cases q : i = 3 ∧ (0 ≤ a ∧ (a < a + 1 ∨ (a = a + 1 ∧ c < 0))) ∧ (0 ≤ c ∧ c < D 4 (W 1 a 0) 0)
    · rw [if_pos q, if_pos (by omega)]
    · rw [if_neg q, if_neg (by omega)]
  · by_cases q : i = 3 ∧ (0 ≤ a ∧ (a < b + 1 ∨ (a = b + 1 ∧ c < 0))) ∧ (0 ≤ c ∧ c < D 4 (W 1 a 0) 0)
    · rw [if_pos q, if_pos (by omega)]
    · rw [if_neg q, if_neg (by omega)]
theorem pf_rainTo_step {D : zD} {pg : zG} {W : zD} {b k : Int} (hb : 0 ≤ b) (hk : 0 ≤ k ∧ k < D 4 (W 1 b 0) 0) : pf_rainTo D pg W b (k + 1) = wu (pf_rainTo D pg W b k) 3 b k (pf_wash pg (W 3 b k) k (W 0 0 0)) := by
  funext i a c
  by_cases e : i = 3 ∧ a = b ∧ c = k
  · obtain ⟨rfl, rfl, rfl⟩ := e
    rw [wu_eq]
    unfold pf_rainTo
    rw [if_pos (by omega)]
  · rw [wu_ne e]
    unfold pf_rainTo
    by_cases q : i = 3 ∧ (0 ≤ a ∧ (a < b ∨ (a = b ∧ c < k))) ∧ (0 ≤ c ∧ c < D 4 (W 1 a 0) 0)
    · rw [if_pos q, if_pos (by omega)]
    · rw [if_neg q, if_neg (by omega)]
theorem pf_rainTo_at {D : zD} {pg : zG} {W : zD} {b k : Int} : pf_rainTo D pg W b k 3 b k = W 3 b k := by
  unfold pf_rainTo
  rw [if_neg (by omega)]
theorem pf_rainTo_0 {D : zD} {pg : zG} {W : zD} : pf_rainTo D pg W 0 0 = W := by
  funext i a c
  unfold pf_rainTo
  rw [if_neg (by omega)]
section ZR5
variable {d : Nat} {I J : zF} {D : zD} {pg : zG} {W : zD} {P : Int → zF → zF → Prop} {P0 : zF → zF → Prop}
theorem sr_wordOf (hB : rB D pg W I) {b : Int} (hb : 0 ≤ b ∧ b < D 6 0 0) (hP : P (W 1 b 0) I J) : zr_i (d + 1) 216 [.inr (.inr (some 0)), .inl b] I J P := by
  have h6 := hB.S.ok.a6 0 0
  refine zr_ini (M := ax_m216) rfl (Nat.le_of_ble_eq_true rfl) (zq_wordOf_0 I J b ?_)
  simp (disch := omega) only [zb_w]
  rw [hB.b1 (by omega)]
  exact ⟨by omega, zr_Qi.of hP⟩
theorem sr_handOf (hB : rB D pg W I) {b : Int} (hb : 0 ≤ b ∧ b < D 6 0 0) (hP : P (W 2 b 0) I J) : zr_i (d + 1) 217 [.inr (.inr (some 0)), .inl b] I J P := by
  have h6 := hB.S.ok.a6 0 0
  refine zr_ini (M := ax_m217) rfl (Nat.le_of_ble_eq_true rfl) (zq_handOf_0 I J b ?_)
  simp (disch := omega) only [zb_w]
  rw [hB.b2 (by omega)]
  exact ⟨by omega, zr_Qi.of hP⟩
theorem sr_glyphAt (hB : rB D pg W I) {b k : Int} (hb : 0 ≤ b ∧ b < D 6 0 0) (hk : 0 ≤ k ∧ k < 6) (hP : P (W 3 b k) I J) : zr_i (d + 1) 218 [.inr (.inr (some 0)), .inl b, .inl k] I J P := by
  have h6 := hB.S.ok.a6 0 0
  refine zr_ini (M := ax_m218) rfl (Nat.le_of_ble_eq_true rfl) (zq_glyphAt_0 I J b k ?_)
  simp (disch := omega) only [zb_w]
  rw [hB.b3 (by omega) hk]
  exact ⟨by omega, zr_Qi.of hP⟩
theorem sr_rains_49 {I0 J0 : zF} (hS0 : rS D pg I0) {y : Int} (hy : I0 40 0 = y) (hy2 : 0 ≤ y ∧ y ≤ 999) (h37 : I0 37 3 ≠ -1) {b k was : Int} (hk : 0 ≤ k ∧ k < 6) {Q : Option ax_v → ax_S → Prop} : ∀ (n : Nat) (bit l : Int) (I J : zF), rE I0 J0 I J → 0 ≤ bit → bit + n = 15 → (∀ I' J', rE I0 J0 I' J' → zb_W (d + 5) ax_m228 (49, [some (.inr (.inr (some 0))), some (.inl b), some (.inl k), some (.inl was), some (.inl (pf_washL pg was k y n bit l)), some (.inl 15)], [], zr_S I' J') Q) → zb_W (d + 5) ax_m228 (49, [some (.inr (.inr (some 0))), some (.inl b), some (.inl k), some (.inl was), some (.inl l), some (.inl bit)], [], zr_S I J) Q := by
  intro n
  induction n with
  | zero =>
    intro bit l I J hE h0 he hQ
    have e : bit = 15 := by omega
    subst e
    exact hQ I J hE
  | succ n ih =>
    intro bit l I J hE h0 he hQ
    have hb := bit01' was bit
    have hS := hE.rS hS0
    have hy1 : I 40 0 = y := by rw [hE.n40]; exact hy
    have h371 : I 37 3 ≠ -1 := by rw [hE.1 37 3 (by omega)]; exact h37
    unfold pf_washL at hQ
    refine zq_rains_49 I J b k was l bit ?_
    simp (disch := omega) only [zb_w]
    refine ⟨fun _ => ⟨fun c1 => sr_isLost hS h371 hy1 hy2 ⟨h0, by omega⟩ hk (fun I2 J2 hE2 => ?_), fun c1 => zq_rains_88 I J b k was l bit (ih _ _ I J hE (by omega) (by omega) ?_)⟩, fun c => by omega⟩
    · by_cases c2 : pf_lost pg was bit k y = 1
      · rw [if_pos c2]
        rw [if_pos ⟨c1, c2⟩] at hQ
        exact ⟨fun e => absurd e (by decide), fun _ => zq_rains_88 I2 J2 b k was _ bit (ih _ _ I2 J2 (hE.trans hE2) (by omega) (by omega) hQ)⟩
      · rw [if_neg c2]
        rw [if_neg (fun q => c2 q.2)] at hQ
        exact ⟨fun _ => zq_rains_88 I2 J2 b k was _ bit (ih _ _ I2 J2 (hE.trans hE2) (by omega) (by omega) hQ), fun e => absurd rfl e⟩
    · rw [if_neg (fun q => c1 q.1)] at hQ
      exact hQ
theorem sr_rains_23 {I0 J0 : zF} (hS0 : rS D pg I0) (hW : wOk D W) (h37 : I0 37 3 ≠ -1) {b : Int} (hb : 0 ≤ b ∧ b < D 6 0 0) {Q : Option ax_v → ax_S → Prop} : ∀ (n : Nat) (k l : Int) (I J : zF), rR I0 J0 I J → rowR (pf_rainTo D pg W b k) (I 40) → I 0 67 = l → 0 ≤ k → k + n = D 4 (W 1 b 0) 0 → (∀ I' J', rR I0 J0 I' J' → rowR (pf_rainTo D pg W (b + 1) 0) (I' 40) → I' 0 67 = pf_lostK pg W b n k l → zb_W (d + 5) ax_m228 (13, [some (.inr (.inr (some 0))), some (.inl (b + 1)), none, none, none, none], [], zr_S I' J') Q) → zb_W (d + 5) ax_m228 (23, [some (.inr (.inr (some 0))), some (.inl b), some (.inl k), none, none, none], [], zr_S I J) Q := by
  have h6 := hS0.ok.a6 0 0
  have h4 := hS0.ok.a4 (W 1 b 0) 0
  have hw := hW.w hb
  intro n
  induction n with
  | zero =>
    intro k l I J hF hr hl h0 he hQ
    have hS := hF.rX.rS hS0
    have hB : rB D pg (pf_rainTo D pg W b k) I := ⟨hS, wOk_rainTo hW (by omega) (Or.inl hb.2), hr⟩
    refine zq_rains_23 I J b k (sr_wordOf hB hb ?_)
    rw [pf_rainTo_o (by decide)]
    refine sr_longOf hS hw ?_
    simp (disch := omega) only [zb_w]
    refine ⟨fun c => by omega, fun _ => hQ I J hF ?_ hl⟩
    have e : k = D 4 (W 1 b 0) 0 := by omega
    rw [e, pf_rainTo_next] at hr
    exact hr
  | succ n ih =>
    intro k l I J hF hr hl h0 he hQ
    have hS := hF.rX.rS hS0
    have hB : rB D pg (pf_rainTo D pg W b k) I := ⟨hS, wOk_rainTo hW (by omega) (Or.inl hb.2), hr⟩
    refine zq_rains_23 I J b k (sr_wordOf hB hb ?_)
    rw [pf_rainTo_o (by decide)]
    refine sr_longOf hS hw ?_
    simp (disch := omega) only [zb_w]
    refine ⟨fun c => sr_glyphAt hB hb (by omega) ?_, fun c => by omega⟩
    rw [pf_rainTo_at]
    have hg := hW.g b k
    have hy := hB.y
    rw [pf_rainTo_o (by decide)] at hy
    have h371 : I 37 3 ≠ -1 := by rw [hF.1 37 3 (by omega) (by omega)]; exact h37
    refine sr_rains_49 hS hy hW.y h371 (by omega) 15 0 _ I J (rE.refl I J) (by decide) (by decide) (fun I2 J2 hE2 => ?_)
    have hwash : pf_washL pg (W 3 b k) k (W 0 0 0) 15 0 (W 3 b k) = pf_wash pg (W 3 b k) k (W 0 0 0) := rfl
    rw [hwash]
    have hg2 : g15 (pf_wash pg (W 3 b k) k (W 0 0 0)) := pf_wash_15 hg
    refine zq_rains_49 I2 J2 b k _ _ 15 ⟨fun c => absurd c (by decide), fun _ => sr_bits hg (sr_bits hg2 ?_)⟩
    simp (disch := omega) only [zb_w]
    refine ⟨by omega, ih (k + 1) _ _ J2 ?_ ?_ ?_ (by omega) (by omega) hQ⟩
    · refine hF.trans ⟨fun i j q1 q2 => ?_, hE2.2 0 80 (by decide)⟩
      rw [zu_ne (by omega), zu_ne (by omega)]
      exact hE2.1 i j (by omega)
    · rw [zu_row, zu_oth (by decide), hE2.n40, pf_rainTo_step hb.1 (by omega)]
      refine rowR_set3 hr ?_ (by omega) (by omega)
      rw [pf_rainTo_o (by decide)]
      exact hW.n
    · rw [zu_ne (by omega), zu_eq, hE2.1 0 67 (by omega), hl]
theorem sr_rains_13 {I0 J0 : zF} (hS0 : rS D pg I0) (hW : wOk D W) (h37 : I0 37 3 ≠ -1) {Q : Option ax_v → ax_S → Prop} : ∀ (n : Nat) (b l : Int) (I J : zF), rR I0 J0 I J → rowR (pf_rainTo D pg W b 0) (I 40) → I 0 67 = l → 0 ≤ b → b + n = D 6 0 0 → (∀ I' J', rR I0 J0 I' J' → rowR (pf_rain D pg W) (I' 40) → I' 0 67 = pf_lostB D pg W n b l → Q none (zr_S I' J')) → zb_W (d + 5) ax_m228 (13, [some (.inr (.inr (some 0))), some (.inl b), none, none, none, none], [], zr_S I J) Q := by
  have h6 := hS0.ok.a6 0 0
  intro n
  induction n with
  | zero =>
    intro b l I J hF hr hl h0 he hQ
    refine zq_rains_13 I J b (sr_boardMany (hF.rX.rS hS0) ?_)
    simp (disch := omega) only [zb_w]
    refine ⟨fun c => by omega, fun _ => hQ I J hF ?_ hl⟩
    have e : b = D 6 0 0 := by omega
    rw [e] at hr
    exact hr
  | succ n ih =>
    intro b l I J hF hr hl h0 he hQ
    have h4 := hS0.ok.a4 (W 1 b 0) 0
    refine zq_rains_13 I J b (sr_boardMany (hF.rX.rS hS0) ?_)
    simp (disch := omega) only [zb_w]
    refine ⟨fun c => sr_rains_23 hS0 hW h37 ⟨h0, c⟩ (D 4 (W 1 b 0) 0).toNat 0 l I J hF hr hl (by omega) (by omega) (fun I' J' hF' hr' hl' => ih (b + 1) _ I' J' hF' hr' hl' (by omega) (by omega) hQ), fun c => by omega⟩
theorem sr_rains (hB : rB D pg W I) (hP : ∀ I' J', rR I J I' J' → rB D pg (pf_rain D pg W) I' → I' 0 67 = pf_lostB D pg W (D 6 0 0).toNat 0 (I 0 67) → P0 I' J') : zr_v (d + 6) 228 [.inr (.inr (some 0))] I J P0 := by
  have h6 := hB.S.ok.a6 0 0
  refine zr_inv (M := ax_m228) rfl (Nat.le_of_ble_eq_true rfl) (zq_rains_0 I J ?_)
  rw [show (ax_w 3).toNat = 3 from rfl]
  have hw3 : ax_w (I 37 3) = I 37 3 := by
    rcases hB.S.p1 with r | r
    · have r1 : I 37 3 = -1 := r.1
      exact zb_w (by omega) (by omega)
    · have r1 : 0 ≤ I 37 3 := r.1
      have r2 : I 38 3 = I 37 3 + (pg 1).length := r.2.1
      have r3 : I 38 3 ≤ 1600 := r.2.2.1
      exact zb_w (by omega) (by omega)
  rw [hw3]
  refine ⟨fun c => ?_, fun c => ?_⟩
  · have c' : I 37 3 = -1 := c
    have hn : pg 1 = [] := by
      rcases hB.S.p1 with r | r
      · exact r.2
      · have r1 : 0 ≤ I 37 3 := r.1
        omega
    have := hP I J (rR.refl I J)
    unfold pf_rain at this
    rw [pf_rainTo_nil hn, pf_lostB_nil hn] at this
    exact zr_Qv.of (this hB rfl)
  · refine sr_rains_13 hB.S hB.W c (D 6 0 0).toNat 0 (I 0 67) I J (rR.refl I J) ?_ rfl (by omega) (by omega) (fun I' J' hF hr hl => zr_Qv.of (hP I' J' hF ⟨hF.rX.rS hB.S, wOk_rain hB.W, hr⟩ hl))
    rw [pf_rainTo_0]
    exact hB.2.2
end ZR5
