/-! THE CLASS: the wall is hung; shop -/
def zc_ihp (d m : Nat) (as : List ax_v) (hq pq : Nat) (I J : Nat → Nat → Int) (P : Nat → Nat → Int → (Nat → Nat → Int) → (Nat → Nat → Int) → Prop) : Prop := zb_C d m as (zc_S hq pq I J) (fun v s' => ∃ h p x I' J', v = some (.inl x) ∧ s' = zc_S h p I' J' ∧ P h p x I' J')
theorem rowC_0 {f : Nat → Int} (h : ∀ j, j < 74 → f j = 0) : rowC wNew f := ⟨h 0 (by decide), fun b b0 b1 => ⟨h _ (by omega), h _ (by omega)⟩, fun b k b0 b1 k0 k1 => h _ (by omega), h 1 (by decide), fun k k0 k1 => by
  have k1' : k < (0 : Int) := k1
  omega⟩
theorem zcS_h0 {p : Nat} {I J : zF} : ((97, 12644, zc_K, I, J, ax_u (ax_u (zc_Rh 0 p) 0 7 (some 68)) 0 8 (some 39)) : ax_S) = zc_S 1 p I J := by
  unfold zc_S
  have : ax_u (ax_u (zc_Rh 0 p) 0 7 (some 68)) 0 8 (some 39) = zc_Rh 1 p := by
    funext i j
    unfold ax_u zc_Rh
    by_cases c2 : i = 0 ∧ j = 8
    · rw [if_pos c2, if_neg (by omega), if_pos c2]
    · rw [if_neg c2]
      by_cases c1 : i = 0 ∧ j = 7
      · rw [if_pos c1, if_pos c1]
      · rw [if_neg c1, if_neg c1, if_neg c1, if_neg c2, if_neg c2]
  rw [this]
theorem zcS_h1 {p : Nat} {I J : zF} : ((97, 12644, zc_K, I, J, ax_u (ax_u (zc_Rh 1 p) 0 7 (some 39)) 0 8 (some 68)) : ax_S) = zc_S 0 p I J := by
  unfold zc_S
  have : ax_u (ax_u (zc_Rh 1 p) 0 7 (some 39)) 0 8 (some 68) = zc_Rh 0 p := by
    funext i j
    unfold ax_u zc_Rh
    by_cases c2 : i = 0 ∧ j = 8
    · rw [if_pos c2, if_neg (by omega), if_pos c2]
    · rw [if_neg c2]
      by_cases c1 : i = 0 ∧ j = 7
      · rw [if_pos c1, if_pos c1]
      · rw [if_neg c1, if_neg c1, if_neg c1, if_neg c2, if_neg c2]
  rw [this]
section ZCSh
variable {T : Nat → Int} {n : Int} {d hf pf hs : Nat} {I J : zF} {D : zD} {pg : zG} {P0 : zF → zF → Prop} {Q : Option ax_v → ax_S → Prop}
theorem hg_7 (eh : hs = 0 ∨ hs = 1) {I0 : zF} (ok : zD_ok D pg) (hb : bOk D) (hK : cKd D hs I0) : ∀ (m : Nat) (b : Int) (W : zD) (I : zF), 0 ≤ b → b + m = D 6 0 0 → (∀ i j, i ≠ 13 → I i j = I0 i j) → wOk D W → rowC W (I 13) → (∀ I', (∀ i j, i ≠ 13 → I' i j = I0 i j) → rowC (wHang D m b W) (I' 13) → Q none (zc_S hf pf I' J)) → zb_W (d + 5) ax_m107 (7, [some (.inr (.inr (some 12))), some (.inr (.inr (some ((39 + 29 * hs))))), some (.inl b)], [], zc_S hf pf I J) Q := by
  have a6 := ok.a6 0 0
  intro m
  induction m with
  | zero =>
    intro b W I h0 hm hF hW hr hQ
    have e11 : I (39 + 29 * hs) 11 = D 6 0 0 := by rw [hF _ _ (by omega)]; exact hK.1.2.2.2.2.2.1
    refine zk_Wall_hang_7 hf pf I J b hs eh ?_
    rw [e11, zb_w (x := b) (by omega) (by omega), zb_w (x := D 6 0 0) (by omega) (by omega)]
    exact ⟨fun q => by omega, fun _ => hQ I hF hr⟩
  | succ m ih =>
    intro b W I h0 hm hF hW hr hQ
    have e11 : I (39 + 29 * hs) 11 = D 6 0 0 := by rw [hF _ _ (by omega)]; exact hK.1.2.2.2.2.2.1
    obtain ⟨g1, g2⟩ := hK.2 b h0 (by omega)
    obtain ⟨c1, c2, c3⟩ := hb b h0 (by omega)
    have k1 : I (64 + 29 * hs) b.toNat = D 7 b 0 := by rw [hF _ _ (by omega)]; exact g1
    have k2 : I (65 + 29 * hs) b.toNat = D 7 b 1 := by rw [hF _ _ (by omega)]; exact g2
    have K : cKd D hs I := hK.cong (fun i j q => hF i j (by omega))
    refine zk_Wall_hang_7 hf pf I J b hs eh ?_
    rw [e11, zb_w (x := b) (by omega) (by omega), zb_w (x := D 6 0 0) (by omega) (by omega), k1, k2]
    exact ⟨fun _ => ⟨by omega, by omega, sc_paintAnew eh ok K.1 hW.2.2.2.1 hr ⟨h0, by omega⟩ c1 c2 (fun I1 f1 r1 => ih (b + 1) _ I1 (by omega) (by omega) (fun i j a => by rw [f1 i j a]; exact hF i j a) (wOk_pt ok hW ⟨h0, by omega⟩ c1 c2 c3) r1 hQ)⟩, fun q => absurd (show b < D 6 0 0 by omega) q⟩
theorem sc_hang (eh : hs = 0 ∨ hs = 1) (ok : zD_ok D pg) (hb : bOk D) (hK : cKd D hs I) (hP : ∀ I', (∀ i j, i ≠ 13 → ¬ (i = 12 ∧ (j = 3 ∨ j = 4)) → I' i j = I i j) → rowC (wShop D) (I' 13) → wOk D (wShop D) → I' 12 3 = 0 → I' 12 4 = 0 → P0 I' J) : zc_v (d + 6) 107 [.inr (.inr (some 12)), .inr (.inr (some ((39 + 29 * hs))))] hf pf I J P0 := by
  have a6 := ok.a6 0 0
  have wn := wNew_ok ok hb
  refine zc_inv (M := ax_m107) rfl (Nat.le_of_ble_eq_true rfl) (zk_Wall_hang_0 hf pf I J hs (sc_begin (fun I1 f1 z1 e3 e4 => ?_)))
  have z0 : ∀ j, j < 74 → I1 13 j = 0 := fun j hj => by
    rw [z1 j hj]
    by_cases c : j = 0
    · rw [if_pos c]
    · rw [if_neg c]
  refine hg_7 (I0 := I1) eh ok hb (hK.cong (fun i j q => f1 i j (by omega) (by omega))) (D 6 0 0).toNat 0 wNew I1 (by decide) (by omega) (fun _ _ _ => rfl) wn (rowC_0 z0) (fun I2 f2 r2 => zc_Qv.of (hP I2 (fun i j a b => by rw [f2 i j a]; exact f1 i j a b) r2 (wHang_ok ok hb (D 6 0 0).toNat 0 wNew (by decide) (by omega) wn) ?_ ?_))
  · rw [f2 12 3 (by decide)]; exact e3
  · rw [f2 12 4 (by decide)]; exact e4
end ZCSh
