/-! THE CLASS: a shop is read -/
section ZCSf
variable {T : Nat → Int} {n : Int} {d hf pf hs : Nat} {I J : zF} {s : zs} {X : zX} {P : Nat → Int → zF → zF → Prop} {P0 : zF → zF → Prop}
theorem sc_clearA (eh : hs = 0 ∨ hs = 1) (hP : ∀ I', (∀ i j, i ≠ 41 + 29 * hs → ¬ (i = 40 + 29 * hs ∧ j = 5) → ¬ (45 + 29 * hs ≤ i ∧ i ≤ 46 + 29 * hs) → I' i j = I i j) → (∀ j, j < 2 → I' (41 + 29 * hs) j = 0) → I' (40 + 29 * hs) 5 = 2 → cP I' (45 + 29 * hs) pf_dd → P0 I' J) : zc_v (d + 2) 1 [.inr (.inr (some (40 + 29 * hs)))] hf pf I J P0 := by
  have hp := isP45 eh
  have hk : zc_K (41 + 29 * hs) = (20, 2) := by rcases eh with q | q <;> rw [q] <;> decide
  refine zc_inv (M := ax_m1) rfl (Nat.le_of_ble_eq_true rfl) (zk_Alphabet_clear_0 hf pf I J hs eh (sc_fill (w := 41 + 29 * hs) (L := 2) (by omega) hk (by decide) (fun I1 f1 z1 => sc_clear hp (fun I2 f2 c2 => sc_addP hp c2 (by decide) (show ax_or (ax_shl 0 4) 1 = cm 40 by decide +kernel) (fun I3 f3 c3 => sc_addP hp c3 (by decide) (show ax_or (ax_shl 1 4) 1 = cm 41 by decide +kernel) (fun I4 f4 c4 => sc_addP hp c4 (by decide) (show ax_or (ax_shl 2 4) 0 = cm 1002 by decide +kernel) (fun I5 f5 c5 => sc_addP hp c5 (by decide) (show ax_or (ax_shl 0 4) 7 = cm 3 by decide +kernel) (fun I6 f6 c6 => sc_addP hp c6 (by decide) (show ax_or (ax_shl 0 4) 5 = cm 1 by decide +kernel) (fun I7 f7 c7 => zc_Qv.of ?_))))))))) 
  have g : ∀ i j, ¬ (45 + 29 * hs ≤ i ∧ i ≤ 46 + 29 * hs) → I7 i j = (ax_u I1 (40 + 29 * hs) 5 2) i j := fun i j q => by
    rw [f7 i j (by omega) (by omega), f6 i j (by omega) (by omega), f5 i j (by omega) (by omega), f4 i j (by omega) (by omega), f3 i j (by omega) (by omega), f2 i j (by omega)]
  refine hP I7 (fun i j a b c => ?_) (fun j hj => ?_) ?_ c7
  · rw [g i j c, zu_ne (by omega)]; exact f1 i j a
  · rw [g _ j (by omega), zu_ne (by omega)]; exact z1 j hj
  · rw [g _ 5 (by omega), zu_eq]
theorem sc_clearS (eh : hs = 0 ∨ hs = 1) (hP : ∀ I', (∀ i j, ¬ (39 + 29 * hs ≤ i ∧ i ≤ 67 + 29 * hs) → I' i j = I i j) → cKd dNew hs I' → cP I' (45 + 29 * hs) pf_dd → cP I' (58 + 29 * hs) [] → I' (39 + 29 * hs) 12 = 0 → I' (48 + 29 * hs) 10 = -1 → (∀ j, j < 64 → I' (67 + 29 * hs) j = -1) → P0 I' J) : zc_v (d + 3) 63 [.inr (.inr (some (39 + 29 * hs)))] hf pf I J P0 := by
  have hk : zc_K (67 + 29 * hs) = (20, 64) := by rcases eh with q | q <;> rw [q] <;> decide
  refine zc_inv (M := ax_m63) rfl (Nat.le_of_ble_eq_true rfl) (zk_Shop_clear_0 hf pf I J hs eh (sc_clearA eh (fun I1 f1 z1 r1 c1 => zc_inv (M := ax_m38) rfl (Nat.le_of_ble_eq_true rfl) (zk_LineFinder_forget_0 hf pf I1 J hs eh (zc_Qv.of (sc_clear (isP58 eh) (fun I2 f2 c2 => sc_fill (w := 67 + 29 * hs) (L := 64) (by omega) hk (by decide) (fun I3 f3 z3 => zc_Qv.of ?_))))))))
  have g : ∀ i j, i ≠ 67 + 29 * hs → ¬ (i = 58 + 29 * hs ∧ j = 2) → ¬ (i = 48 + 29 * hs ∧ j = 10) → I3 i j = I1 i j := fun i j a b c => by rw [f3 i j a, f2 i j b, zu_ne (by omega)]
  have gg : ∀ i j, i ≠ 39 + 29 * hs → (ax_u (ax_u (ax_u (ax_u (ax_u I3 (39 + 29 * hs) 10 0) (39 + 29 * hs) 11 0) (39 + 29 * hs) 12 0) (39 + 29 * hs) 13 9) (39 + 29 * hs) 14 0) i j = I3 i j := fun i j a => by rw [zu_ne (by omega), zu_ne (by omega), zu_ne (by omega), zu_ne (by omega), zu_ne (by omega)]
  refine hP _ (fun i j a => ?_) ⟨⟨fun h a b => ?_, fun h k a b c e => ?_, ?_, fun w a b => ?_, fun w k a b => ?_, ?_, ?_, ?_, ?_⟩, fun b a c => ?_⟩ ?_ ?_ ?_ ?_ (fun j hj => ?_)
  · rw [gg i j (by omega), g i j (by omega) (by omega) (by omega)]; exact f1 i j (by omega) (by omega) (by omega)
  · show _ = (0 : Int)
    rw [gg _ _ (by omega), g _ _ (by omega) (by omega) (by omega)]; exact z1 _ (by omega)
  · have e' : k < (0 : Int) := e
    omega
  · show _ = (0 : Int)
    rw [zu_ne (by omega), zu_ne (by omega), zu_ne (by omega), zu_ne (by omega), zu_eq]
  · have e' : w < (0 : Int) := b
    omega
  · have e' : w < (0 : Int) := b
    omega
  · show _ = (0 : Int)
    rw [zu_ne (by omega), zu_ne (by omega), zu_ne (by omega), zu_eq]
  · show _ = (2 : Int)
    rw [gg _ _ (by omega), g _ _ (by omega) (by omega) (by omega)]; exact r1
  · show _ = (9 : Int)
    rw [zu_ne (by omega), zu_eq]
  · show _ = (0 : Int)
    rw [zu_eq]
  · have e' : b < (0 : Int) := c
    omega
  · exact cP_cong (by rw [gg _ _ (by omega), g _ _ (by omega) (by omega) (by omega)]) (fun j => by rw [gg _ _ (by omega), g _ _ (by omega) (by omega) (by omega)]) c1
  · exact cP_cong (by rw [gg _ _ (by omega), f3 _ _ (by omega)]) (fun j => by rw [gg _ _ (by omega), f3 _ _ (by omega)]) c2
  · rw [zu_ne (by omega), zu_ne (by omega), zu_eq]
  · rw [gg _ _ (by omega), f3 _ _ (by omega), f2 _ _ (by omega), zu_eq]
  · rw [gg _ _ (by omega)]; exact z3 j hj
end ZCSf
