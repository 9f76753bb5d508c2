/-! WHAT THE REFERENCE's METHODS DO: the small ones -/
def zr_Qi (P : Int → (Nat → Nat → Int) → (Nat → Nat → Int) → Prop) (v : Option ax_v) (s' : ax_S) : Prop := ∃ x I' J', v = some (.inl x) ∧ s' = zr_S I' J' ∧ P x I' J'
def zr_Ql (P : Int → (Nat → Nat → Int) → (Nat → Nat → Int) → Prop) (v : Option ax_v) (s' : ax_S) : Prop := ∃ x I' J', v = some (.inr (.inl x)) ∧ s' = zr_S I' J' ∧ P x I' J'
def zr_Qv (P : (Nat → Nat → Int) → (Nat → Nat → Int) → Prop) (v : Option ax_v) (s' : ax_S) : Prop := ∃ I' J', v = none ∧ s' = zr_S I' J' ∧ P I' J'
theorem zr_Qi.of {P : Int → (Nat → Nat → Int) → (Nat → Nat → Int) → Prop} {x : Int} {I J : Nat → Nat → Int} (h : P x I J) : zr_Qi P (some (.inl x)) (zr_S I J) := ⟨x, I, J, rfl, rfl, h⟩
theorem zr_Ql.of {P : Int → (Nat → Nat → Int) → (Nat → Nat → Int) → Prop} {x : Int} {I J : Nat → Nat → Int} (h : P x I J) : zr_Ql P (some (.inr (.inl x))) (zr_S I J) := ⟨x, I, J, rfl, rfl, h⟩
theorem zr_Qv.of {P : (Nat → Nat → Int) → (Nat → Nat → Int) → Prop} {I J : Nat → Nat → Int} (h : P I J) : zr_Qv P none (zr_S I J) := ⟨I, J, rfl, rfl, h⟩
theorem zr_ini {d m : Nat} {M : ax_M} {as : List ax_v} {I J : Nat → Nat → Int} {P : Int → (Nat → Nat → Int) → (Nat → Nat → Int) → Prop} (hM : ax_T[m]? = some M) (hl : (ax_ent as).length ≤ M.2.2.1) (k : zb_W d M (0, ax_pad (ax_ent as) M.2.2.1, [], zr_S I J) (zr_Qi P)) : zr_i (d + 1) m as I J P := zb_in hM hl k
theorem zr_inl {d m : Nat} {M : ax_M} {as : List ax_v} {I J : Nat → Nat → Int} {P : Int → (Nat → Nat → Int) → (Nat → Nat → Int) → Prop} (hM : ax_T[m]? = some M) (hl : (ax_ent as).length ≤ M.2.2.1) (k : zb_W d M (0, ax_pad (ax_ent as) M.2.2.1, [], zr_S I J) (zr_Ql P)) : zr_l (d + 1) m as I J P := zb_in hM hl k
theorem zr_inv {d m : Nat} {M : ax_M} {as : List ax_v} {I J : Nat → Nat → Int} {P : (Nat → Nat → Int) → (Nat → Nat → Int) → Prop} (hM : ax_T[m]? = some M) (hl : (ax_ent as).length ≤ M.2.2.1) (k : zb_W d M (0, ax_pad (ax_ent as) M.2.2.1, [], zr_S I J) (zr_Qv P)) : zr_v (d + 1) m as I J P := zb_in hM hl k
/-- numbers of 32 (64) bits -/
def n32 (x : Int) : Prop := -2147483648 ≤ x ∧ x < 2147483648
def n64 (x : Int) : Prop := -9223372036854775808 ≤ x ∧ x < 9223372036854775808
theorem n32.w {x : Int} (h : n32 x) : ax_w x = x := zb_w h.1 h.2
theorem n64.w {x : Int} (h : n64 x) : ax_wl x = x := by
  unfold ax_wl
  exact Int.bmod_eq_of_le (by have := h.1; omega) (by have := h.2; omega)
theorem n32_w (x : Int) : n32 (ax_w x) := by
  unfold ax_w
  have h1 := Int.le_bmod (x := x) (m := 4294967296) (by decide)
  have h2 := Int.bmod_lt (x := x) (m := 4294967296) (by decide)
  exact ⟨by omega, by omega⟩
theorem n32.n64 {x : Int} (h : n32 x) : n64 x := ⟨by have := h.1; omega, by have := h.2; omega⟩
theorem zb_ww (x : Int) : ax_w (ax_w x) = ax_w x := (n32_w x).w
/-- a comparison of longs, and what is asked of it -/
theorem zb_lc_lt {x y : Int} (hx : n64 x) (hy : n64 y) : ax_w (ax_lcmp x y) < ax_w 0 ↔ x < y := by
  unfold ax_lcmp
  rw [hx.w, hy.w]
  split
  · rename_i h; exact ⟨fun q => absurd q (by decide), fun q => by omega⟩
  · split
    · rename_i h; exact ⟨fun q => absurd q (by decide), fun q => by omega⟩
    · exact ⟨fun _ => by omega, fun _ => by decide⟩
theorem zb_lc_gt {x y : Int} (hx : n64 x) (hy : n64 y) : ax_w 0 < ax_w (ax_lcmp x y) ↔ y < x := by
  unfold ax_lcmp
  rw [hx.w, hy.w]
  split
  · rename_i h; exact ⟨fun _ => h, fun _ => by decide⟩
  · split
    · rename_i h; exact ⟨fun q => absurd q (by decide), fun q => by omega⟩
    · exact ⟨fun q => absurd q (by decide), fun q => by omega⟩
/-- isIn(v, least, most) -/
theorem sr_isIn {d : Nat} {v a b : Int} (hv : n64 v) (ha : n64 a) (hb : n64 b) {I J : Nat → Nat → Int} {P : Int → (Nat → Nat → Int) → (Nat → Nat → Int) → Prop} (h : P (if a ≤ v ∧ v ≤ b then 1 else 0) I J) : zr_i (d + 1) 176 [.inr (.inl v), .inr (.inl a), .inr (.inl b)] I J P := by
  refine zr_ini (M := ax_m176) rfl (Nat.le_of_ble_eq_true rfl) (zq_isIn_0 I J v a b ⟨fun c => ?_, fun c => ⟨fun c2 => ?_, fun c2 => ?_⟩⟩)
  · rw [zb_lc_lt hv ha] at c
    rw [if_neg (by omega)] at h
    exact zr_Qi.of h
  · rw [zb_lc_lt hv ha] at c
    rw [zb_lc_gt hv hb] at c2
    rw [if_neg (by omega)] at h
    exact zr_Qi.of h
  · rw [zb_lc_lt hv ha] at c
    rw [zb_lc_gt hv hb] at c2
    rw [if_pos (by omega)] at h
    exact zr_Qi.of h
/-- isHand(h) -/
theorem sr_isHand {d : Nat} {x : Int} {I J : Nat → Nat → Int} {P : Int → (Nat → Nat → Int) → (Nat → Nat → Int) → Prop} (hx : n32 x) (h : P (if 0 ≤ x ∧ x ≤ 1 then 1 else 0) I J) : zr_i (d + 2) 205 [.inr (.inr (some 0)), .inl x] I J P := by
  refine zr_ini (M := ax_m205) rfl (Nat.le_of_ble_eq_true rfl) (zq_isHand_0 I J x (sr_isIn (n32_w x).n64 ⟨by decide, by decide⟩ ⟨by decide, by decide⟩ ⟨?_, ?_⟩))
  · split <;> simp
  · rw [hx.w]
    exact zr_Qi.of h
