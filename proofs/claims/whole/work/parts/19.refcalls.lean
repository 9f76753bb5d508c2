theorem zb_nz {x : Int} (h : x ≠ 0) (h1 : -2147483648 ≤ x) (h2 : x < 2147483648) : ax_w x ≠ 0 := by rw [zb_w h1 h2]; exact h
theorem zb_nzl {x : Int} (h : x ≠ 0) (h1 : -9223372036854775808 ≤ x) (h2 : x < 9223372036854775808) : ax_wl x ≠ 0 := by
  unfold ax_wl
  rw [Int.bmod_eq_of_le (by omega) (by omega)]
  exact h
/-! typed calls of the reference's methods, and segment lemmas (by program, wip/gen/gen_segs.py) -/
def zr_i (d m : Nat) (as : List ax_v) (I J : Nat → Nat → Int) (P : Int → (Nat → Nat → Int) → (Nat → Nat → Int) → Prop) : Prop := zb_C d m as (zr_S I J) (fun v s' => ∃ x I' J', v = some (.inl x) ∧ s' = zr_S I' J' ∧ P x I' J')
def zr_l (d m : Nat) (as : List ax_v) (I J : Nat → Nat → Int) (P : Int → (Nat → Nat → Int) → (Nat → Nat → Int) → Prop) : Prop := zb_C d m as (zr_S I J) (fun v s' => ∃ x I' J', v = some (.inr (.inl x)) ∧ s' = zr_S I' J' ∧ P x I' J')
def zr_v (d m : Nat) (as : List ax_v) (I J : Nat → Nat → Int) (P : (Nat → Nat → Int) → (Nat → Nat → Int) → Prop) : Prop := zb_C d m as (zr_S I J) (fun v s' => ∃ I' J', v = none ∧ s' = zr_S I' J' ∧ P I' J')
theorem zr_ci {d : Nat} {M : ax_M} {Q : Option ax_v → ax_S → Prop} (qs : List Nat) {pc0 : Nat} {ls0 : ax_L} {st0 : List ax_v} {s0 : ax_S} {g : Prop} {m : Nat} {as : List ax_v} {pc : Nat} {ls : ax_L} {st : List ax_v} {I J : Nat → Nat → Int} {P : Int → (Nat → Nat → Int) → (Nat → Nat → Int) → Prop} (h : zb_b M pc0 qs ls0 st0 s0 = some (g, .inr (.inr (m, as, pc, ls, st, zr_S I J)))) (hg : g) (hc : zr_i d m as I J P) (kk : ∀ x I' J', P x I' J' → zb_W d M (pc, ls, .inl x :: st, zr_S I' J') Q) : zb_W d M (pc0, ls0, st0, s0) Q := by
  refine zb_call qs h hg (zb_imp hc (fun v s' hh => ?_))
  obtain ⟨x, I', J', rfl, rfl, hP⟩ := hh
  exact kk x I' J' hP
theorem zr_cl {d : Nat} {M : ax_M} {Q : Option ax_v → ax_S → Prop} (qs : List Nat) {pc0 : Nat} {ls0 : ax_L} {st0 : List ax_v} {s0 : ax_S} {g : Prop} {m : Nat} {as : List ax_v} {pc : Nat} {ls : ax_L} {st : List ax_v} {I J : Nat → Nat → Int} {P : Int → (Nat → Nat → Int) → (Nat → Nat → Int) → Prop} (h : zb_b M pc0 qs ls0 st0 s0 = some (g, .inr (.inr (m, as, pc, ls, st, zr_S I J)))) (hg : g) (hc : zr_l d m as I J P) (kk : ∀ x I' J', P x I' J' → zb_W d M (pc, ls, .inr (.inl x) :: st, zr_S I' J') Q) : zb_W d M (pc0, ls0, st0, s0) Q := by
  refine zb_call qs h hg (zb_imp hc (fun v s' hh => ?_))
  obtain ⟨x, I', J', rfl, rfl, hP⟩ := hh
  exact kk x I' J' hP
theorem zr_cv {d : Nat} {M : ax_M} {Q : Option ax_v → ax_S → Prop} (qs : List Nat) {pc0 : Nat} {ls0 : ax_L} {st0 : List ax_v} {s0 : ax_S} {g : Prop} {m : Nat} {as : List ax_v} {pc : Nat} {ls : ax_L} {st : List ax_v} {I J : Nat → Nat → Int} {P : (Nat → Nat → Int) → (Nat → Nat → Int) → Prop} (h : zb_b M pc0 qs ls0 st0 s0 = some (g, .inr (.inr (m, as, pc, ls, st, zr_S I J)))) (hg : g) (hc : zr_v d m as I J P) (kk : ∀ I' J', P I' J' → zb_W d M (pc, ls, st, zr_S I' J') Q) : zb_W d M (pc0, ls0, st0, s0) Q := by
  refine zb_call qs h hg (zb_imp hc (fun v s' hh => ?_))
  obtain ⟨I', J', rfl, rfl, hP⟩ := hh
  exact kk I' J' hP
theorem zr_cal {d : Nat} {M : ax_M} {Q : Option ax_v → ax_S → Prop} {pc : Nat} {ls : ax_L} {st : List ax_v} {I J : Nat → Nat → Int} {x : Int} {w L : Nat} (hl : M.2.2.2.2.2.2.lookup pc = some .caload) (hw : w < 79) (hk : zr_K w = (21, L)) (hg : (0 : Int) ≤ ax_w x ∧ ax_w x < ((L : Nat) : Int)) (k : zb_W d M (pc + 1, ls, .inl (I w (ax_w x).toNat) :: st, zr_S I J) Q) : zb_W d M (pc, ls, .inl x :: .inr (.inr (some w)) :: st, zr_S I J) Q := by
  refine zb_1 (g := (0 : Int) ≤ ax_w x ∧ ax_w x < ((L : Nat) : Int)) ?_ hg k
  unfold ax_p
  dsimp only
  rw [hl]
  show ax_al 21 (fun o j => .inl (ax_I (zr_S I J) o j)) pc ls (.inl x :: .inr (.inr (some w)) :: st) (zr_S I J) = _
  unfold ax_al
  dsimp only
  have h1 : (Nat.blt w (zr_S I J).1 && Nat.beq (ax_K (zr_S I J) w).1 21) = true := by
    show (Nat.blt w 79 && Nat.beq (zr_K w).1 21) = true
    rw [hk, Nat.blt_eq.mpr hw]
    rfl
  rw [h1]
  show ax_gg (0 ≤ ax_w x ∧ ax_w x < (((zr_K w).2 : Nat) : Int)) (pc + 1) ls (.inl (I w (ax_w x).toNat) :: st) (zr_S I J) = _
  rw [hk]
  rfl
theorem zr_ial {d : Nat} {M : ax_M} {Q : Option ax_v → ax_S → Prop} {pc : Nat} {ls : ax_L} {st : List ax_v} {I J : Nat → Nat → Int} {x : Int} {w L : Nat} (hl : M.2.2.2.2.2.2.lookup pc = some .iaload) (hw : w < 79) (hk : zr_K w = (20, L)) (hg : (0 : Int) ≤ ax_w x ∧ ax_w x < ((L : Nat) : Int)) (k : zb_W d M (pc + 1, ls, .inl (I w (ax_w x).toNat) :: st, zr_S I J) Q) : zb_W d M (pc, ls, .inl x :: .inr (.inr (some w)) :: st, zr_S I J) Q := by
  refine zb_1 (g := (0 : Int) ≤ ax_w x ∧ ax_w x < ((L : Nat) : Int)) ?_ hg k
  unfold ax_p
  dsimp only
  rw [hl]
  show ax_al 20 (fun o j => .inl (ax_I (zr_S I J) o j)) pc ls (.inl x :: .inr (.inr (some w)) :: st) (zr_S I J) = _
  unfold ax_al
  dsimp only
  have h1 : (Nat.blt w (zr_S I J).1 && Nat.beq (ax_K (zr_S I J) w).1 20) = true := by
    show (Nat.blt w 79 && Nat.beq (zr_K w).1 20) = true
    rw [hk, Nat.blt_eq.mpr hw]
    rfl
  rw [h1]
  show ax_gg (0 ≤ ax_w x ∧ ax_w x < (((zr_K w).2 : Nat) : Int)) (pc + 1) ls (.inl (I w (ax_w x).toNat) :: st) (zr_S I J) = _
  rw [hk]
  rfl
theorem zr_len {d : Nat} {M : ax_M} {Q : Option ax_v → ax_S → Prop} {pc : Nat} {ls : ax_L} {st : List ax_v} {I J : Nat → Nat → Int} {w L kd : Nat} (hl : M.2.2.2.2.2.2.lookup pc = some .arraylength) (hw : w < 79) (hk : zr_K w = (kd, L)) (k : zb_W d M (pc + 1, ls, .inl ((L : Nat) : Int) :: st, zr_S I J) Q) (hkd : 20 ≤ kd ∧ kd ≤ 24 := by decide) : zb_W d M (pc, ls, .inr (.inr (some w)) :: st, zr_S I J) Q := by
  refine zb_1 (g := True) ?_ trivial k
  unfold ax_p
  dsimp only
  rw [hl]
  show ax_len pc ls (.inr (.inr (some w)) :: st) (zr_S I J) = _
  unfold ax_len
  dsimp only
  have h1 : (Nat.blt w (zr_S I J).1 && Nat.ble 20 (ax_K (zr_S I J) w).1 && Nat.ble (ax_K (zr_S I J) w).1 24) = true := by
    show (Nat.blt w 79 && Nat.ble 20 (zr_K w).1 && Nat.ble (zr_K w).1 24) = true
    rw [hk, Nat.blt_eq.mpr hw, Nat.ble_eq.mpr hkd.1, Nat.ble_eq.mpr hkd.2]
    rfl
  rw [h1]
  show ax_go (pc + 1) ls (.inl (((zr_K w).2 : Nat) : Int) :: st) (zr_S I J) = _
  rw [hk]
  rfl
