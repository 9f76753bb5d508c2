/-! typed calls of the class's methods, and segment lemmas (by program, wip/gen/gen_segs.py) -/
def zc_i (d m : Nat) (as : List ax_v) (hq pq : Nat) (I J : Nat → Nat → Int) (P : Int → (Nat → Nat → Int) → (Nat → Nat → Int) → Prop) : Prop := zb_C d m as (zc_S hq pq I J) (fun v s' => ∃ x I' J', v = some (.inl x) ∧ s' = zc_S hq pq I' J' ∧ P x I' J')
def zc_l (d m : Nat) (as : List ax_v) (hq pq : Nat) (I J : Nat → Nat → Int) (P : Int → (Nat → Nat → Int) → (Nat → Nat → Int) → Prop) : Prop := zb_C d m as (zc_S hq pq I J) (fun v s' => ∃ x I' J', v = some (.inr (.inl x)) ∧ s' = zc_S hq pq I' J' ∧ P x I' J')
def zc_v (d m : Nat) (as : List ax_v) (hq pq : Nat) (I J : Nat → Nat → Int) (P : (Nat → Nat → Int) → (Nat → Nat → Int) → Prop) : Prop := zb_C d m as (zc_S hq pq I J) (fun v s' => ∃ I' J', v = none ∧ s' = zc_S hq pq I' J' ∧ P I' J')
theorem zc_ci {d : Nat} {M : ax_M} {Q : Option ax_v → ax_S → Prop} (qs : List Nat) {pc0 : Nat} {ls0 : ax_L} {st0 : List ax_v} {s0 : ax_S} {g : Prop} {m : Nat} {as : List ax_v} {pc : Nat} {ls : ax_L} {st : List ax_v} {hq pq : Nat} {I J : Nat → Nat → Int} {P : Int → (Nat → Nat → Int) → (Nat → Nat → Int) → Prop} (h : zb_b M pc0 qs ls0 st0 s0 = some (g, .inr (.inr (m, as, pc, ls, st, zc_S hq pq I J)))) (hg : g) (hc : zc_i d m as hq pq I J P) (kk : ∀ x I' J', P x I' J' → zb_W d M (pc, ls, .inl x :: st, zc_S hq pq I' J') Q) : zb_W d M (pc0, ls0, st0, s0) Q := by
  refine zb_call qs h hg (zb_imp hc (fun v s' hh => ?_))
  obtain ⟨x, I', J', rfl, rfl, hP⟩ := hh
  exact kk x I' J' hP
theorem zc_cl {d : Nat} {M : ax_M} {Q : Option ax_v → ax_S → Prop} (qs : List Nat) {pc0 : Nat} {ls0 : ax_L} {st0 : List ax_v} {s0 : ax_S} {g : Prop} {m : Nat} {as : List ax_v} {pc : Nat} {ls : ax_L} {st : List ax_v} {hq pq : Nat} {I J : Nat → Nat → Int} {P : Int → (Nat → Nat → Int) → (Nat → Nat → Int) → Prop} (h : zb_b M pc0 qs ls0 st0 s0 = some (g, .inr (.inr (m, as, pc, ls, st, zc_S hq pq I J)))) (hg : g) (hc : zc_l d m as hq pq I J P) (kk : ∀ x I' J', P x I' J' → zb_W d M (pc, ls, .inr (.inl x) :: st, zc_S hq pq I' J') Q) : zb_W d M (pc0, ls0, st0, s0) Q := by
  refine zb_call qs h hg (zb_imp hc (fun v s' hh => ?_))
  obtain ⟨x, I', J', rfl, rfl, hP⟩ := hh
  exact kk x I' J' hP
theorem zc_cv {d : Nat} {M : ax_M} {Q : Option ax_v → ax_S → Prop} (qs : List Nat) {pc0 : Nat} {ls0 : ax_L} {st0 : List ax_v} {s0 : ax_S} {g : Prop} {m : Nat} {as : List ax_v} {pc : Nat} {ls : ax_L} {st : List ax_v} {hq pq : Nat} {I J : Nat → Nat → Int} {P : (Nat → Nat → Int) → (Nat → Nat → Int) → Prop} (h : zb_b M pc0 qs ls0 st0 s0 = some (g, .inr (.inr (m, as, pc, ls, st, zc_S hq pq I J)))) (hg : g) (hc : zc_v d m as hq pq I J P) (kk : ∀ I' J', P I' J' → zb_W d M (pc, ls, st, zc_S hq pq I' J') Q) : zb_W d M (pc0, ls0, st0, s0) Q := by
  refine zb_call qs h hg (zb_imp hc (fun v s' hh => ?_))
  obtain ⟨I', J', rfl, rfl, hP⟩ := hh
  exact kk I' J' hP
theorem zc_cal {d : Nat} {M : ax_M} {Q : Option ax_v → ax_S → Prop} {pc : Nat} {ls : ax_L} {st : List ax_v} {hq pq : Nat} {I J : Nat → Nat → Int} {x : Int} {w L : Nat} (hl : M.2.2.2.2.2.2.lookup pc = some .caload) (hw : w < 97) (hk : zc_K w = (21, L)) (hg : (0 : Int) ≤ ax_w x ∧ ax_w x < ((L : Nat) : Int)) (k : zb_W d M (pc + 1, ls, .inl (I w (ax_w x).toNat) :: st, zc_S hq pq I J) Q) : zb_W d M (pc, ls, .inl x :: .inr (.inr (some w)) :: st, zc_S hq pq I J) Q := by
  refine zb_1 (g := (0 : Int) ≤ ax_w x ∧ ax_w x < ((L : Nat) : Int)) ?_ hg k
  unfold ax_p
  dsimp only
  rw [hl]
  show ax_al 21 (fun o j => .inl (ax_I (zc_S hq pq I J) o j)) pc ls (.inl x :: .inr (.inr (some w)) :: st) (zc_S hq pq I J) = _
  unfold ax_al
  dsimp only
  have h1 : (Nat.blt w (zc_S hq pq I J).1 && Nat.beq (ax_K (zc_S hq pq I J) w).1 21) = true := by
    show (Nat.blt w 97 && Nat.beq (zc_K w).1 21) = true
    rw [hk, Nat.blt_eq.mpr hw]
    rfl
  rw [h1]
  show ax_gg (0 ≤ ax_w x ∧ ax_w x < (((zc_K w).2 : Nat) : Int)) (pc + 1) ls (.inl (I w (ax_w x).toNat) :: st) (zc_S hq pq I J) = _
  rw [hk]
  rfl
theorem zc_ial {d : Nat} {M : ax_M} {Q : Option ax_v → ax_S → Prop} {pc : Nat} {ls : ax_L} {st : List ax_v} {hq pq : Nat} {I J : Nat → Nat → Int} {x : Int} {w L : Nat} (hl : M.2.2.2.2.2.2.lookup pc = some .iaload) (hw : w < 97) (hk : zc_K w = (20, L)) (hg : (0 : Int) ≤ ax_w x ∧ ax_w x < ((L : Nat) : Int)) (k : zb_W d M (pc + 1, ls, .inl (I w (ax_w x).toNat) :: st, zc_S hq pq I J) Q) : zb_W d M (pc, ls, .inl x :: .inr (.inr (some w)) :: st, zc_S hq pq I J) Q := by
  refine zb_1 (g := (0 : Int) ≤ ax_w x ∧ ax_w x < ((L : Nat) : Int)) ?_ hg k
  unfold ax_p
  dsimp only
  rw [hl]
  show ax_al 20 (fun o j => .inl (ax_I (zc_S hq pq I J) o j)) pc ls (.inl x :: .inr (.inr (some w)) :: st) (zc_S hq pq I J) = _
  unfold ax_al
  dsimp only
  have h1 : (Nat.blt w (zc_S hq pq I J).1 && Nat.beq (ax_K (zc_S hq pq I J) w).1 20) = true := by
    show (Nat.blt w 97 && Nat.beq (zc_K w).1 20) = true
    rw [hk, Nat.blt_eq.mpr hw]
    rfl
  rw [h1]
  show ax_gg (0 ≤ ax_w x ∧ ax_w x < (((zc_K w).2 : Nat) : Int)) (pc + 1) ls (.inl (I w (ax_w x).toNat) :: st) (zc_S hq pq I J) = _
  rw [hk]
  rfl
theorem zc_len {d : Nat} {M : ax_M} {Q : Option ax_v → ax_S → Prop} {pc : Nat} {ls : ax_L} {st : List ax_v} {hq pq : Nat} {I J : Nat → Nat → Int} {w L kd : Nat} (hl : M.2.2.2.2.2.2.lookup pc = some .arraylength) (hw : w < 97) (hk : zc_K w = (kd, L)) (k : zb_W d M (pc + 1, ls, .inl ((L : Nat) : Int) :: st, zc_S hq pq I J) Q) (hkd : 20 ≤ kd ∧ kd ≤ 24 := by decide) : zb_W d M (pc, ls, .inr (.inr (some w)) :: st, zc_S hq pq I J) Q := by
  refine zb_1 (g := True) ?_ trivial k
  unfold ax_p
  dsimp only
  rw [hl]
  show ax_len pc ls (.inr (.inr (some w)) :: st) (zc_S hq pq I J) = _
  unfold ax_len
  dsimp only
  have h1 : (Nat.blt w (zc_S hq pq I J).1 && Nat.ble 20 (ax_K (zc_S hq pq I J) w).1 && Nat.ble (ax_K (zc_S hq pq I J) w).1 24) = true := by
    show (Nat.blt w 97 && Nat.ble 20 (zc_K w).1 && Nat.ble (zc_K w).1 24) = true
    rw [hk, Nat.blt_eq.mpr hw, Nat.ble_eq.mpr hkd.1, Nat.ble_eq.mpr hkd.2]
    rfl
  rw [h1]
  show ax_go (pc + 1) ls (.inl (((zc_K w).2 : Nat) : Int) :: st) (zc_S hq pq I J) = _
  rw [hk]
  rfl
theorem zc_sln {d : Nat} {M : ax_M} {Q : Option ax_v → ax_S → Prop} {pc idx ks : Nat} {nest : Bool} {ls : ax_L} {st : List ax_v} {s : ax_S} (hl : M.2.2.2.2.2.2.lookup pc = some (.invokevirtual idx)) (hm : ax_mr M.1 idx = some (9002, nest)) (hks : ks < 35) (hc : Nat.ble (ax_cats st) 8 = true) (k : zb_W d M (pc + 3, ls, .inl ((ax_sl ks : Nat) : Int) :: st, s) Q) : zb_W d M (pc, ls, .inr (.inr (some (1000000 + ks))) :: st, s) Q := by
  refine zb_1 (g := True) ?_ trivial k
  unfold ax_p
  dsimp only
  rw [hl]
  show ax_inv M.1 0 idx pc ls (.inr (.inr (some (1000000 + ks))) :: st) s = _
  unfold ax_inv
  rw [hm]
  show ax_sln pc ls (.inr (.inr (some (1000000 + ks))) :: st) s = _
  unfold ax_sln
  dsimp only
  rw [show (Nat.ble 1000000 (1000000 + ks) && Nat.blt (1000000 + ks) 1000035 && Nat.ble (ax_cats st) 8) = true by rw [hc, Nat.ble_eq.mpr (by omega), Nat.blt_eq.mpr (by omega)]; rfl]
  show ax_go (pc + 3) ls (.inl ((ax_sl (1000000 + ks - 1000000) : Nat) : Int) :: st) s = _
  rw [Nat.add_sub_cancel_left]
  rfl
theorem zc_sch {d : Nat} {M : ax_M} {Q : Option ax_v → ax_S → Prop} {pc idx ks : Nat} {nest : Bool} {ls : ax_L} {st : List ax_v} {s : ax_S} {x : Int} (hl : M.2.2.2.2.2.2.lookup pc = some (.invokevirtual idx)) (hm : ax_mr M.1 idx = some (9003, nest)) (hks : ks < 35) (hc : Nat.ble (ax_cats st) 8 = true) (hg : (0 : Int) ≤ ax_w x ∧ ax_w x < ((ax_sl ks : Nat) : Int)) (k : zb_W d M (pc + 3, ls, .inl (ax_sc ks (ax_w x).toNat) :: st, s) Q) : zb_W d M (pc, ls, .inl x :: .inr (.inr (some (1000000 + ks))) :: st, s) Q := by
  refine zb_1 (g := (0 : Int) ≤ ax_w x ∧ ax_w x < ((ax_sl ks : Nat) : Int)) ?_ hg k
  unfold ax_p
  dsimp only
  rw [hl]
  show ax_inv M.1 0 idx pc ls (.inl x :: .inr (.inr (some (1000000 + ks))) :: st) s = _
  unfold ax_inv
  rw [hm]
  show ax_sch pc ls (.inl x :: .inr (.inr (some (1000000 + ks))) :: st) s = _
  unfold ax_sch
  dsimp only
  rw [show (Nat.ble 1000000 (1000000 + ks) && Nat.blt (1000000 + ks) 1000035 && Nat.ble (ax_cats st) 8) = true by rw [hc, Nat.ble_eq.mpr (by omega), Nat.blt_eq.mpr (by omega)]; rfl]
  show ax_gg (0 ≤ ax_w x ∧ ax_w x < ((ax_sl (1000000 + ks - 1000000) : Nat) : Int)) (pc + 3) ls (.inl (ax_sc (1000000 + ks - 1000000) (ax_w x).toNat) :: st) s = _
  rw [Nat.add_sub_cancel_left]
  rfl
