/-! whole numbers and the machine's ints -/
theorem ax_w_i (x : Int) : (Int32.ofInt x).toInt = ax_w x := Int32.toInt_ofInt
theorem ax_w_l (x : Int) : (Int64.ofInt x).toInt = ax_wl x := Int64.toInt_ofInt
theorem ax_i_eq {x y : Int} : Int32.ofInt x = Int32.ofInt y ↔ ax_w x = ax_w y := by rw [← Int32.toInt_inj, ax_w_i, ax_w_i]
theorem ax_i_lt {x y : Int} : Int32.ofInt x < Int32.ofInt y ↔ ax_w x < ax_w y := by rw [Int32.lt_iff_toInt_lt, ax_w_i, ax_w_i]
theorem ax_i_le {x y : Int} : Int32.ofInt x ≤ Int32.ofInt y ↔ ax_w x ≤ ax_w y := by rw [Int32.le_iff_toInt_le, ax_w_i, ax_w_i]
theorem ax_i_0 : (0 : Int32) = Int32.ofInt 0 := rfl
theorem ax_w_0 : ax_w 0 = 0 := rfl
theorem ax_wl_0 : ax_wl 0 = 0 := rfl
theorem ax_i_cl (x : Int) : (Int32.ofInt x).toNatClampNeg = (ax_w x).toNat := by rw [← ax_w_i]; rfl
theorem ax_i_neg {x : Int} : ¬ Int32.ofInt x < 0 ↔ 0 ≤ ax_w x := by rw [ax_i_0, ax_i_lt, ax_w_0, Int.not_lt]
theorem ax_i_in {x : Int} {n : Nat} (h : 0 ≤ ax_w x ∧ ax_w x < (n : Int)) : vp_in (Int32.ofInt x) n := by
  intro q
  rcases q with q | q
  · exact ax_i_neg.mpr h.1 q
  · rw [ax_i_cl] at q
    omega
theorem ax_i_div (x y : Int) : Int32.ofInt (Int.tdiv (ax_w x) (ax_w y)) = Int32.ofInt x / Int32.ofInt y := by
  apply Int32.toInt_inj.mp
  rw [Int32.toInt_div, ax_w_i, ax_w_i, ax_w_i]
  rfl
theorem ax_i_rem (x y : Int) : Int32.ofInt (Int.tmod (ax_w x) (ax_w y)) = Int32.ofInt x - Int32.ofInt x / Int32.ofInt y * Int32.ofInt y := by
  have h := rem_toInt (Int32.ofInt x) (Int32.ofInt y)
  rw [ax_w_i, ax_w_i] at h
  rw [← h, Int32.ofInt_toInt]
theorem ax_l_div (x y : Int) : Int64.ofInt (Int.tdiv (ax_wl x) (ax_wl y)) = Int64.ofInt x / Int64.ofInt y := by
  apply Int64.toInt_inj.mp
  rw [Int64.toInt_div, ax_w_l, ax_w_l, ax_w_l]
  rfl
theorem ax_l_rem (x y : Int) : Int64.ofInt (Int.tmod (ax_wl x) (ax_wl y)) = Int64.ofInt x - Int64.ofInt x / Int64.ofInt y * Int64.ofInt y := by
  have h := Jvm.Kit.i64_rem (Int64.ofInt x) (Int64.ofInt y)
  rw [ax_w_l, ax_w_l] at h
  rw [← h, Int64.ofInt_toInt]
theorem ax_i_ne0 {y : Int} (h : ax_w y ≠ 0) : ¬ Int32.ofInt y = 0 := by rw [ax_i_0, ax_i_eq, ax_w_0]; exact h
theorem ax_l_ne0 {y : Int} (h : ax_wl y ≠ 0) : ¬ Int64.ofInt y = 0 := by
  intro q
  apply h
  rw [← ax_w_l, q]
  rfl
theorem ax_i2l_ok (x : Int) : (Int32.ofInt x).toInt64 = Int64.ofInt (ax_w x) := by
  apply Int64.toInt_inj.mp
  rw [Int32.toInt_toInt64, ax_w_l, ax_w_i]
  unfold ax_wl
  have h1 := Int.le_bmod (x := x) (m := 4294967296) (by decide)
  have h2 := Int.bmod_lt (x := x) (m := 4294967296) (by decide)
  rw [Int.bmod_eq_of_le (by unfold ax_w; omega) (by unfold ax_w; omega)]
theorem ax_lcmp_ok (x y : Int) : lg_cmp (Int64.ofInt x) (Int64.ofInt y) = Int32.ofInt (ax_lcmp x y) := by
  have h1 : (Int64.ofInt y < Int64.ofInt x) ↔ ax_wl y < ax_wl x := by rw [Int64.lt_iff_toInt_lt, ax_w_l, ax_w_l]
  have h2 : (Int64.ofInt x = Int64.ofInt y) ↔ ax_wl x = ax_wl y := by rw [← Int64.toInt_inj, ax_w_l, ax_w_l]
  unfold lg_cmp ax_lcmp
  simp only [gt_iff_lt, h1, h2]
  split
  · rfl
  · split <;> rfl
theorem ax_nar_b (x : Int) : vp_nar .byte (Int32.ofInt x) = Int32.ofInt (ax_i2b x) := by rw [vp_nar_byte, ax_i2b, Int32.ofInt_toInt]
theorem ax_nar_c (x : Int) : vp_nar .char (Int32.ofInt x) = Int32.ofInt (ax_i2c x) := by
  rw [vp_nar_char, ax_i2c, Int32.ofInt_toInt]
  first | rfl | (apply Int32.toBitVec_inj.mp; simp) | simp
/-! what a step does to the store -/
def ax_le (s s' : ax_S) : Prop := s.1 ≤ s'.1 ∧ s.2.1 ≤ s'.2.1 ∧ (ax_wf s → ax_wf s')
theorem ax_le.rf (s : ax_S) : ax_le s s := ⟨Nat.le_refl _, Nat.le_refl _, id⟩
theorem ax_le.tr {a b c : ax_S} (h : ax_le a b) (k : ax_le b c) : ax_le a c := ⟨Nat.le_trans h.1 k.1, Nat.le_trans h.2.1 k.2.1, fun w => k.2.2 (h.2.2 w)⟩
theorem ax_le_I (s : ax_S) (i j : Nat) (v : Int) : ax_le s (ax_pI s i j v) := ⟨Nat.le_refl _, Nat.le_refl _, id⟩
theorem ax_le_J (s : ax_S) (i j : Nat) (v : Int) : ax_le s (ax_pJ s i j v) := ⟨Nat.le_refl _, Nat.le_refl _, id⟩
theorem ax_le_R {s : ax_S} (i j : Nat) {a : Nat} (h : a < s.1) : ax_le s (ax_pR s i j (some a)) := by
  refine ⟨Nat.le_refl _, Nat.le_refl _, fun w x y k hx hk => ?_⟩
  show k < s.1
  have hk : ax_u s.2.2.2.2.2 i j (some a) x y = some k := hk
  unfold ax_u at hk
  split at hk
  · cases hk; exact h
  · exact w x y k hx hk
theorem ax_le_cpy (s : ax_S) (f : Nat → Nat → Int) : ax_le s (s.1, s.2.1, s.2.2.1, f, s.2.2.2.2.1, s.2.2.2.2.2) := ⟨Nat.le_refl _, Nat.le_refl _, id⟩
theorem ax_le_nw (s : ax_S) (kd ln sl : Nat) : ax_le s (ax_nw s kd ln sl) := by
  refine ⟨Nat.le_succ _, Nat.le_add_right _ _, fun w x y k hx hk => ?_⟩
  show k < s.1 + 1
  have hx : x < s.1 + 1 := hx
  have hk : (if x = s.1 then none else s.2.2.2.2.2 x y) = some k := hk
  split at hk
  · cases hk
  · have := w x y k (by omega) hk
    omega
theorem ax_le_mna (s : ax_S) (n k : Nat) : ax_le s (ax_mna s n k) := by
  refine ⟨Nat.le_add_right _ _, Nat.le_add_right _ _, fun w x y q hx hk => ?_⟩
  show q < s.1 + (1 + n)
  have hx : x < s.1 + (1 + n) := hx
  have hk : (if x < s.1 then s.2.2.2.2.2 x y else if x = s.1 then (if y < n then some (s.1 + 1 + y) else none) else if x < s.1 + (1 + n) then none else s.2.2.2.2.2 x y) = some q := hk
  split at hk
  · rename_i h1
    have := w x y q h1 hk
    omega
  · split at hk
    · split at hk
      · cases hk; omega
      · cases hk
    · first | (cases hk; done) | (rw [if_pos hx] at hk; cases hk)
theorem ax_go_le {pc : Nat} {ls : ax_L} {st : List ax_v} {s s0 : ax_S} {g : Prop} {z : ax_Z} (h : ax_go pc ls st s = some (g, .inl z)) (k : ax_le s0 s) : ax_le s0 z.2.2.2 := by cases h; exact k
theorem ax_gg_le {p : Prop} {pc : Nat} {ls : ax_L} {st : List ax_v} {s s0 : ax_S} {g : Prop} {z : ax_Z} (h : ax_gg p pc ls st s = some (g, .inl z)) (k : ax_le s0 s) : ax_le s0 z.2.2.2 := by cases h; exact k
theorem ax_pf_le {s s' : ax_S} {o k t : Nat} {v : ax_v} {g : Prop} (h : ax_pf s o k t v = some (g, s')) : ax_le s s' := by
  unfold ax_pf at h
  split at h
  · cases h; exact ax_le_I s _ _ _
  · cases h; exact ax_le_J s _ _ _
  · rename_i a
    cases hb : Nat.blt a s.1 with
    | false => rw [hb] at h; cases h
    | true =>
      rw [hb] at h
      cases h
      exact ax_le_R _ _ (Nat.blt_eq.mp hb)
  · cases h; exact ax_le_I s _ _ _
  · cases h
set_option maxHeartbeats 4000000 in
theorem ax_i_le2 {own rt : Nat} {ini : Bool} {pc : Nat} {i : Instr} {ls : ax_L} {st : List ax_v} {s : ax_S} {g : Prop} {z : ax_Z} (h : ax_i own rt ini pc i ls st s = some (g, .inl z)) : ax_le s z.2.2.2 := by
  cases i <;> simp only [ax_i, ax_ldi, ax_ldl, ax_lda, ax_sti, ax_stl, ax_sta, ax_inc, ax_2, ax_2l, ax_d2, ax_d2l, ax_1, ax_al, ax_as, ax_asl, ax_len, ax_gf, ax_ptf, ax_acp, ax_sln, ax_sch, ax_inv, ax_new, ax_nwa, ax_nwm, cond] at h
  all_goals first
    | (cases h; done)
    | (repeat' split at h
       all_goals first
         | (cases h; done)
         | exact ax_go_le h (ax_le.rf s)
         | exact ax_gg_le h (ax_le.rf s)
         | exact ax_gg_le h (ax_le_I s _ _ _)
         | exact ax_gg_le h (ax_le_J s _ _ _)
         | exact ax_gg_le h (ax_le_cpy s _)
         | exact ax_go_le h (ax_le_nw s _ _ _)
         | exact ax_gg_le h (ax_le_nw s _ _ _)
         | exact ax_gg_le h (ax_le_mna s _ _)
         | exact ax_gg_le h (ax_pf_le (by assumption))
         | skip)
    | skip
