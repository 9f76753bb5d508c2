/-! BITS: the machine's bit operations on small whole numbers -/
theorem bo_iv {a : Nat} (ha : a < 2147483648) : (Int32.ofInt (a : Int)).toBitVec.toNat = a := by
  rw [Int32.toBitVec_ofInt, BitVec.ofInt_natCast, BitVec.toNat_ofNat]
  omega
theorem bo_ti {x : Int32} {n : Nat} (e : x.toBitVec.toNat = n) (h : n < 2147483648) : x.toInt = (n : Int) := by
  show x.toBitVec.toInt = _
  rw [BitVec.toInt_eq_toNat_of_lt (by rw [e]; omega), e]
theorem bo_and {a b : Nat} (ha : a < 2147483648) (hb : b < 2147483648) : ax_and (a : Int) (b : Int) = ((a &&& b : Nat) : Int) := by
  unfold ax_and
  refine bo_ti ?_ (Nat.lt_of_le_of_lt Nat.and_le_left ha)
  rw [Int32.toBitVec_and, BitVec.toNat_and, bo_iv ha, bo_iv hb]
theorem bo_or {a b : Nat} (ha : a < 2147483648) (hb : b < 2147483648) : ax_or (a : Int) (b : Int) = ((a ||| b : Nat) : Int) := by
  unfold ax_or
  refine bo_ti ?_ (Nat.or_lt_two_pow (n := 31) ha hb)
  rw [Int32.toBitVec_or, BitVec.toNat_or, bo_iv ha, bo_iv hb]
theorem bo_xor {a b : Nat} (ha : a < 2147483648) (hb : b < 2147483648) : ax_xor (a : Int) (b : Int) = ((a ^^^ b : Nat) : Int) := by
  unfold ax_xor
  refine bo_ti ?_ (Nat.xor_lt_two_pow (n := 31) ha hb)
  rw [Int32.toBitVec_xor, BitVec.toNat_xor, bo_iv ha, bo_iv hb]
theorem bo_andn {a b : Nat} (ha : a < 2147483648) (hb : b < 2147483648) : ax_and (a : Int) (ax_xor (b : Int) (-1)) = ((a &&& (b ^^^ 4294967295) : Nat) : Int) := by
  unfold ax_and ax_xor
  refine bo_ti ?_ (Nat.lt_of_le_of_lt Nat.and_le_left ha)
  rw [Int32.toBitVec_and, BitVec.toNat_and, bo_iv ha, Int32.ofInt_toInt, Int32.toBitVec_xor, BitVec.toNat_xor, bo_iv hb]
  rfl
theorem bo_shl {i : Nat} (hi : i < 31) : ax_shl 1 (i : Int) = ((2 ^ i : Nat) : Int) := by
  have h : ∀ j : Nat, j < 31 → ax_shl 1 (j : Int) = ((2 ^ j : Nat) : Int) := by decide +kernel
  exact h i hi
theorem bo_shr {a i : Nat} (ha : a < 2147483648) (hi : i < 31) : ax_shr (a : Int) (i : Int) = ((a / 2 ^ i : Nat) : Int) := by
  have h : ∀ j : Nat, j < 31 → ((Int32.ofInt (j : Int) &&& 31).toBitVec.smod 32).toNat = j := by decide +kernel
  unfold ax_shr
  rw [show Int32.ofInt (a : Int) = nI a from Int32.ofInt_eq_ofNat, pk_shrN ha _ i (h i hi), nI_toInt (Nat.lt_of_le_of_lt (Nat.div_le_self _ _) ha)]
/-- bit i of g is there -/
def gb (g i : Int) : Bool := g.toNat.testBit i.toNat
theorem gb_n (a i : Nat) : gb (a : Int) (i : Int) = a.testBit i := rfl
theorem bo_bit {a i : Nat} (ha : a < 2147483648) (hi : i < 31) : ax_and (ax_shr (a : Int) (i : Int)) 1 = if a.testBit i then 1 else 0 := by
  rw [bo_shr ha hi, show (1 : Int) = ((1 : Nat) : Int) from rfl, bo_and (Nat.lt_of_le_of_lt (Nat.div_le_self _ _) ha) (by decide), Nat.and_one_is_mod, Nat.testBit_eq_decide_div_mod_eq]
  by_cases h : a / 2 ^ i % 2 = 1
  · rw [h]; simp
  · have : a / 2 ^ i % 2 = 0 := by omega
    rw [this]; simp
/-- a small number: its bits end below 31 -/
def g31 (g : Int) : Prop := 0 ≤ g ∧ g < 2147483648
def g15 (g : Int) : Prop := 0 ≤ g ∧ g < 32768
theorem g15.g31 {g : Int} (h : g15 g) : g31 g := ⟨h.1, by have := h.2; omega⟩
theorem g15.n32 {g : Int} (h : g15 g) : n32 g := ⟨by have := h.1; omega, by have := h.2; omega⟩
theorem g15.w {g : Int} (h : g15 g) : ax_w g = g := h.n32.w
theorem g31.n {g : Int} (h : g31 g) : ∃ a : Nat, g = (a : Int) ∧ a < 2147483648 := by
  obtain ⟨a, rfl⟩ := Int.eq_ofNat_of_zero_le h.1
  exact ⟨a, rfl, by have := h.2; omega⟩
theorem gb_bit {g i : Int} (h : g31 g) (hi : 0 ≤ i ∧ i < 31) : ax_and (ax_shr g i) 1 = if gb g i then 1 else 0 := by
  obtain ⟨a, rfl, ha⟩ := h.n
  obtain ⟨k, rfl⟩ := Int.eq_ofNat_of_zero_le hi.1
  rw [bo_bit ha (by omega), gb_n]
theorem gb_and {g h i : Int} (hg : g31 g) (hh : g31 h) : gb (ax_and g h) i = (gb g i && gb h i) := by
  obtain ⟨a, rfl, ha⟩ := hg.n
  obtain ⟨b, rfl, hb⟩ := hh.n
  rw [bo_and ha hb]
  simp [gb]
theorem gb_or {g h i : Int} (hg : g31 g) (hh : g31 h) : gb (ax_or g h) i = (gb g i || gb h i) := by
  obtain ⟨a, rfl, ha⟩ := hg.n
  obtain ⟨b, rfl, hb⟩ := hh.n
  rw [bo_or ha hb]
  simp [gb]
theorem gb_xor {g h i : Int} (hg : g31 g) (hh : g31 h) : gb (ax_xor g h) i = Bool.xor (gb g i) (gb h i) := by
  obtain ⟨a, rfl, ha⟩ := hg.n
  obtain ⟨b, rfl, hb⟩ := hh.n
  rw [bo_xor ha hb]
  simp [gb]
theorem gb_andn {g h i : Int} (hg : g31 g) (hh : g31 h) (hi : i < 31) : gb (ax_and g (ax_xor h (-1))) i = (gb g i && !gb h i) := by
  obtain ⟨a, rfl, ha⟩ := hg.n
  obtain ⟨b, rfl, hb⟩ := hh.n
  rw [bo_andn ha hb]
  unfold gb
  rw [Int.toNat_natCast, Int.toNat_natCast, Int.toNat_natCast, Nat.testBit_and, Nat.testBit_xor, show (4294967295 : Nat) = 2 ^ 32 - 1 from rfl, Nat.testBit_two_pow_sub_one, decide_eq_true (by omega)]
  simp
theorem gb_shl {i j : Int} (hi : 0 ≤ i) (hj : 0 ≤ j ∧ j < 31) : gb (ax_shl 1 j) i = decide (i = j) := by
  obtain ⟨a, rfl⟩ := Int.eq_ofNat_of_zero_le hi
  obtain ⟨b, rfl⟩ := Int.eq_ofNat_of_zero_le hj.1
  rw [bo_shl (by omega)]
  unfold gb
  rw [Int.toNat_natCast, Int.toNat_natCast, Nat.testBit_two_pow]
  by_cases h : b = a
  · subst h; simp
  · rw [decide_eq_false h, decide_eq_false (by omega)]
theorem gb_ext {g h : Int} (hg : g31 g) (hh : g31 h) (k : ∀ i : Int, 0 ≤ i → i < 31 → gb g i = gb h i) : g = h := by
  obtain ⟨a, rfl, ha⟩ := hg.n
  obtain ⟨b, rfl, hb⟩ := hh.n
  refine congrArg (fun q : Nat => (q : Int)) (Nat.eq_of_testBit_eq (fun i => ?_))
  by_cases hi : i < 31
  · exact k i (by omega) (by omega)
  · rw [Nat.testBit_lt_two_pow (Nat.lt_of_lt_of_le ha (Nat.pow_le_pow_right (n := 2) (i := 31) (by decide) (by omega))), Nat.testBit_lt_two_pow (Nat.lt_of_lt_of_le hb (Nat.pow_le_pow_right (n := 2) (i := 31) (by decide) (by omega)))]
theorem g15_and {g x : Int} (hg : g15 g) (hx : g31 x) : g15 (ax_and g x) := by
  obtain ⟨a, rfl, ha⟩ := hg.g31.n
  obtain ⟨b, rfl, hb⟩ := hx.n
  rw [bo_and ha hb]
  have h2 := hg.2
  have : a &&& b ≤ a := Nat.and_le_left
  exact ⟨by omega, by omega⟩
theorem g15_andn {g x : Int} (hg : g15 g) (hx : g31 x) : g15 (ax_and g (ax_xor x (-1))) := by
  obtain ⟨a, rfl, ha⟩ := hg.g31.n
  obtain ⟨b, rfl, hb⟩ := hx.n
  rw [bo_andn ha hb]
  have h2 := hg.2
  have : a &&& (b ^^^ 4294967295) ≤ a := Nat.and_le_left
  exact ⟨by omega, by omega⟩
theorem g15_or {g h : Int} (hg : g15 g) (hh : g15 h) : g15 (ax_or g h) := by
  obtain ⟨a, rfl, ha⟩ := hg.g31.n
  obtain ⟨b, rfl, hb⟩ := hh.g31.n
  rw [bo_or ha hb]
  have := Nat.or_lt_two_pow (n := 15) (x := a) (y := b) (by have := hg.2; omega) (by have := hh.2; omega)
  exact ⟨by omega, by omega⟩
theorem g15_xor {g h : Int} (hg : g15 g) (hh : g15 h) : g15 (ax_xor g h) := by
  obtain ⟨a, rfl, ha⟩ := hg.g31.n
  obtain ⟨b, rfl, hb⟩ := hh.g31.n
  rw [bo_xor ha hb]
  have := Nat.xor_lt_two_pow (n := 15) (x := a) (y := b) (by have := hg.2; omega) (by have := hh.2; omega)
  exact ⟨by omega, by omega⟩
theorem g15_shl {j : Int} (hj : 0 ≤ j ∧ j < 15) : g15 (ax_shl 1 j) := by
  obtain ⟨b, rfl⟩ := Int.eq_ofNat_of_zero_le hj.1
  have h : ∀ j : Nat, j < 15 → 0 ≤ ax_shl 1 (j : Int) ∧ ax_shl 1 (j : Int) < 32768 := by decide +kernel
  exact h b (by omega)
theorem bit01 {g i : Int} (h : g31 g) (hi : 0 ≤ i ∧ i < 31) : ax_and (ax_shr g i) 1 = 0 ∨ ax_and (ax_shr g i) 1 = 1 := by
  rw [gb_bit h hi]
  split <;> simp
/-- a stroke that is there is taken away: by and-not as by xor -/
theorem bit_off {g i : Int} (h : g15 g) (hi : 0 ≤ i ∧ i < 15) (hb : gb g i = true) : ax_and g (ax_xor (ax_shl 1 i) (-1)) = ax_xor g (ax_shl 1 i) := by
  have hs := g15_shl hi
  refine gb_ext (g15_andn h hs.g31).g31 (g15_xor h hs).g31 (fun j hj1 hj2 => ?_)
  rw [gb_andn h.g31 hs.g31 hj2, gb_xor h.g31 hs.g31, gb_shl hj1 ⟨hi.1, by omega⟩]
  by_cases e : j = i
  · subst e; rw [hb]; simp
  · rw [decide_eq_false e]; simp
theorem bit_off0 {g i : Int} (h : g15 g) (hi : 0 ≤ i ∧ i < 15) (hb : gb g i = false) : ax_and g (ax_xor (ax_shl 1 i) (-1)) = g := by
  have hs := g15_shl hi
  refine gb_ext (g15_andn h hs.g31).g31 h.g31 (fun j hj1 hj2 => ?_)
  rw [gb_andn h.g31 hs.g31 hj2, gb_shl hj1 ⟨hi.1, by omega⟩]
  by_cases e : j = i
  · subst e; rw [hb]; simp
  · rw [decide_eq_false e]; simp
theorem bit_off_o {g i j : Int} (h : g15 g) (hi : 0 ≤ i ∧ i < 15) (hj : 0 ≤ j ∧ j < 31) (e : j ≠ i) : gb (ax_and g (ax_xor (ax_shl 1 i) (-1))) j = gb g j := by
  rw [gb_andn h.g31 (g15_shl hi).g31 hj.2, gb_shl hj.1 ⟨hi.1, by omega⟩, decide_eq_false e]
  simp
/-- the missing stroke of mend -/
theorem bit_miss {g m i : Int} (h : g15 g) (hm : g15 m) (hi : 0 ≤ i ∧ i < 15) : ax_and (ax_and g (ax_xor m (-1))) (ax_shl 1 i) = if gb g i && !gb m i then ax_shl 1 i else 0 := by
  have hs := g15_shl hi
  have ha := g15_andn h hm.g31
  have h0 : g31 0 := ⟨by decide, by decide⟩
  refine gb_ext (g15_and ha hs.g31).g31 (by split; exact hs.g31; exact h0) (fun j hj1 hj2 => ?_)
  rw [gb_and ha.g31 hs.g31, gb_andn h.g31 hm.g31 hj2]
  by_cases e : j = i
  · subst e
    rw [gb_shl hj1 ⟨hi.1, by omega⟩]
    cases hq : (gb g j && !gb m j)
    · simp [gb]
    · rw [if_pos rfl, gb_shl hj1 ⟨hi.1, by omega⟩]; simp
  · rw [gb_shl hj1 ⟨hi.1, by omega⟩, decide_eq_false e]
    split
    · rw [gb_shl hj1 ⟨hi.1, by omega⟩, decide_eq_false e]; simp
    · simp [gb]
theorem shl_ne0 {i : Int} (hi : 0 ≤ i ∧ i < 15) : ax_shl 1 i ≠ 0 := by
  obtain ⟨b, rfl⟩ := Int.eq_ofNat_of_zero_le hi.1
  have h : ∀ j : Nat, j < 15 → ax_shl 1 (j : Int) ≠ 0 := by decide +kernel
  exact h b (by omega)
/-- how many bits: as the reference counts -/
def pf_pc : Nat → Int → Int
  | 0, _ => 0
  | n + 1, x => if x = 0 then 0 else pf_pc n (ax_and x (x - 1)) + 1
def pf_bits (x : Int) : Int := pf_pc 32767 x
theorem and_pred {x : Int} (h : 0 < x) (h2 : x < 2147483648) : 0 ≤ ax_and x (x - 1) ∧ ax_and x (x - 1) ≤ x - 1 := by
  obtain ⟨a, rfl⟩ := Int.eq_ofNat_of_zero_le (Int.le_of_lt h)
  rw [show ((a : Int) - 1) = ((a - 1 : Nat) : Int) by omega, bo_and (by omega) (by omega)]
  have : a &&& (a - 1) ≤ a - 1 := Nat.and_le_right
  exact ⟨by omega, by omega⟩
