/-! how many bits, by the sum of halves -/
def bN1 (x : Nat) : Nat := x - (x / 2 &&& 1431655765)
def bN2 (x : Nat) : Nat := (x &&& 858993459) + (x / 4 &&& 858993459)
def bN3 (x : Nat) : Nat := (x + x / 16) &&& 252645135
def bN4 (x : Nat) : Nat := x + x / 256
def bN5 (x : Nat) : Nat := x + x / 65536
def bN (x : Nat) : Nat := bN5 (bN4 (bN3 (bN2 (bN1 x)))) &&& 63
def bChk (x : Nat) : Bool := (Nat.beq x 0 || Nat.beq (bN x) (bN (x &&& (x - 1)) + 1)) && (Nat.ble (bN x) 15 && (Nat.ble (bN1 x) 1000000 && (Nat.ble (bN2 (bN1 x)) 1000000 && (Nat.ble (bN3 (bN2 (bN1 x))) 1000000 && Nat.ble (x / 2 &&& 1431655765) x))))
def bAll (n : Nat) : Nat → Bool
  | 0 => true
  | k + 1 => bChk (n + k) && bAll n k
def bAll2 : Nat → Bool
  | 0 => true
  | k + 1 => bAll (256 * k) 256 && bAll2 k
theorem bAll2_t : bAll2 128 = true := by decide +kernel
theorem bAll_of : ∀ (n k : Nat), bAll n k = true → ∀ j, j < k → bChk (n + j) = true := by
  intro n k
  induction k with
  | zero => intro _ j hj; omega
  | succ k ih =>
    intro h j hj
    unfold bAll at h
    rw [Bool.and_eq_true] at h
    by_cases e : j = k
    · subst e; exact h.1
    · exact ih h.2 j (by omega)
theorem bAll2_of : ∀ (k : Nat), bAll2 k = true → ∀ j, j < k → bAll (256 * j) 256 = true := by
  intro k
  induction k with
  | zero => intro _ j hj; omega
  | succ k ih =>
    intro h j hj
    unfold bAll2 at h
    rw [Bool.and_eq_true] at h
    by_cases e : j = k
    · subst e; exact h.1
    · exact ih h.2 j (by omega)
theorem bChk_of {x : Nat} (hx : x < 32768) : bChk x = true := by
  have h := bAll_of _ _ (bAll2_of 128 bAll2_t (x / 256) (by omega)) (x % 256) (by omega)
  rw [show 256 * (x / 256) + x % 256 = x by omega] at h
  exact h
theorem bN_facts {x : Nat} (hx : x < 32768) : (x ≠ 0 → bN x = bN (x &&& (x - 1)) + 1) ∧ bN x ≤ 15 ∧ bN1 x ≤ 1000000 ∧ bN2 (bN1 x) ≤ 1000000 ∧ bN3 (bN2 (bN1 x)) ≤ 1000000 ∧ (x / 2 &&& 1431655765) ≤ x := by
  have h := bChk_of hx
  unfold bChk at h
  simp only [Bool.and_eq_true, Bool.or_eq_true, Nat.beq_eq_true_eq, Nat.ble_eq] at h
  obtain ⟨a, b, c, d, e, f⟩ := h
  refine ⟨fun q => ?_, b, c, d, e, f⟩
  rcases a with a | a
  · exact absurd (Nat.eq_of_beq_eq_true a) q
  · exact Nat.eq_of_beq_eq_true a
theorem pf_pc_bN : ∀ (n x : Nat), x ≤ n → x < 32768 → pf_pc n (x : Int) = (bN x : Int) := by
  intro n
  induction n with
  | zero =>
    intro x h _
    have : x = 0 := by omega
    subst this
    rfl
  | succ n ih =>
    intro x h h2
    unfold pf_pc
    by_cases e : x = 0
    · subst e; rfl
    · rw [if_neg (by omega), show ((x : Int) - 1) = ((x - 1 : Nat) : Int) by omega, bo_and (by omega) (by omega)]
      have hle : x &&& (x - 1) ≤ x - 1 := Nat.and_le_right
      rw [ih _ (by omega) (by omega), (bN_facts h2).1 e]
      omega
theorem pf_bits_bN {x : Nat} (h : x < 32768) : pf_bits (x : Int) = (bN x : Int) := pf_pc_bN 32767 x (by omega) h
theorem pf_bits_15 {g : Int} (h : g15 g) : 0 ≤ pf_bits g ∧ pf_bits g ≤ 15 := by
  obtain ⟨a, rfl⟩ := Int.eq_ofNat_of_zero_le h.1
  have h2 := h.2
  rw [pf_bits_bN (by omega)]
  have := (bN_facts (x := a) (by omega)).2.1
  omega
