/-! THE CLASS: how its methods' contracts are shown; the JDK's -/
def zc_Qi (hq pq : Nat) (P : Int → zF → zF → Prop) (v : Option ax_v) (s' : ax_S) : Prop := ∃ x I' J', v = some (.inl x) ∧ s' = zc_S hq pq I' J' ∧ P x I' J'
def zc_Ql (hq pq : Nat) (P : Int → zF → zF → Prop) (v : Option ax_v) (s' : ax_S) : Prop := ∃ x I' J', v = some (.inr (.inl x)) ∧ s' = zc_S hq pq I' J' ∧ P x I' J'
def zc_Qv (hq pq : Nat) (P : zF → zF → Prop) (v : Option ax_v) (s' : ax_S) : Prop := ∃ I' J', v = none ∧ s' = zc_S hq pq I' J' ∧ P I' J'
theorem zc_Qi.of {hq pq : Nat} {P : Int → zF → zF → Prop} {x : Int} {I J : zF} (h : P x I J) : zc_Qi hq pq P (some (.inl x)) (zc_S hq pq I J) := ⟨x, I, J, rfl, rfl, h⟩
theorem zc_Ql.of {hq pq : Nat} {P : Int → zF → zF → Prop} {x : Int} {I J : zF} (h : P x I J) : zc_Ql hq pq P (some (.inr (.inl x))) (zc_S hq pq I J) := ⟨x, I, J, rfl, rfl, h⟩
theorem zc_Qv.of {hq pq : Nat} {P : zF → zF → Prop} {I J : zF} (h : P I J) : zc_Qv hq pq P none (zc_S hq pq I J) := ⟨I, J, rfl, rfl, h⟩
theorem zc_ini {d m : Nat} {M : ax_M} {as : List ax_v} {hq pq : Nat} {I J : zF} {P : Int → zF → zF → Prop} (hM : ax_T[m]? = some M) (hl : (ax_ent as).length ≤ M.2.2.1) (k : zb_W d M (0, ax_pad (ax_ent as) M.2.2.1, [], zc_S hq pq I J) (zc_Qi hq pq P)) : zc_i (d + 1) m as hq pq I J P := zb_in hM hl k
theorem zc_inl {d m : Nat} {M : ax_M} {as : List ax_v} {hq pq : Nat} {I J : zF} {P : Int → zF → zF → Prop} (hM : ax_T[m]? = some M) (hl : (ax_ent as).length ≤ M.2.2.1) (k : zb_W d M (0, ax_pad (ax_ent as) M.2.2.1, [], zc_S hq pq I J) (zc_Ql hq pq P)) : zc_l (d + 1) m as hq pq I J P := zb_in hM hl k
theorem zc_inv {d m : Nat} {M : ax_M} {as : List ax_v} {hq pq : Nat} {I J : zF} {P : zF → zF → Prop} (hM : ax_T[m]? = some M) (hl : (ax_ent as).length ≤ M.2.2.1) (k : zb_W d M (0, ax_pad (ax_ent as) M.2.2.1, [], zc_S hq pq I J) (zc_Qv hq pq P)) : zc_v (d + 1) m as hq pq I J P := zb_in hM hl k
theorem bo_ushr {a : Nat} (ha : a < 2147483648) {y : Int} {k : UInt32} {i : Nat} (hk : ((Int32.ofInt y).toUInt32 &&& Int32.toUInt32 31) = k) (hi : k.toNat % 32 = i) : ax_ushr (a : Int) y = ((a / 2 ^ i : Nat) : Int) := by
  unfold ax_ushr
  rw [hk]
  refine bo_ti ?_ (Nat.lt_of_le_of_lt (Nat.div_le_self _ _) ha)
  show ((Int32.ofInt (a : Int)).toUInt32 >>> k).toNat = a / 2 ^ i
  rw [UInt32.toNat_shiftRight, hi, Nat.shiftRight_eq_div_pow]
  have : (Int32.ofInt (a : Int)).toUInt32.toNat = a := bo_iv ha
  rw [this]
section ZC1
variable {d hf pf : Nat} {I J : zF} {P : Int → zF → zF → Prop} {P0 : zF → zF → Prop}
theorem sc_max {a b : Int} (ha : n32 a) (hb : n32 b) (hP : P (if a < b then b else a) I J) : zc_i (d + 1) 318 [.inl a, .inl b] hf pf I J P := by
  refine zc_ini (M := ax_m318) rfl (Nat.le_of_ble_eq_true rfl) (zk_JDK_max_0 hf pf I J a b ?_)
  rw [ha.w, hb.w]
  refine ⟨fun c => zc_Qi.of ?_, fun c => zc_Qi.of ?_⟩
  · rwa [if_pos c] at hP
  · rwa [if_neg c] at hP
theorem sc_min {a b : Int} (ha : n32 a) (hb : n32 b) (hP : P (if b < a then b else a) I J) : zc_i (d + 1) 320 [.inl a, .inl b] hf pf I J P := by
  refine zc_ini (M := ax_m320) rfl (Nat.le_of_ble_eq_true rfl) (zk_JDK_min_0 hf pf I J a b ?_)
  rw [ha.w, hb.w]
  refine ⟨fun c => zc_Qi.of ?_, fun c => zc_Qi.of ?_⟩
  · rwa [if_pos c] at hP
  · rwa [if_neg c] at hP
theorem sc_maxl {a b : Int} (ha : n64 a) (hb : n64 b) (hP : P (if a < b then b else a) I J) : zc_l (d + 1) 319 [.inr (.inl a), .inr (.inl b)] hf pf I J P := by
  refine zc_inl (M := ax_m319) rfl (Nat.le_of_ble_eq_true rfl) (zk_JDK_maxl_0 hf pf I J a b ?_)
  rw [zb_lc_lt ha hb]
  refine ⟨fun c => zc_Ql.of ?_, fun c => zc_Ql.of ?_⟩
  · rwa [if_pos c] at hP
  · rwa [if_neg c] at hP
theorem sc_minl {a b : Int} (ha : n64 a) (hb : n64 b) (hP : P (if b < a then b else a) I J) : zc_l (d + 1) 321 [.inr (.inl a), .inr (.inl b)] hf pf I J P := by
  refine zc_inl (M := ax_m321) rfl (Nat.le_of_ble_eq_true rfl) (zk_JDK_minl_0 hf pf I J a b ?_)
  rw [zb_lc_gt ha hb]
  refine ⟨fun c => zc_Ql.of ?_, fun c => zc_Ql.of ?_⟩
  · rwa [if_pos c] at hP
  · rwa [if_neg c] at hP
theorem xor_neg {a b : Int} (ha : n32 a) (hb : n32 b) : ax_xor a b < 0 ↔ ¬ (a < 0 ↔ b < 0) := by
  have h : ∀ x : Int, n32 x → (Int32.ofInt x).toBitVec.msb = decide (x < 0) := by
    intro x hx
    rw [BitVec.msb_eq_toInt]
    have e : (Int32.ofInt x).toBitVec.toInt = x := by
      have : (Int32.ofInt x).toInt = x := Int32.toInt_ofInt_of_le hx.1 hx.2
      exact this
    rw [e]
  have e1 : decide (ax_xor a b < 0) = Bool.xor (decide (a < 0)) (decide (b < 0)) := by
    rw [← h a ha, ← h b hb, ← BitVec.msb_xor, BitVec.msb_eq_toInt]
    rfl
  by_cases q1 : a < 0 <;> by_cases q2 : b < 0 <;> simp [q1, q2] at e1 ⊢ <;> omega
theorem b6_tdiv {a b : Int} (ha : b6 a) : b6 (Int.tdiv a b) := by
  have h1 : (Int.tdiv a b).natAbs ≤ a.natAbs := by rw [Int.natAbs_tdiv]; exact Nat.div_le_self _ _
  have := ha.1
  have := ha.2
  exact ⟨by omega, by omega⟩
theorem sc_floorDiv {a b : Int} (ha : b6 a) (hb : b6 b) (h0 : b ≠ 0) (hP : P (Int.fdiv a b) I J) : zc_i (d + 1) 317 [.inl a, .inl b] hf pf I J P := by
  have hq := b6_tdiv (b := b) ha
  have hle : (Int.tdiv a b * b).natAbs ≤ a.natAbs := by
    rw [Int.natAbs_mul, Int.natAbs_tdiv]
    exact Nat.div_mul_le_self _ _
  have ha1 := ha.1
  have ha2 := ha.2
  refine zc_ini (M := ax_m317) rfl (Nat.le_of_ble_eq_true rfl) (zk_JDK_floorDiv_0 hf pf I J a b ?_)
  have hxn : n32 (ax_xor a b) := by
    unfold ax_xor
    exact ⟨Int32.le_toInt _, Int32.toInt_lt _⟩
  rw [ha.n32.w, hb.n32.w, hxn.w, zb_w (x := Int.tdiv a b * b) (by omega) (by omega), show ax_w 0 = 0 from rfl, xor_neg ha.n32 hb.n32]
  have hdvd : Int.tdiv a b * b = a ↔ b ∣ a := ⟨fun e => ⟨Int.tdiv a b, by rw [Int.mul_comm]; exact e.symm⟩, fun e => Int.tdiv_mul_cancel e⟩
  rw [Int.fdiv_eq_tdiv] at hP
  refine ⟨h0, fun c => ⟨fun e => zc_Qi.of ?_, fun e => zc_Qi.of ?_⟩, fun c => zc_Qi.of ?_⟩
  · rwa [if_pos (hdvd.mp e), Int.sub_zero] at hP
  · rw [if_neg (fun q => e (hdvd.mpr q))] at hP
    by_cases q : 0 ≤ a
    · rw [if_pos q, if_neg (by omega)] at hP; exact hP
    · rw [if_neg q, if_pos (by omega), Int.sign_eq_one_of_pos (by omega)] at hP; exact hP
  · by_cases q : b ∣ a
    · rwa [if_pos q, Int.sub_zero] at hP
    · rw [if_neg q] at hP
      by_cases q2 : 0 ≤ a
      · rw [if_pos q2, if_pos (by omega), Int.sub_zero] at hP; exact hP
      · rw [if_neg q2, if_neg (by omega), Int.sign_eq_neg_one_of_neg (by omega), show (1 : Int) + -1 = 0 from rfl, Int.sub_zero] at hP; exact hP
theorem sc_bitCount {x : Int} (hx : g15 x) (hP : P (pf_bits x) I J) : zc_i (d + 1) 316 [.inl x] hf pf I J P := by
  obtain ⟨a, rfl⟩ := Int.eq_ofNat_of_zero_le hx.1
  have ha : a < 32768 := by have := hx.2; omega
  obtain ⟨_, _, f1, f2, f3, f4⟩ := bN_facts ha
  rw [pf_bits_bN ha] at hP
  unfold bN at hP
  refine zc_ini (M := ax_m316) rfl (Nat.le_of_ble_eq_true rfl) (zk_JDK_bitCount_0 hf pf I J (a : Int) ?_)
  have e1 : ax_ushr (a : Int) 1 = ((a / 2 : Nat) : Int) := bo_ushr (by omega) (k := 1) (i := 1) (by decide) (by decide)
  have e2 : (a : Int) - ((a / 2 &&& 1431655765 : Nat) : Int) = ((bN1 a : Nat) : Int) := by unfold bN1; omega
  rw [e1, show (1431655765 : Int) = ((1431655765 : Nat) : Int) from rfl, bo_and (by omega) (by decide), e2]
  generalize bN1 a = b at *
  have e3 : ax_ushr (b : Int) 2 = ((b / 4 : Nat) : Int) := bo_ushr (by omega) (k := 2) (i := 2) (by decide) (by decide)
  rw [e3, show (858993459 : Int) = ((858993459 : Nat) : Int) from rfl, bo_and (by omega) (by decide), bo_and (by omega) (by decide)]
  have e4 : ((b &&& 858993459 : Nat) : Int) + ((b / 4 &&& 858993459 : Nat) : Int) = ((bN2 b : Nat) : Int) := by unfold bN2; omega
  rw [e4]
  generalize bN2 b = c at *
  have e5 : ax_ushr (c : Int) 4 = ((c / 16 : Nat) : Int) := bo_ushr (by omega) (k := 4) (i := 4) (by decide) (by decide)
  rw [e5, show (252645135 : Int) = ((252645135 : Nat) : Int) from rfl, show (c : Int) + ((c / 16 : Nat) : Int) = ((c + c / 16 : Nat) : Int) by omega, bo_and (by omega) (by decide), show ((c + c / 16) &&& 252645135) = bN3 c from rfl]
  generalize bN3 c = e at *
  have e6 : ax_ushr (e : Int) 8 = ((e / 256 : Nat) : Int) := bo_ushr (by omega) (k := 8) (i := 8) (by decide) (by decide)
  rw [e6, show (e : Int) + ((e / 256 : Nat) : Int) = ((bN4 e : Nat) : Int) by unfold bN4; omega]
  have f5 : bN4 e ≤ 2000000 := by unfold bN4; omega
  generalize bN4 e = g at *
  have e7 : ax_ushr (g : Int) 16 = ((g / 65536 : Nat) : Int) := bo_ushr (by omega) (k := 16) (i := 16) (by decide) (by decide)
  rw [e7, show (g : Int) + ((g / 65536 : Nat) : Int) = ((bN5 g : Nat) : Int) by unfold bN5; omega, show (63 : Int) = ((63 : Nat) : Int) from rfl, bo_and (by unfold bN5; omega) (by decide)]
  exact zc_Qi.of hP
theorem sc_fill_l {w L : Nat} (hw : w < 97) (hk : zc_K w = (20, L)) (hL : L ≤ 100000) {v : Int} {Q : Option ax_v → ax_S → Prop} : ∀ (n : Nat) (k : Int) (I : zF), 0 ≤ k → k + n = L → (∀ I', (∀ i j, i ≠ w → I' i j = I i j) → (∀ j : Nat, (j : Int) < k → I' w j = I w j) → (∀ j : Nat, k ≤ (j : Int) → j < L → I' w j = v) → Q none (zc_S hf pf I' J)) → zb_W d ax_m322 (5, [some (.inr (.inr (some w))), some (.inl v), some (.inl k), some (.inl L)], [], zc_S hf pf I J) Q := by
  intro n
  induction n with
  | zero =>
    intro k I h0 he hQ
    refine zk_JDK_fill_5 hf pf I J v k L w L hw hk ?_
    simp (disch := omega) only [zb_w]
    exact ⟨fun c => by omega, fun _ => hQ I (fun _ _ _ => rfl) (fun _ _ => rfl) (fun j a b => by omega)⟩
  | succ n ih =>
    intro k I h0 he hQ
    refine zk_JDK_fill_5 hf pf I J v k L w L hw hk ?_
    simp (disch := omega) only [zb_w]
    refine ⟨fun _ => ⟨by omega, ih (k + 1) _ (by omega) (by omega) (fun I' a b c => hQ I' (fun i j q => ?_) (fun j q => ?_) (fun j q1 q2 => ?_))⟩, fun c => by omega⟩
    · rw [a i j q, zu_ne (by omega)]
    · rw [b j (by omega), zu_ne (by omega)]
    · by_cases e : j = k.toNat
      · rw [b j (by omega), e, zu_eq]
      · exact c j (by omega) q2
theorem sc_fill {w L : Nat} (hw : w < 97) (hk : zc_K w = (20, L)) (hL : L ≤ 100000) {v : Int} (hP : ∀ I', (∀ i j, i ≠ w → I' i j = I i j) → (∀ j, j < L → I' w j = v) → P0 I' J) : zc_v (d + 1) 322 [.inr (.inr (some w)), .inl v] hf pf I J P0 :=
  zc_inv (M := ax_m322) rfl (Nat.le_of_ble_eq_true rfl) (zk_JDK_fill_0 hf pf I J v w L hw hk (sc_fill_l hw hk hL L 0 I (by decide) (by omega) (fun I' a _ c => zc_Qv.of (hP I' a (fun j q => c j (by omega) q)))))
end ZC1
