/-! THE CLASS: formulas, first things -/
theorem bo_shl4 {a : Nat} (ha : a ≤ 100000) : ax_shl (a : Int) 4 = ((a * 16 : Nat) : Int) := by
  have h4 : ((Int32.ofInt 4 &&& 31).toBitVec.smod 32).toNat = 4 := by decide +kernel
  unfold ax_shl
  refine bo_ti ?_ (by omega)
  rw [Int32.toBitVec_shiftLeft, BitVec.shiftLeft_eq', BitVec.toNat_shiftLeft, bo_iv (by omega), h4, Nat.shiftLeft_eq]
  omega
theorem or4 {o st : Nat} (ho : o ≤ 100000) (hs : st < 16) : ax_or (ax_shl (o : Int) 4) (st : Int) = ((o * 16 + st : Nat) : Int) := by
  rw [bo_shl4 ho, bo_or (by omega) (by omega)]
  have := Nat.two_pow_add_eq_or_of_lt (i := 4) (b := st) hs o
  rw [show o * 16 = 2 ^ 4 * o by omega, ← this]
theorem or4_i {o st : Int} (ho : 0 ≤ o ∧ o ≤ 100000) (hs : 0 ≤ st ∧ st < 16) : ax_or (ax_shl o 4) st = o * 16 + st := by
  obtain ⟨x, rfl⟩ := Int.eq_ofNat_of_zero_le ho.1
  obtain ⟨y, rfl⟩ := Int.eq_ofNat_of_zero_le hs.1
  have := or4 (o := x) (st := y) (by omega) (by omega)
  rw [this]
  omega
def cX (pf : Nat) (I I' : zF) : Prop := ∀ i j, ¬ (i = 3 ∧ 1 ≤ j ∧ j ≤ 7) → i ≠ pf + 1 → ¬ (i = pf ∧ j = 2) → I' i j = I i j
theorem cX.refl (pf : Nat) (I : zF) : cX pf I I := fun _ _ _ _ _ => rfl
theorem cX.trans {pf : Nat} {I I' I2 : zF} (h : cX pf I I') (h2 : cX pf I' I2) : cX pf I I2 := fun i j a b c => (h2 i j a b c).trans (h i j a b c)
theorem cY.X {pf : Nat} {I I' : zF} (h : cY I I') : cX pf I I' := fun i j a _ _ => h i j a
theorem cTx.fr {T : Nat → Int} {n : Int} {s : zs} {I I' : zF} (h : cTx T n s I) (g : ∀ i j, i = 1 ∨ i = 2 ∨ i = 3 → I' i j = I i j) : cTx T n s I' := by
  obtain ⟨a, b, c, e, f, k, l⟩ := h
  refine ⟨a, ⟨by rw [g 1 1 (by omega)]; exact b.1, b.2.1, fun j hj => by rw [g 2 j (by omega)]; exact b.2.2 j hj⟩, ?_, ?_, ?_, ?_, ?_⟩
  · rw [g 3 1 (by omega)]; exact c
  · rw [g 3 2 (by omega)]; exact e
  · rw [g 3 3 (by omega)]; exact f
  · rw [g 3 6 (by omega)]; exact k
  · rw [g 3 7 (by omega)]; exact l
theorem isP.ne {p : Nat} (h : isP p) : 4 ≤ p ∧ p ≠ 7 ∧ p + 1 ≠ 7 := by rcases h with q | q | q | q | q <;> omega
theorem cY.P {p : Nat} (hp : isP p) {I I' : zF} {cs : List Int} (h : cY I I') (hc : cP I p cs) : cP I' p cs := cP_cong (h p 2 (by have := hp.ne; omega)) (fun j => h (p + 1) j (by have := hp.ne; omega)) hc
theorem cX.k {pf : Nat} (hp : isP pf) {I I' : zF} {v : Int} (h : cX pf I I') (hk : I 7 2 = v) : I' 7 2 = v := by
  have := hp.ne
  rw [h 7 2 (by omega) (by omega) (by omega)]; exact hk
/-- what a reader of the class does: method m, o levels open -/
def cRd (T : Nat → Int) (n : Int) (hf pf : Nat) (J : zF) (k m h : Nat) (o : Int) (pp : zs → zR) : Prop := ∀ (e : Nat) (s : zs) (cs : List Int) (I : zF) (P : Int → zF → zF → Prop), h ≤ e → cTx T n s I → cP I pf cs → I 7 2 = (k : Int) → (cs.length : Int) ≤ s.1 → (∀ a q, pp s = .inl (a, q) → ∀ I', cX pf I I' → cBad a q I' → P 0 I' J) → (∀ s' out, pp s = .inr (s', out) → ∀ I', cX pf I I' → cTx T n s' I' → cP I' pf (cs ++ out) → P 1 I' J) → zc_i e m [.inr (.inr (some 7)), .inl o] hf pf I J P
section ZCF
variable {T : Nat → Int} {n : Int} {d hf pf : Nat} {I J : zF} {k : Nat} {s : zs} {P : Int → zF → zF → Prop} {P0 : zF → zF → Prop}
theorem sc_opens {o : Int} (ho : 0 ≤ o ∧ o ≤ 6) (hX : cTx T n s I) (hb : o = 6 → ∀ I', cY I I' → cBad 4 s.1 I' → P 0 I' J) (hg : o ≠ 6 → zc_v (d + 3) 91 [.inr (.inr (some 3))] hf pf I J (fun I' J' => P 1 I' J')) : zc_i (d + 4) 23 [.inr (.inr (some 7)), .inl o] hf pf I J P := by
  refine zc_ini (M := ax_m23) rfl (Nat.le_of_ble_eq_true rfl) (zk_FormulaReader_opens_0 hf pf I J o ?_)
  rw [zb_w (x := o) (by omega) (by omega)]
  refine ⟨fun q => ?_, fun q => ?_⟩
  · have q' : o < 6 := q
    obtain ⟨v, s', h1, I', J', h2, h3, h4⟩ := hg (by omega)
    exact ⟨v, s', h1, I', J', h2, h3, zc_Qi.of h4⟩
  · have q' : ¬ o < 6 := q
    exact sc_failHere (s := s) hX.2.2.2.1 (fun I' y b => ⟨Or.inl rfl, zc_Qi.of (hb (by omega) I' y b)⟩)
theorem sc_doubtSlot (hX : cTx T n s I) (hP : P (vw T n 0 s) I J) : zc_i (d + 3) 24 [.inr (.inr (some 7))] hf pf I J P := by
  have e : vw T n 0 s = if wd T n s = ((11 : Nat) : Int) then 0 else if wd T n s = ((12 : Nat) : Int) then 1 else if wd T n s = ((13 : Nat) : Int) then 2 else -1 := by
    unfold vw vOf alw
    simp only [decide_eq_true_eq]
    have := wd_in T n s
    repeat' split
    all_goals omega
  rw [e] at hP
  refine zc_ini (M := ax_m24) rfl (Nat.le_of_ble_eq_true rfl) (zk_FormulaReader_doubtSlot_0 hf pf I J (sc_is hX (ks := 11) (by decide) (by decide) (bc (fun c => zc_Qi.of ?_) (fun c => sc_is hX (ks := 12) (by decide) (by decide) (bc (fun c2 => zc_Qi.of ?_) (fun c2 => sc_is hX (ks := 13) (by decide) (by decide) (bc (fun c3 => zc_Qi.of ?_) (fun c3 => zc_Qi.of ?_)))))))) 
  · rwa [if_pos c] at hP
  · rwa [if_neg c, if_pos c2] at hP
  · rwa [if_neg c, if_neg c2, if_pos c3] at hP
  · rwa [if_neg c, if_neg c2, if_neg c3] at hP
theorem sc_rainSlot (hX : cTx T n s I) (hP : P (vw T n 1 s) I J) : zc_i (d + 3) 25 [.inr (.inr (some 7))] hf pf I J P := by
  have e : vw T n 1 s = if wd T n s = ((14 : Nat) : Int) then 3 else if wd T n s = ((15 : Nat) : Int) then 4 else if wd T n s = ((16 : Nat) : Int) then 5 else if wd T n s = ((17 : Nat) : Int) then 6 else if wd T n s = ((18 : Nat) : Int) then 7 else -1 := by
    unfold vw vOf alw
    simp only [decide_eq_true_eq]
    have := wd_in T n s
    repeat' split
    all_goals omega
  rw [e] at hP
  refine zc_ini (M := ax_m25) rfl (Nat.le_of_ble_eq_true rfl) (zk_FormulaReader_rainSlot_0 hf pf I J (sc_is hX (ks := 14) (by decide) (by decide) (bc (fun c => zc_Qi.of ?_) (fun c => sc_is hX (ks := 15) (by decide) (by decide) (bc (fun c2 => zc_Qi.of ?_) (fun c2 => sc_is hX (ks := 16) (by decide) (by decide) (bc (fun c3 => zc_Qi.of ?_) (fun c3 => sc_is hX (ks := 17) (by decide) (by decide) (bc (fun c4 => zc_Qi.of ?_) (fun c4 => sc_is hX (ks := 18) (by decide) (by decide) (bc (fun c5 => zc_Qi.of ?_) (fun c5 => zc_Qi.of ?_)))))))))))) 
  · rwa [if_pos c] at hP
  · rwa [if_neg c, if_pos c2] at hP
  · rwa [if_neg c, if_neg c2, if_pos c3] at hP
  · rwa [if_neg c, if_neg c2, if_neg c3, if_pos c4] at hP
  · rwa [if_neg c, if_neg c2, if_neg c3, if_neg c4, if_pos c5] at hP
  · rwa [if_neg c, if_neg c2, if_neg c3, if_neg c4, if_neg c5] at hP
theorem sc_questionSlot (hX : cTx T n s I) (hP : P (vw T n 2 s) I J) : zc_i (d + 3) 26 [.inr (.inr (some 7))] hf pf I J P := by
  have e : vw T n 2 s = if wd T n s = ((19 : Nat) : Int) then 8 else if wd T n s = ((20 : Nat) : Int) then 9 else if wd T n s = ((13 : Nat) : Int) then 2 else if wd T n s = ((18 : Nat) : Int) then 7 else -1 := by
    unfold vw vOf alw
    simp only [decide_eq_true_eq]
    have := wd_in T n s
    repeat' split
    all_goals omega
  rw [e] at hP
  refine zc_ini (M := ax_m26) rfl (Nat.le_of_ble_eq_true rfl) (zk_FormulaReader_questionSlot_0 hf pf I J (sc_is hX (ks := 19) (by decide) (by decide) (bc (fun c => zc_Qi.of ?_) (fun c => sc_is hX (ks := 20) (by decide) (by decide) (bc (fun c2 => zc_Qi.of ?_) (fun c2 => sc_is hX (ks := 13) (by decide) (by decide) (bc (fun c3 => zc_Qi.of ?_) (fun c3 => sc_is hX (ks := 18) (by decide) (by decide) (bc (fun c4 => zc_Qi.of ?_) (fun c4 => zc_Qi.of ?_)))))))))) 
  · rwa [if_pos c] at hP
  · rwa [if_neg c, if_pos c2] at hP
  · rwa [if_neg c, if_neg c2, if_pos c3] at hP
  · rwa [if_neg c, if_neg c2, if_neg c3, if_pos c4] at hP
  · rwa [if_neg c, if_neg c2, if_neg c3, if_neg c4] at hP
end ZCF
