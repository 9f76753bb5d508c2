/-! THE REFERENCE: shop, all of it -/
def rDc (i j : Nat) : Prop := i = 31 ∨ (i = 32 ∧ j < 2) ∨ (i = 33 ∧ j < 48) ∨ (i = 34 ∧ j < 56) ∨ i = 35 ∨ (i = 36 ∧ j < 3) ∨ (i = 37 ∧ j < 2) ∨ (i = 38 ∧ j < 2) ∨ (i = 39 ∧ j < 1600) ∨ i = 75 ∨ i = 76
def rD0 (j : Nat) : Prop := j = 1 ∨ j = 2 ∨ j = 3 ∨ j = 4 ∨ j = 5 ∨ j = 6 ∨ j = 7 ∨ j = 8 ∨ j = 10 ∨ j = 39 ∨ j = 40 ∨ j = 44 ∨ j = 47 ∨ j = 54 ∨ j = 55 ∨ j = 56 ∨ j = 106 ∨ j = 108 ∨ j = 109 ∨ j = 110
section ZRS5
variable {d : Nat} {I J : zF} {T : Nat → Int} {n : Int} {P : Int → zF → zF → Prop}
theorem sr_shop (hT : tR T n I) (hW : rW I) (hP0 : ∀ k q, pShp T n 60 0 xNew (s0 T n) = .inl (k, q) → ∀ I', I' 0 1 = 0 → I' 0 7 = k → I' 0 8 = q → I' 2 1 = I 2 1 + 1 → (∀ i j, ¬ rDc i j → ¬ (i = 0 ∧ rD0 j) → ¬ (i = 2 ∧ j = 1) → I' i j = I i j) → P (-1) I' J) (hP1 : ∀ c X, pShp T n 60 0 xNew (s0 T n) = .inr (c, X) → ∀ I', rB X.1 X.2.1 (wShop X.1) I' → I' 0 1 = 0 → I' 0 78 = 0 → I' 0 7 = 0 → I' 0 8 = -1 → (∀ i j, ¬ (31 ≤ i ∧ i ≤ 40) → i ≠ 75 → i ≠ 76 → ¬ (i = 0 ∧ (rD0 j ∨ j = 45 ∨ j = 48 ∨ j = 78)) → I' i j = I i j) → P c I' J) : zr_i (d + 12) 200 [.inr (.inr (some 0))] I J P := by
  have key : ∀ Z : zF, (∀ i j, ¬ rDc i j → ¬ (i = 0 ∧ rD0 j) → Z i j = I i j) → Z 0 1 = 0 → rTx T n (s0 T n) Z → xR xNew Z → Z 0 54 = 0 → Z 0 55 = 0 → zb_W (d + 11) ax_m200 (103, [some (.inr (.inr (some 0)))], [], zr_S Z J) (zr_Qi P) := by
    intro Z zF z1 zL zR z54 z55
    refine sh_103 (I0 := Z) 60 0 xNew (s0 T n) Z (by decide) (by decide) zL xNew_ok zR (by have := zL.ok.1; omega) z55 (rDf.refl Z) (fun a q e I' f b => sh_125b b (hP0 a q e _ ?_ ?_ ?_ ?_ (fun i j g1 g2 g3 => ?_))) (fun c' X' e I' f hX hR h5 h6 h54 h55 => sh_125 hX hR h5 h6 h54 (fun I2 b1 b2 b3 b4 b5 => ?_))
    · rw [zu_ne (by omega), zu_ne (by omega), zu_ne (by omega), f 0 1 (by omega) (by omega)]; exact z1
    · rw [zu_ne (by omega), zu_ne (by omega), zu_eq]
    · rw [zu_ne (by omega), zu_eq]
    · rw [zu_eq, f 2 1 (by omega) (by omega), zF 2 1 (by unfold rDc; omega) (by omega)]
    · unfold rDc at g1
      unfold rD0 at g2
      rw [zu_ne (by omega), zu_ne (by omega), zu_ne (by omega), f i j (by omega) (by omega)]
      exact zF i j (by unfold rDc; omega) (by unfold rD0; omega)
    · rw [h55]
      refine hP1 c' X' e I2 b1 ?_ b2 b3 b4 (fun i j g1 g2 g3 g4 => ?_)
      · rw [b5 0 1 (by omega) (by omega), f 0 1 (by omega) (by omega)]; exact z1
      · unfold rD0 at g4
        rw [b5 i j (by omega) (by omega), f i j (by omega) (by omega)]
        exact zF i j (by unfold rDc; omega) (by unfold rD0; omega)
  obtain ⟨t1, t2, t3⟩ := id hT
  have hs := s0_okR hT
  refine zr_ini (M := ax_m200) rfl (Nat.le_of_ble_eq_true rfl) (zq_shop_0 I J ?_)
  rw [show (ax_w 0).toNat = 0 from rfl, show (ax_w 1).toNat = 1 from rfl, show (ax_w 2).toNat = 2 from rfl]
  refine key _ (fun i j g1 g2 => ?_) ?_ ⟨hs, ?_, fun j hj => ?_, ?_, ?_, ?_, rW_cong hW (fun i j a b c e => ?_), ?_⟩ ⟨⟨fun h a b => ?_, fun h k a b c e => ?_, ?_, fun w a b => ?_, fun w k a b => ?_, ?_, fun b a c => ?_, fun k a b => ?_⟩, ?_, Or.inl ⟨rfl, ?_⟩, Or.inl ⟨rfl, ?_⟩⟩ ?_ ?_
  · unfold rDc at g1
    unfold rD0 at g2
    repeat rw [zu_ne (by omega)]
  · repeat (first | rw [zu_eq] | rw [zu_ne (by omega)])
  · rw [show (I 0 1) = n from t1]
    repeat (first | rw [zu_eq] | rw [zu_ne (by omega)])
  · have := (t3 j hj).1
    repeat rw [zu_ne (by omega)]
    exact this
  · have e2 : ∀ v : Int, v = 0 → 0 ≤ v ∧ v ≤ (s0 T n).1 ∧ rn T n fB v = (s0 T n).1 := fun v hv => by
      rw [hv]; exact ⟨by decide, rn_le T n fB 0, rfl⟩
    refine e2 _ ?_
    repeat (first | rw [zu_eq] | rw [zu_ne (by omega)])
  · show _ = (-1 : Int)
    repeat (first | rw [zu_eq] | rw [zu_ne (by omega)])
  · repeat (first | rw [zu_eq] | rw [zu_ne (by omega)])
  · have hk : ∀ i, 32 ≤ i → i ≤ 37 → zr_K i ≠ (21, (zr_K i).2) := by
      intro i i1 i2
      rcases (show i = 32 ∨ i = 33 ∨ i = 34 ∨ i = 35 ∨ i = 36 ∨ i = 37 by omega) with q | q | q | q | q | q <;> rw [q] <;> decide
    have : ¬ (32 ≤ i ∧ i ≤ 37) := fun z => hk i z.1 z.2 e
    repeat rw [zu_ne (by omega)]
  · repeat (first | rw [zu_eq] | rw [zu_ne (by omega)])
  · show _ = (0 : Int)
    rcases (show h = 0 ∨ h = 1 by omega) with q | q
    · subst q
      show _ = (0 : Int)
      rw [show ((0 : Int).toNat) = 0 from rfl]
      repeat (first | rw [zu_eq] | rw [zu_ne (by omega)])
    · subst q
      rw [show ((1 : Int).toNat) = 1 from rfl]
      repeat (first | rw [zu_eq] | rw [zu_ne (by omega)])
  · have e' : k < (0 : Int) := e
    omega
  · show _ = (0 : Int)
    repeat (first | rw [zu_eq] | rw [zu_ne (by omega)])
  · have e' : w < (0 : Int) := b
    omega
  · have e' : w < (0 : Int) := b
    omega
  · show _ = (0 : Int)
    repeat (first | rw [zu_eq] | rw [zu_ne (by omega)])
  · have e' : b < (0 : Int) := c
    omega
  · rcases (show k = 0 ∨ k = 1 ∨ k = 2 by omega) with q | q | q
    · subst q
      show _ = (2 : Int)
      rw [show ((0 : Int).toNat) = 0 from rfl]
      repeat (first | rw [zu_eq] | rw [zu_ne (by omega)])
    · subst q
      show _ = (9 : Int)
      rw [show ((1 : Int).toNat) = 1 from rfl]
      repeat (first | rw [zu_eq] | rw [zu_ne (by omega)])
    · subst q
      show _ = (0 : Int)
      rw [show ((2 : Int).toNat) = 2 from rfl]
      repeat (first | rw [zu_eq] | rw [zu_ne (by omega)])
  · have e2 : ∀ v : Int, v = 0 → 0 ≤ v := fun v hv => by omega
    refine e2 _ ?_
    repeat (first | rw [zu_eq] | rw [zu_ne (by omega)])
  · repeat (first | rw [zu_eq] | rw [zu_ne (by omega)])
  · repeat (first | rw [zu_eq] | rw [zu_ne (by omega)])
  · repeat (first | rw [zu_eq] | rw [zu_ne (by omega)])
  · repeat (first | rw [zu_eq] | rw [zu_ne (by omega)])
end ZRS5
