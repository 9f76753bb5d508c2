/-! THE CLASS: a shop is read, all of it -/
def cDh (hs : Nat) (I I' : zF) : Prop := ∀ i j, ¬ (i = 3 ∧ 1 ≤ j ∧ j ≤ 7) → i ≠ 9 → ¬ (i = 7 ∧ j = 2) → ¬ (i = 8 ∧ (j = 3 ∨ j = 4)) → i ≠ 39 + 29 * hs → ¬ (40 + 29 * hs ≤ i ∧ i ≤ 46 + 29 * hs) → ¬ (58 + 29 * hs ≤ i ∧ i ≤ 65 + 29 * hs) → I' i j = I i j
theorem cDh.refl (hs : Nat) (I : zF) : cDh hs I I := fun _ _ _ _ _ _ _ _ _ => rfl
theorem cDh.trans {hs : Nat} {I I' I2 : zF} (h : cDh hs I I') (h2 : cDh hs I' I2) : cDh hs I I2 := fun i j a b c e f g k => (h2 i j a b c e f g k).trans (h i j a b c e f g k)
theorem cDf.h {hs : Nat} {I I' : zF} (h : cDf hs I I') : cDh hs I I' := fun i j a b c e f g k => h i j a b c e (by omega) g k
section ZCSg
variable {T : Nat → Int} {n : Int} {d hf hs : Nat} {J : zF} {P : Nat → Int → zF → zF → Prop}
theorem ri_77b {pf : Nat} {I : zF} {s : zs} {Q : Option ax_v → ax_S → Prop} (hX : cTx T n s I) (h1 : s.1 = n → Q (some (.inl 1)) (zc_S hf pf I J)) (h0 : s.1 ≠ n → ∀ I', cY I I' → cBad 5 s.1 I' → Q (some (.inl 0)) (zc_S hf pf I' J)) : zb_W (d + 3) ax_m77 (77, [some (.inr (.inr (some 8))), none, none], [], zc_S hf pf I J) Q := zkp_ShopReader_readInto_77 hf pf I J (sc_atEnd hX (bc (fun c => h1 c) (fun c => sc_failHere (s := s) hX.2.2.2.1 (fun I1 y1 b1 => b0 (h0 c I1 y1 b1)))))
theorem ri_23 (eh : hs = 0 ∨ hs = 1) {I0 : zF} {Q : Option ax_v → ax_S → Prop} : ∀ (k : Nat) (c : Int) (X : zX) (s : zs) (I : zF) (pf : Nat), c + k = 60 → 0 ≤ c → cTx T n s I → xOk X → xC X hs I → I (39 + 29 * hs) 12 = c → cDh hs I0 I → (∀ p a q, pShp T n k c X s = .inl (a, q) → ∀ I', cDh hs I0 I' → cBad a q I' → Q (some (.inl 0)) (zc_S hf p I' J)) → (∀ p c' X', pShp T n k c X s = .inr (c', X') → ∀ I', cDh hs I0 I' → xOk X' → xC X' hs I' → I' (39 + 29 * hs) 12 = c' → I' 3 6 = 0 → I' 3 7 = -1 → Q (some (.inl 1)) (zc_S hf p I' J)) → zb_W (d + 36) ax_m77 (23, [some (.inr (.inr (some 8))), some (.inr (.inr (some ((39 + 29 * hs))))), some (.inl c)], [], zc_S hf pf I J) Q := by
  intro k
  induction k with
  | zero =>
    intro c X s I pf hc h0 hX hxk hC h12 hF hb hg
    have c60 : c = 60 := by omega
    refine zkp_ShopReader_readInto_23 hf pf I J c hs eh ⟨fun z => ?_, fun _ => ri_77b hX (fun z => hg pf c X (if_pos z) I hF hxk hC h12 hX.2.2.2.2.2.1 hX.2.2.2.2.2.2) (fun z I1 y1 b1 => hb pf 5 s.1 (if_neg z) I1 (hF.trans y1.D.h) b1)⟩
    rw [c60] at z
    exact absurd z (by decide)
  | succ k ih =>
    intro c X s I pf hc h0 hX hxk hC h12 hF hb hg
    refine zkp_ShopReader_readInto_23 hf pf I J c hs eh ⟨fun _ => sc_atEnd hX (bc (fun z => ?_) (fun z => ?_)), fun z => absurd ?_ z⟩
    · exact ri_77b hX (fun z => hg pf c X (if_pos z) I hF hxk hC h12 hX.2.2.2.2.2.1 hX.2.2.2.2.2.2) (fun z' => absurd z z')
    · have eq : pShp T n (k + 1) c X s = (match pStm T n X s with | .inl e => .inl e | .inr (s1, X1) => if lc T n s1.1 = 59 then pShp T n k (c + 1) X1 (aS T n s1) else .inl (1, s1.1)) := if_neg z
      refine sc_statement eh hX hxk hC (fun p a q e I1 f1 b1 => b0 (hb p a q ?_ I1 (hF.trans f1.h) b1)) (fun p s1 X1 e I1 f1 X1' C1 => b1 (sc_takeSign X1' ⟨⟨by decide, by decide⟩, by decide, by decide⟩ (fun l I2 y2 X2 => b1 ?_) (fun l I2 y2 b2 => b0 (hb p 1 s1.1 ?_ I2 (hF.trans (f1.h.trans y2.D.h)) b2))))
      · rw [eq, e]
      · rw [e] at eq
        have eq' : pShp T n (k + 1) c X s = pShp T n k (c + 1) X1 (aS T n s1) := by rw [eq]; exact if_pos l
        rw [eq'] at hb hg
        have e12 : I2 (39 + 29 * hs) 12 = c := by rw [y2 _ _ (by omega), f1 _ _ (by omega) (by omega) (by omega) (by omega) (by omega) (by omega) (by omega)]; exact h12
        rw [e12]
        exact ih (c + 1) X1 (aS T n s1) _ p (by omega) (by omega) (X2.fr (fun i j q => zu_ne (by omega))) (pStm_ok hX.ok hxk e).1 (C1.cong (fun i j q => by rw [zu_ne (by omega)]; exact y2 i j (by omega))) zu_eq (hF.trans (f1.h.trans (fun i j a b c e f g k => by rw [zu_ne (by omega)]; exact y2 i j a))) hb hg
      · rw [eq, e]
        exact if_neg l
    · rw [zb_w (x := c) (by omega) (by omega)]
      show c < 60
      omega
/-- what a shop that is read writes -/
def cRf (hs : Nat) (I I' : zF) : Prop := ∀ i j, ¬ (i = 3 ∧ 1 ≤ j ∧ j ≤ 7) → i ≠ 9 → ¬ (i = 7 ∧ j = 2) → ¬ (i = 8 ∧ (j = 3 ∨ j = 4)) → ¬ (39 + 29 * hs ≤ i ∧ i ≤ 67 + 29 * hs) → I' i j = I i j
theorem sc_readInto {I : zF} {pf : Nat} (eh : hs = 0 ∨ hs = 1) (hT : tC T n I) (hP0 : ∀ p k q, pShp T n 60 0 xNew (s0 T n) = .inl (k, q) → ∀ I', cRf hs I I' → cBad k q I' → P p 0 I' J) (hP1 : ∀ p c X', pShp T n 60 0 xNew (s0 T n) = .inr (c, X') → ∀ I', cRf hs I I' → xOk X' → xC X' hs I' → I' (39 + 29 * hs) 12 = c → I' 3 6 = 0 → I' 3 7 = -1 → I' (48 + 29 * hs) 10 = -1 → (∀ j, j < 64 → I' (67 + 29 * hs) j = -1) → P p 1 I' J) : zc_ip (d + 37) 77 [.inr (.inr (some 8)), .inr (.inr (some ((39 + 29 * hs))))] hf pf I J P := by
  refine zb_in (M := ax_m77) rfl (Nat.le_of_ble_eq_true rfl) (zkp_ShopReader_readInto_0 hf pf I J hs eh (sc_clearS eh (fun I1 f1 K1 p0 p1 e12 e48 e67 => ?_)))
  have hT1 : tC T n (ax_u (ax_u I1 8 3 0) 8 4 0) := ⟨by rw [zu_ne (by omega), zu_ne (by omega), f1 1 1 (by omega)]; exact hT.1, hT.2.1, fun j hj => by rw [zu_ne (by omega), zu_ne (by omega), f1 2 j (by omega)]; exact hT.2.2 j hj⟩
  refine sc_beginT hT1 (fun I2 y2 X2 => ?_)
  have g : ∀ i j, i ≠ 3 → ¬ (i = 8 ∧ (j = 3 ∨ j = 4)) → I2 i j = I1 i j := fun i j a b => by rw [y2 i j (by omega), zu_ne (by omega), zu_ne (by omega)]
  have C2 : xC xNew hs I2 := ⟨K1.cong (fun i j q => g i j (by omega) (by omega)), cP_cong (g _ _ (by omega) (by omega)) (fun j => g _ _ (by omega) (by omega)) p0, cP_cong (g _ _ (by omega) (by omega)) (fun j => g _ _ (by omega) (by omega)) p1, by rw [y2 8 3 (by omega), zu_ne (by omega), zu_eq]; rfl, by rw [y2 8 4 (by omega), zu_eq]; rfl⟩
  have F2 : ∀ {I' : zF}, cDh hs I2 I' → cRf hs I I' := fun h i j a b c e f => by rw [h i j a b c e (by omega) (by omega) (by omega), y2 i j a, zu_ne (by omega), zu_ne (by omega)]; exact f1 i j f
  refine ri_23 (I0 := I2) eh 60 0 xNew (s0 T n) I2 pf (by decide) (by decide) X2 xNew_ok C2 (by rw [g _ _ (by omega) (by omega)]; exact e12) (cDh.refl hs I2) (fun p a q e I' f b => ⟨p, _, _, _, rfl, rfl, hP0 p a q e I' (F2 f) b⟩) (fun p c' X' e I' f xo C c12 g6 g7 => ⟨p, _, _, _, rfl, rfl, hP1 p c' X' e I' (F2 f) xo C c12 g6 g7 ?_ (fun j hj => ?_)⟩)
  · rw [f _ _ (by omega) (by omega) (by omega) (by omega) (by omega) (by omega) (by omega), g _ _ (by omega) (by omega)]; exact e48
  · rw [f _ _ (by omega) (by omega) (by omega) (by omega) (by omega) (by omega) (by omega), g _ _ (by omega) (by omega)]; exact e67 j hj
end ZCSg
