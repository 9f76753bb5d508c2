/-! OPERATIONS, BOTH SIDES: shop -/
section ZOPE
variable {D : zD} {pg : zG} {W : zD} {U : Nat → zD} {u s : Int} {T : Nat → Int} {n : Int} {l : List Int} {e f : Int} {st : Nat → Int} {I J : zF} {hf pf : Nat}
theorem st1 {I I' : zF} {c : Nat} (h : ∀ j, j < 6 → I c j = st j) (h1 : I' c 1 = I c 1 + 1) (g : ∀ j, j ≠ 1 → I' c j = I c j) : ∀ j, j < 6 → I' c j = bp 1 st j := fun j hj => by
  unfold bp
  by_cases q : j = 1
  · rw [if_pos q, q, h1, h 1 (by decide)]
  · rw [if_neg q, g j q]; exact h j hj
theorem bo_shop : ∃ x D' pg' W' U' u' s' T' n' l' e' f' st', bo 200 129 [] (.inl x) (ZZ D pg W U u s T n l e f st) (ZZ D' pg' W' U' u' s' T' n' l' e' f' st') := by
  have cF : ∀ {hf pf p : Nat} {I J I' : zF} {e' f' : Int} (ho : Nat), (hf = 0 ∧ ho = 1) ∨ (hf = 1 ∧ ho = 0) → CC D pg W U u s T n l e f st hf pf I J → (∀ i j, ¬ (i = 3 ∧ 1 ≤ j ∧ j ≤ 7) → i ≠ 9 → ¬ (i = 7 ∧ j = 2) → ¬ (i = 8 ∧ (j = 3 ∨ j = 4)) → ¬ (39 + 29 * ho ≤ i ∧ i ≤ 67 + 29 * ho) → ¬ (i = 1 ∧ j = 1) → ¬ (i = 38 ∧ j = 1) → I' i j = I i j) → I' 3 6 = e' → I' 3 7 = f' → I' 1 1 = 0 → I' 38 1 = I 38 1 + 1 → CC D pg W U u s T 0 l e' f' (bp 1 st) hf p I' J := fun {hf pf p I J I' e' f'} ho eh h k1 k6 k7 k0 k8 => by
    obtain ⟨a1, a2, a3, a4, a5, a6, a7, a8, a9, b1⟩ := h
    have g : ∀ i j, 10 ≤ i → ¬ (39 + 29 * ho ≤ i ∧ i ≤ 67 + 29 * ho) → i ≠ 38 → I' i j = I i j := fun i j q1 q2 q3 => k1 i j (by omega) (by omega) (by omega) (by omega) q2 (by omega) (by omega)
    exact ⟨a1, cB_fr2 a2 (fun i j q => g i j (by omega) (by omega) (by omega)), cM_cong (fun i j q => g i j (by omega) (by omega) (by omega)) a3, uC_cong a4 (g 12 3 (by omega) (by omega) (by omega)) (g 12 4 (by omega) (by omega) (by omega)) (fun i j _ _ => g i j (by omega) (by omega) (by omega)), a5, ⟨k0, by decide, fun j hj => by omega⟩, ⟨⟨by rw [g 36 1 (by omega) (by omega) (by omega)]; exact a7.1.1, fun q hq => by rw [g 37 q (by omega) (by omega) (by omega)]; exact a7.1.2 q hq⟩, a7.2⟩, ⟨k6, k7⟩, st1 a9 k8 (fun j q => k1 38 j (by omega) (by omega) (by omega) (by omega) (by omega) (by omega) (by omega)), fun j q1 q2 => by rw [g 11 j (by omega) (by omega) (by omega)]; exact b1 j q1 q2⟩
  have cG' : ∀ {hf pf p : Nat} {I J I' : zF} {X : zX} (ho : Nat), (ho = 0 ∨ ho = 1) → CC D pg W U u s T n l e f st hf pf I J → (∀ i j, ¬ (i = 3 ∧ 1 ≤ j ∧ j ≤ 7) → i ≠ 9 → ¬ (i = 7 ∧ j = 2) → ¬ (i = 8 ∧ (j = 3 ∨ j = 4)) → ¬ (39 + 29 * ho ≤ i ∧ i ≤ 67 + 29 * ho) → ¬ (i = 1 ∧ j = 1) → i ≠ 13 → ¬ (i = 12 ∧ (j = 3 ∨ j = 4)) → I' i j = I i j) → cB X.1 X.2.1 (wShop X.1) ho I' → cM X.1 X.2.1 ho I' → I' 12 3 = 0 → I' 12 4 = 0 → I' 3 6 = 0 → I' 3 7 = -1 → I' 1 1 = 0 → CC X.1 X.2.1 (wShop X.1) U 0 s T 0 l 0 (-1) st ho p I' J := fun {hf pf p I J I' X} ho eh h k1 kB kM k3 k4 k6 k7 k0 => by
    obtain ⟨a1, a2, a3, a4, a5, a6, a7, a8, a9, b1⟩ := h
    have g : ∀ i j, 10 ≤ i → i ≤ 38 → i ≠ 12 → i ≠ 13 → I' i j = I i j := fun i j q1 q2 q3 q4 => k1 i j (by omega) (by omega) (by omega) (by omega) (by omega) (by omega) q4 (by omega)
    exact ⟨eh, kB, kM, ⟨k3, by decide, by omega, fun i hi => by omega⟩, a5, ⟨k0, by decide, fun j hj => by omega⟩, ⟨⟨by rw [g 36 1 (by omega) (by omega) (by omega) (by omega)]; exact a7.1.1, fun q hq => by rw [g 37 q (by omega) (by omega) (by omega) (by omega)]; exact a7.1.2 q hq⟩, a7.2⟩, ⟨k6, k7⟩, fun j hj => by rw [g 38 j (by omega) (by omega) (by omega) (by omega)]; exact a9 j hj, fun j q1 q2 => by rw [g 11 j (by omega) (by omega) (by omega) (by omega)]; exact b1 j q1 q2⟩
  cases hp : pShp T n 60 0 xNew (s0 T n) with
  | inl v =>
    obtain ⟨k, q⟩ := v
    refine ⟨-1, D, pg, W, U, u, s, T, 0, l, k, q, bp 1 st, fun I J h => toRi (sr_shop (d := 38) h.2.2.2.2.1 h.2.2.2.2.2.2.1 (fun k' q' e' I' k0 k7 k8 k2 k1 => ?_) (fun c' X' e' => by rw [hp] at e'; cases e')), fun hf pf I J h => toCihp ?_⟩
    · rw [hp] at e'
      cases e'
      obtain ⟨a1, a2, a3, a4, a5, a6, a7, a8, a9⟩ := id h
      have g0 : ∀ j, ¬ rD0 j → I' 0 j = I 0 j := fun j q => k1 0 j (by unfold rDc; omega) (fun z => q z.2) (by omega)
      have g : ∀ i j, ¬ rDc i j → 3 ≤ i → I' i j = I i j := fun i j q1 q2 => k1 i j q1 (by omega) (by omega)
      exact ⟨rfl, RR_gen h ⟨rS_D a1.S (fun i j q1 q2 q3 => g i j q1 (by omega)) (g0 45 (by unfold rD0; omega)) (g0 48 (by unfold rD0; omega)), a1.W, by rw [show I' 40 = I 40 from funext (fun j => g 40 j (by unfold rDc; omega) (by omega))]; exact a1.2.2⟩ (uR_cong a2 (fun j => g 50 j (by unfold rDc; omega) (by omega)) (g0 78 (by unfold rD0; omega)) (g0 79 (by unfold rD0; omega))) a4 ⟨k0, by decide, fun j hj => by omega⟩ ⟨⟨by rw [g0 116 (by unfold rD0; omega)]; exact a6.1.1, fun q hq => by rw [g 78 q (by unfold rDc; omega) (by omega)]; exact a6.1.2 q hq⟩, a6.2⟩ ⟨k7, k8⟩ (st1 a9 k2 (fun j q => k1 2 j (by unfold rDc; omega) (by omega) (by omega))) (fun i j q => by
        rcases q with ⟨q1, q2⟩ | q | q
        · rw [q1, q2]; exact g0 66 (by unfold rD0; omega)
        · exact g i j (by unfold rDc; omega) (by omega)
        · exact g i j (by unfold rDc; omega) (by omega))⟩
    · rcases id h.1 with rfl | rfl
      · refine sc_shop_0 (d := 12) h.2.2.2.2.2.1 (fun p k' q' e' I' k1 k6 k7 k0 k8 => ?_) (fun p c' X' e' => by rw [hp] at e'; cases e')
        rw [hp] at e'
        cases e'
        exact ⟨rfl, cF (pf := pf) (p := p) 1 (by omega) h k1 k6 k7 k0 k8⟩
      · refine sc_shop_1 (d := 12) h.2.2.2.2.2.1 (fun p k' q' e' I' k1 k6 k7 k0 k8 => ?_) (fun p c' X' e' => by rw [hp] at e'; cases e')
        rw [hp] at e'
        cases e'
        exact ⟨rfl, cF (pf := pf) (p := p) 0 (by omega) h k1 k6 k7 k0 k8⟩
  | inr v =>
    obtain ⟨c, X⟩ := v
    refine ⟨c, X.1, X.2.1, wShop X.1, U, 0, s, T, 0, l, 0, -1, st, fun I J h => toRi (sr_shop (d := 38) h.2.2.2.2.1 h.2.2.2.2.2.2.1 (fun k' q' e' => by rw [hp] at e'; cases e') (fun c' X' e' I' kB k0 k78 k7 k8 k1 => ?_)), fun hf pf I J h => toCihp ?_⟩
    · rw [hp] at e'
      cases e'
      obtain ⟨a1, a2, a3, a4, a5, a6, a7, a8, a9⟩ := id h
      have g0 : ∀ j, ¬ rD0 j → j ≠ 45 → j ≠ 48 → j ≠ 78 → I' 0 j = I 0 j := fun j q q1 q2 q3 => k1 0 j (by omega) (by omega) (by omega) (fun z => z.2.elim q (fun z => z.elim q1 (fun z => z.elim q2 q3)))
      have g : ∀ i j, 1 ≤ i → ¬ (31 ≤ i ∧ i ≤ 40) → i ≠ 75 → i ≠ 76 → I' i j = I i j := fun i j q1 q2 q3 q4 => k1 i j q2 q3 q4 (by omega)
      have e79 := g0 79 (by unfold rD0; omega) (by omega) (by omega) (by omega)
      have a23 := a2.2.2.1
      exact ⟨rfl, RR_gen h kB ⟨k78, by decide, by rw [e79]; exact a23, fun i hi => by omega⟩ a4 ⟨k0, by decide, fun j hj => by omega⟩ ⟨⟨by rw [g0 116 (by unfold rD0; omega) (by omega) (by omega) (by omega)]; exact a6.1.1, fun q hq => by rw [g 78 q (by omega) (by omega) (by omega) (by omega)]; exact a6.1.2 q hq⟩, a6.2⟩ ⟨k7, k8⟩ (fun j hj => by rw [g 2 j (by omega) (by omega) (by omega) (by omega)]; exact a9 j hj) (fun i j q => by
        rcases q with ⟨q1, q2⟩ | q | q
        · rw [q1, q2]; exact g0 66 (by unfold rD0; omega) (by omega) (by omega) (by omega)
        · exact g i j (by omega) (by omega) (by omega) (by omega)
        · exact g i j (by omega) (by omega) (by omega) (by omega))⟩
    · rcases id h.1 with rfl | rfl
      · refine sc_shop_0 (d := 12) h.2.2.2.2.2.1 (fun p k' q' e' => by rw [hp] at e'; cases e') (fun p c' X' e' I' k1 kB kM k3 k4 k6 k7 k0 => ?_)
        rw [hp] at e'
        cases e'
        exact ⟨rfl, cG' (pf := pf) (p := p) 1 (Or.inr rfl) h k1 kB kM k3 k4 k6 k7 k0⟩
      · refine sc_shop_1 (d := 12) h.2.2.2.2.2.1 (fun p k' q' e' => by rw [hp] at e'; cases e') (fun p c' X' e' I' k1 kB kM k3 k4 k6 k7 k0 => ?_)
        rw [hp] at e'
        cases e'
        exact ⟨rfl, cG' (pf := pf) (p := p) 0 (Or.inl rfl) h k1 kB kM k3 k4 k6 k7 k0⟩
end ZOPE
