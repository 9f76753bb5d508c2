/-! OPERATIONS, BOTH SIDES: ask and shop -/
theorem toClp {d m : Nat} {as : List ax_v} {hf pf : Nat} {I J : zF} {x : Int} {Z : Nat → Nat → zF → zF → Prop} (h : zc_lp d m as hf pf I J (fun p r I' J' => r = x ∧ Z hf p I' J')) : zb_C d m as (zc_S hf pf I J) (cPo (.inr (.inl x)) Z) :=
  zb_imp h (fun v s' hh => by
    obtain ⟨p, y, I', J', e1, e2, e3, e4⟩ := hh
    exact ⟨by rw [e1, e3], hf, p, I', J', e2, e4⟩)
theorem toCihp {d m : Nat} {as : List ax_v} {hf pf : Nat} {I J : zF} {x : Int} {Z : Nat → Nat → zF → zF → Prop} (h : zc_ihp d m as hf pf I J (fun h p r I' J' => r = x ∧ Z h p I' J')) : zb_C d m as (zc_S hf pf I J) (cPo (.inl x) Z) :=
  zb_imp h (fun v s' hh => by
    obtain ⟨h', p, y, I', J', e1, e2, e3, e4⟩ := hh
    exact ⟨by rw [e1, e3], h', p, I', J', e2, e4⟩)
section ZOPD
variable {D : zD} {pg : zG} {W : zD} {U : Nat → zD} {u s : Int} {T : Nat → Int} {n : Int} {l : List Int} {e f : Int} {st : Nat → Int} {I J : zF} {hf pf : Nat}
theorem cB_fr2 (h : cB D pg W hf I) {I' : zF} (g : ∀ i j, i = 13 ∨ (39 + 29 * hf ≤ i ∧ i ≤ 67 + 29 * hf) → I' i j = I i j) : cB D pg W hf I' := ⟨cS_cong h.S (fun i j q => by unfold cLk at q; exact g i j (by omega)) (g _ _ (by omega)) (fun j => g _ _ (by omega)) (g _ _ (by omega)) (fun j => g _ _ (by omega)), h.2.1, by rw [show I' 13 = I 13 from funext (fun j => g 13 j (by omega))]; exact h.2.2⟩
theorem bo_ask : ∃ x D' pg' W' U' u' s' T' n' l' e' f' st', bo 305 155 [] (.inr (.inl x)) (ZZ D pg W U u s T n l e f st) (ZZ D' pg' W' U' u' s' T' n' l' e' f' st') := by
  have cR : ∀ {I J I' J' : zF} {e' f' : Int}, RR D pg W U u s T n l e f st I J → rAk I I' → rB D pg W I' → I' 0 1 = 0 → I' 0 7 = e' → I' 0 8 = f' → J' 0 80 = J 0 80 → RR D pg W U u s T 0 l e' f' st I' J' := fun h k1 k2 k0 k7 k8 kj => by
    obtain ⟨a1, a2, a3, a4, a5, a6, a7, a8, a9⟩ := id h
    have g : ∀ i j, i ≠ 40 → ¬ (44 ≤ i ∧ i ≤ 49) → i ≠ 75 → i ≠ 76 → ¬ (i = 0 ∧ (j = 1 ∨ j = 2 ∨ j = 3 ∨ j = 4 ∨ j = 5 ∨ j = 6 ∨ j = 7 ∨ j = 8 ∨ j = 10 ∨ j = 56 ∨ (59 ≤ j ∧ j ≤ 65) ∨ j = 74 ∨ j = 106 ∨ j = 108 ∨ j = 109 ∨ j = 110 ∨ j = 112 ∨ j = 114)) → _ := k1
    exact RR_gen h k2 (uR_cong a2 (fun j => g 50 j (by omega) (by omega) (by omega) (by omega) (by omega)) (g 0 78 (by omega) (by omega) (by omega) (by omega) (by omega)) (g 0 79 (by omega) (by omega) (by omega) (by omega) (by omega))) ⟨kj.trans a4.1, a4.2⟩ ⟨k0, by decide, fun j hj => by omega⟩ ⟨⟨by rw [g 0 116 (by omega) (by omega) (by omega) (by omega) (by omega)]; exact a6.1.1, fun q hq => by rw [g 78 q (by omega) (by omega) (by omega) (by omega) (by omega)]; exact a6.1.2 q hq⟩, a6.2⟩ ⟨k7, k8⟩ (fun j hj => by rw [g 2 j (by omega) (by omega) (by omega) (by omega) (by omega)]; exact a9 j hj) (fun i j q => g i j (by omega) (by omega) (by omega) (by omega) (by omega))
  have cC : ∀ {hf pf p : Nat} {I J I' J' : zF} {e' f' : Int}, CC D pg W U u s T n l e f st hf pf I J → cAk hf I I' → cM D pg hf I' → b11 I' → I' 1 1 = 0 → I' 3 6 = e' → I' 3 7 = f' → fk J J' → CC D pg W U u s T 0 l e' f' st hf p I' J' := fun {hf pf p I J I' J' e' f'} h k1 kM kb k0 k6 k7 kj => by
    obtain ⟨a1, a2, a3, a4, a5, a6, a7, a8, a9, b1⟩ := h
    have g : ∀ i j, 12 ≤ i → i ≤ 38 → I' i j = I i j := fun i j q1 q2 => k1 i j (by omega) (by omega) (by omega) (by omega) (by omega) (by omega) (by omega) (by omega) (by omega) (by omega) (by omega) (by omega) (by omega) (by omega)
    exact ⟨a1, k1.B a2, kM, uC_cong a4 (g 12 3 (by omega) (by omega)) (g 12 4 (by omega) (by omega)) (fun i j _ _ => g i j (by omega) (by omega)), ⟨by rw [kj 0 9 (by omega)]; exact a5.1, a5.2⟩, ⟨k0, by decide, fun j hj => by omega⟩, ⟨⟨by rw [g 36 1 (by omega) (by omega)]; exact a7.1.1, fun q hq => by rw [g 37 q (by omega) (by omega)]; exact a7.1.2 q hq⟩, a7.2⟩, ⟨k6, k7⟩, fun j hj => by rw [g 38 j (by omega) (by omega)]; exact a9 j hj, kb⟩
  cases hp : pAsk T n with
  | inl v =>
    obtain ⟨k, q⟩ := v
    refine ⟨-1000000000000000, D, pg, W, U, u, s, T, 0, l, k, q, st, fun I J h => toRl (sr_ask (d := 40) h.1 h.2.2.2.2.1 h.2.2.2.2.2.2.1 (fun k' q' e' I' k1 k2 k0 k7 k8 => ?_) (fun k' cs' e' => by rw [hp] at e'; cases e')), fun hf pf I J h => toClp (sc_ask (d := 13) h.1 h.2.1 h.2.2.1 h.2.2.2.2.2.1 h.2.2.2.2.2.2.2.2.2 (fun p k' q' e' I' k1 kM kb k0 k6 k7 => ?_) (fun k' cs' e' => by rw [hp] at e'; cases e'))⟩
    · rw [hp] at e'
      cases e'
      exact ⟨rfl, cR h k1 k2 k0 k7 k8 rfl⟩
    · rw [hp] at e'
      cases e'
      exact ⟨rfl, cC (pf := pf) (p := p) h k1 kM kb k0 k6 k7 (fun _ _ _ => rfl)⟩
  | inr v =>
    obtain ⟨k, cs⟩ := v
    refine ⟨an_ask D pg W k cs, D, pg, W, U, u, s, T, 0, l, 0, -1, st, fun I J h => toRl (sr_ask (d := 40) h.1 h.2.2.2.2.1 h.2.2.2.2.2.2.1 (fun k' q' e' => by rw [hp] at e'; cases e') (fun k' cs' e' I' J' k1 k2 k0 k7 k8 kj => ?_)), fun hf pf I J h => toClp (sc_ask (d := 13) h.1 h.2.1 h.2.2.1 h.2.2.2.2.2.1 h.2.2.2.2.2.2.2.2.2 (fun p k' q' e' => by rw [hp] at e'; cases e') (fun k' cs' e' I' J' k1 kM kb k0 k6 k7 kj => ?_))⟩
    · rw [hp] at e'
      cases e'
      exact ⟨rfl, cR h k1 k2 k0 k7 k8 kj⟩
    · rw [hp] at e'
      cases e'
      exact ⟨rfl, cC (pf := pf) (p := 4) h k1 kM kb k0 k6 k7 kj⟩
theorem rc_D {I' : zF} (g : ∀ j, 1600 ≤ j → I' 39 j = I 39 j) : ∀ (cs : List Int) (a : Int), 0 ≤ a → rc I a cs → rc I' a cs := by
  intro cs
  induction cs with
  | nil => intro a _ _; trivial
  | cons c cs ih =>
    intro a h0 h
    exact ⟨by rw [g _ (by omega)]; exact h.1, ih (a + 1) (by omega) h.2⟩
theorem rP_D {I' : zF} {w : Int} (hw : 0 ≤ w) {df cs : List Int} (h7 : ∀ j, 2 ≤ j → I' 37 j = I 37 j) (h8 : ∀ j, 2 ≤ j → I' 38 j = I 38 j) (h9 : ∀ j, 1600 ≤ j → I' 39 j = I 39 j) (h : rP I w df cs) : rP I' w df cs := by
  unfold rP at h ⊢
  rw [h7 _ (by omega), h8 _ (by omega)]
  rcases h with h | ⟨a, b, c, k, m⟩
  · exact Or.inl h
  · exact Or.inr ⟨a, b, c, rc_D h9 _ _ a k, m⟩
theorem rS_D {I' : zF} (h : rS D pg I) (g : ∀ i j, ¬ rDc i j → 32 ≤ i → i ≤ 39 → I' i j = I i j) (h0 : I' 0 45 = I 0 45) (h1 : I' 0 48 = I 0 48) : rS D pg I' := by
  obtain ⟨a1, a2, a3, a4, a5, a6, a7, a8, a9, b1⟩ := h
  have g' : ∀ i j, 32 ≤ i → i ≤ 39 → (i = 32 → 2 ≤ j) → (i = 33 → 48 ≤ j) → (i = 34 → 56 ≤ j) → i ≠ 35 → (i = 36 → 3 ≤ j) → (i = 37 → 2 ≤ j) → (i = 38 → 2 ≤ j) → (i = 39 → 1600 ≤ j) → I' i j = I i j := fun i j q1 q2 k1 k2 k3 k4 k5 k6 k7 k8 => g i j (by unfold rDc; omega) q1 q2
  refine ⟨a1, fun a q1 q2 => ?_, fun a k q1 q2 q3 q4 => ?_, by rw [h0]; exact a4, fun w q1 q2 => ?_, fun w k q1 q2 q3 q4 => ?_, by rw [h1]; exact a7, ?_, rP_D (by decide) (fun j q => ?_) (fun j q => ?_) (fun j q => ?_) a9, rP_D (by decide) (fun j q => ?_) (fun j q => ?_) (fun j q => ?_) b1⟩
  · rw [g' 32 _ (by omega) (by omega) (by omega) (by omega) (by omega) (by omega) (by omega) (by omega) (by omega) (by omega)]; exact a2 a q1 q2
  · rw [g' 33 _ (by omega) (by omega) (by omega) (by omega) (by omega) (by omega) (by omega) (by omega) (by omega) (by omega), g' 33 _ (by omega) (by omega) (by omega) (by omega) (by omega) (by omega) (by omega) (by omega) (by omega) (by omega)]; exact a3 a k q1 q2 q3 q4
  · rw [g' 34 _ (by omega) (by omega) (by omega) (by omega) (by omega) (by omega) (by omega) (by omega) (by omega) (by omega)]; exact a5 w q1 q2
  · rw [g' 34 _ (by omega) (by omega) (by omega) (by omega) (by omega) (by omega) (by omega) (by omega) (by omega) (by omega)]; exact a6 w k q1 q2 q3 q4
  · rw [g' 36 3 (by omega) (by omega) (by omega) (by omega) (by omega) (by omega) (by omega) (by omega) (by omega) (by omega), g' 36 4 (by omega) (by omega) (by omega) (by omega) (by omega) (by omega) (by omega) (by omega) (by omega) (by omega), g' 36 5 (by omega) (by omega) (by omega) (by omega) (by omega) (by omega) (by omega) (by omega) (by omega) (by omega)]; exact a8
  · exact g' 37 j (by omega) (by omega) (by omega) (by omega) (by omega) (by omega) (by omega) (by omega) (by omega) (by omega)
  · exact g' 38 j (by omega) (by omega) (by omega) (by omega) (by omega) (by omega) (by omega) (by omega) (by omega) (by omega)
  · exact g' 39 j (by omega) (by omega) (by omega) (by omega) (by omega) (by omega) (by omega) (by omega) (by omega) (by omega)
  · exact g' 37 j (by omega) (by omega) (by omega) (by omega) (by omega) (by omega) (by omega) (by omega) (by omega) (by omega)
  · exact g' 38 j (by omega) (by omega) (by omega) (by omega) (by omega) (by omega) (by omega) (by omega) (by omega) (by omega)
  · exact g' 39 j (by omega) (by omega) (by omega) (by omega) (by omega) (by omega) (by omega) (by omega) (by omega) (by omega)
end ZOPD
