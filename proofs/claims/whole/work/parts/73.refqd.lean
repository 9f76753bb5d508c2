/-! THE REFERENCE: dropping to a bracket; a part's end -/
section ZRG
variable {d : Nat} {I J : zF} {cs B : List Int} {dep kd : Int} {P : Int → zF → zF → Prop} {P0 : zF → zF → Prop}
theorem sr_qDropsToBracket_l {I0 : zF} {Q : Option ax_v → ax_S → Prop} : ∀ (st cs : List Int) (I : zF), rQ cs (st ++ B) dep (B.length : Int) kd I → cs.length + (st ++ B).length ≤ 1700 → (∀ i j, i ≠ 75 → ¬ (i = 0 ∧ (j = 106 ∨ j = 108)) → I i j = I0 i j) → (∀ I', (∀ i j, i ≠ 75 → ¬ (i = 0 ∧ (j = 106 ∨ j = 108)) → I' i j = I0 i j) → rQ (cs ++ bU st) (bR st ++ B) dep (B.length : Int) kd I' → Q none (zr_S I' J)) → zb_W (d + 2) ax_m283 (0, [some (.inr (.inr (some 0)))], [], zr_S I J) Q := by
  intro st
  induction st with
  | nil =>
    intro cs I hQ hl hF hP
    obtain ⟨a, b, e, f, g, k, l, m⟩ := id hQ
    simp only [List.nil_append] at e hl
    refine zq_qDropsToBracket_0 I J ?_
    rw [e, k]
    refine ⟨fun q => absurd q (Int.lt_irrefl _), fun _ => hP I hF ?_⟩
    have e0 : bU [] = [] := rfl
    rw [e0, List.append_nil]
    exact hQ
  | cons x r ih =>
    intro cs I hQ hl hF hP
    obtain ⟨a, b, e, f, g, k, l, m⟩ := id hQ
    have hx := m x (by simp)
    have hlen : ((x :: r) ++ B).length = (r ++ B).length + 1 := rfl
    have hrb : (r ++ B).length = r.length + B.length := List.length_append
    have fx : I 76 (r ++ B).length = x := f.1
    refine zq_qDropsToBracket_0 I J ?_
    rw [show I 0 108 - 1 = ((r ++ B).length : Int) by omega, zb_w (x := ((r ++ B).length : Int)) (by omega) (by omega), show ((r ++ B).length : Int).toNat = (r ++ B).length by omega, fx, k, zb_w (x := I 0 108) (by omega) (by omega), zb_w (x := (B.length : Int)) (by omega) (by omega)]
    refine ⟨fun _ => ⟨by omega, sr_qIsBracket ⟨by omega, by omega⟩ (bc (fun c => hP I hF ?_) (fun c => ?_))⟩, fun q => absurd (show (B.length : Int) < I 0 108 by omega) q⟩
    · rw [show bU (x :: r) = [] from if_pos c, show bR (x :: r) = x :: r from if_pos c, List.append_nil]
      exact hQ
    · refine sr_qDrops (x := x) (r := r ++ B) hQ (by rw [List.length_cons]; omega) (fun I1 h1 h2 => ih (cs ++ [x]) I1 h2 ?_ (fun i j q1 q2 => ?_) (fun I' h3 h4 => hP I' h3 ?_))
      · simp only [List.length_append, List.length_cons, List.length_nil] at *
        omega
      · rw [h1 i j q1 q2]; exact hF i j q1 q2
      · rw [show bU (x :: r) = x :: bU r from if_neg c, show bR (x :: r) = bR r from if_neg c]
        rw [List.append_assoc] at h4
        exact h4
theorem sr_qDropsToBracket {st : List Int} (hQ : rQ cs (st ++ B) dep (B.length : Int) kd I) (hl : cs.length + (st ++ B).length ≤ 1700) (hP : ∀ I', (∀ i j, i ≠ 75 → ¬ (i = 0 ∧ (j = 106 ∨ j = 108)) → I' i j = I i j) → rQ (cs ++ bU st) (bR st ++ B) dep (B.length : Int) kd I' → P0 I' J) : zr_v (d + 3) 283 [.inr (.inr (some 0))] I J P0 := zr_inv (M := ax_m283) rfl (Nat.le_of_ble_eq_true rfl) (sr_qDropsToBracket_l st cs I hQ hl (fun _ _ _ _ => rfl) (fun I' a b => zr_Qv.of (hP I' a b)))
theorem sr_qEndsPart {st : List Int} (hQ : rQ cs (st ++ B) dep (B.length : Int) kd I) (he : I 0 5 = 0) (hl : cs.length + (st ++ B).length ≤ 1700) (hP : ∀ I', (∀ i j, i ≠ 75 → ¬ (i = 0 ∧ (j = 106 ∨ j = 108 ∨ j = 109)) → I' i j = I i j) → rQ (cs ++ pU f60 st) (pD f60 st ++ B) (dep - (pU f60 st).length) (B.length : Int) kd I' → P0 I' J) : zr_v (d + 3) 287 [.inr (.inr (some 0))] I J P0 := zr_inv (M := ax_m287) rfl (Nat.le_of_ble_eq_true rfl) (sr_qEndsPart_l st cs dep I hQ he hl (fun _ _ _ _ => rfl) (fun I' a b => zr_Qv.of (hP I' a b)))
theorem sr_qEndsPart_b {k q : Int} (hB : rBad k q I) (hP : P0 I J) : zr_v (d + 1) 287 [.inr (.inr (some 0))] I J P0 := zr_inv (M := ax_m287) rfl (Nat.le_of_ble_eq_true rfl) (zq_qEndsPart_0 I J ⟨fun e => absurd e hB.ne1, fun _ => zr_Qv.of hP⟩)
theorem sr_qOpens_b {x p k q : Int} (hB : rBad k q I) (hP : P0 I J) : zr_v (d + 1) 278 [.inr (.inr (some 0)), .inl x, .inl p] I J P0 := zr_inv (M := ax_m278) rfl (Nat.le_of_ble_eq_true rfl) (zq_qOpens_0 I J x p ⟨fun e => absurd e hB.ne1, fun _ => zr_Qv.of hP⟩)
end ZRG
