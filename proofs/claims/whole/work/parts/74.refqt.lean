/-! THE REFERENCE: squares and nots on the stack -/
section ZRH
variable {d : Nat} {I J : zF} {cs : List Int} {dep base kd : Int} {P : Int → zF → zF → Prop} {P0 : zF → zF → Prop}
def f12 (x : Int) : Bool := decide (x = 12)
theorem sr_qDropsNots_l {I0 : zF} {Q : Option ax_v → ax_S → Prop} : ∀ (st cs : List Int) (dep : Int) (I : zF), rQ cs st dep base kd I → I 0 5 = 0 → cs.length + st.length ≤ 1700 → (∀ i j, i ≠ 75 → ¬ (i = 0 ∧ (j = 106 ∨ j = 108 ∨ j = 109)) → I i j = I0 i j) → (∀ I', (∀ i j, i ≠ 75 → ¬ (i = 0 ∧ (j = 106 ∨ j = 108 ∨ j = 109)) → I' i j = I0 i j) → rQ (cs ++ pU f12 st) (pD f12 st) (dep - (pU f12 st).length) base kd I' → Q none (zr_S I' J)) → zb_W (d + 2) ax_m293 (0, [some (.inr (.inr (some 0)))], [], zr_S I J) Q := by
  intro st
  induction st with
  | nil =>
    intro cs dep I hQ he hl hF hP
    refine zq_qDropsNots_0 I J ⟨fun _ => sr_qIsOn hQ (by simp) ⟨by decide, by decide⟩ (b0 (hP I hF ?_)), fun q => absurd (by rw [he]) q⟩
    have e0 : pU f12 [] = [] := rfl
    rw [e0, List.append_nil, show dep - (([] : List Int).length : Int) = dep by simp]
    exact hQ
  | cons x r ih =>
    intro cs dep I hQ he hl hF hP
    obtain ⟨a, b, e, f, g, k, l, m⟩ := id hQ
    have hx := m x (by simp)
    have hl2 : cs.length + (r.length + 1) ≤ 1700 := hl
    refine zq_qDropsNots_0 I J ⟨fun _ => sr_qIsOn hQ (by rw [List.length_cons]; omega) ⟨by decide, by decide⟩ (bc (fun c => ?_) (fun c => hP I hF ?_)), fun q => absurd (by rw [he]) q⟩
    · have c' : f12 x = true := decide_eq_true c
      have hQ1 : rQ cs (x :: r) (dep - 1) base kd (ax_u I 0 109 (I 0 109 - 1)) := ⟨by rw [zu_ne (by omega)]; exact a, fun i hi => by rw [zu_ne (by omega)]; exact b i hi, by rw [zu_ne (by omega)]; exact e, ck_cong (fun j => zu_ne (by omega)) _ f, by rw [zu_eq, g], by rw [zu_ne (by omega)]; exact k, by rw [zu_ne (by omega)]; exact l, m⟩
      refine sr_qDrops hQ1 hl (fun I1 h1 h2 => ih (cs ++ [x]) (dep - 1) I1 h2 ?_ ?_ (fun i j q1 q2 => ?_) (fun I' h3 h4 => hP I' h3 ?_))
      · rw [h1 0 5 (by omega) (by omega), zu_ne (by omega)]; exact he
      · simp only [List.length_append, List.length_cons, List.length_nil]
        omega
      · rw [h1 i j q1 (by omega), zu_ne (by omega)]; exact hF i j q1 q2
      · rw [show pU f12 (x :: r) = x :: pU f12 r from if_pos c', show pD f12 (x :: r) = pD f12 r from if_pos c']
        rw [List.append_assoc] at h4
        rw [List.length_cons, show dep - (((pU f12 r).length + 1 : Nat) : Int) = dep - 1 - ((pU f12 r).length : Int) by omega]
        exact h4
    · have c' : ¬ f12 x = true := fun z => c (of_decide_eq_true z)
      rw [show pU f12 (x :: r) = [] from if_neg c', show pD f12 (x :: r) = x :: r from if_neg c', List.append_nil, show dep - (([] : List Int).length : Int) = dep by simp]
      exact hQ
theorem sr_qDropsNots {st : List Int} (hQ : rQ cs st dep base kd I) (he : I 0 5 = 0) (hl : cs.length + st.length ≤ 1700) (hP : ∀ I', (∀ i j, i ≠ 75 → ¬ (i = 0 ∧ (j = 106 ∨ j = 108 ∨ j = 109)) → I' i j = I i j) → rQ (cs ++ pU f12 st) (pD f12 st) (dep - (pU f12 st).length) base kd I' → P0 I' J) : zr_v (d + 3) 293 [.inr (.inr (some 0))] I J P0 := zr_inv (M := ax_m293) rfl (Nat.le_of_ble_eq_true rfl) (sr_qDropsNots_l st cs dep I hQ he hl (fun _ _ _ _ => rfl) (fun I' a b => zr_Qv.of (hP I' a b)))
theorem sr_qDropsNots_b {k q : Int} (hB : rBad k q I) (hP : P0 I J) : zr_v (d + 1) 293 [.inr (.inr (some 0))] I J P0 := zr_inv (M := ax_m293) rfl (Nat.le_of_ble_eq_true rfl) (zq_qDropsNots_0 I J ⟨fun e => absurd e hB.ne1, fun _ => zr_Qv.of hP⟩)
end ZRH
