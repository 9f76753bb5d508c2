/-! THE CLASS: a program is told -/
theorem cc_app {I : zF} {s : Nat} : ∀ (cs : List Int) (k : Int) (c : Int), cc I s k cs → I s (k + (cs.length : Int)).toNat = cm c → cc I s k (cs ++ [c]) := by
  intro cs
  induction cs with
  | nil => intro k c _ h; exact ⟨by rw [show k + (([] : List Int).length : Int) = k by simp] at h; exact h, trivial⟩
  | cons x r ih =>
    intro k c hc h
    refine ⟨hc.1, ih (k + 1) c hc.2 ?_⟩
    rw [List.length_cons, show k + ((r.length + 1 : Nat) : Int) = k + 1 + (r.length : Int) by omega] at h
    exact h
theorem cc_low {I I' : zF} {s : Nat} : ∀ (cs : List Int) (k : Int), 0 ≤ k → (∀ j : Nat, (j : Int) < k + cs.length → I' s j = I s j) → cc I s k cs → cc I' s k cs := by
  intro cs
  induction cs with
  | nil => intro k _ _ _; trivial
  | cons x r ih =>
    intro k h0 h hc
    rw [List.length_cons] at h
    refine ⟨by rw [h k.toNat (by omega)]; exact hc.1, ih (k + 1) (by omega) (fun j hj => h j (by omega)) hc.2⟩
section ZCH
variable {d hf pf : Nat} {I J : zF} {P0 : zF → zF → Prop}
theorem sc_clear {p : Nat} (hp : isP p) (hP : ∀ I', (∀ i j, ¬ (i = p ∧ j = 2) → I' i j = I i j) → cP I' p [] → P0 I' J) : zc_v (d + 1) 49 [.inr (.inr (some p))] hf pf I J P0 := zc_inv (M := ax_m49) rfl (Nat.le_of_ble_eq_true rfl) (zk_Program_clear_0 hf pf I J p hp (zc_Qv.of (hP _ (fun i j q => zu_ne (by omega)) ⟨zu_eq, by simp, trivial⟩)))
theorem sc_addP {p : Nat} (hp : isP p) {cs : List Int} (hc : cP I p cs) (hl : cs.length < 1600) {st o c : Int} (hv : ax_or (ax_shl o 4) st = cm c) (hP : ∀ I', (∀ i j, i ≠ p + 1 → ¬ (i = p ∧ j = 2) → I' i j = I i j) → cP I' p (cs ++ [c]) → P0 I' J) : zc_v (d + 1) 50 [.inr (.inr (some p)), .inl st, .inl o] hf pf I J P0 := by
  obtain ⟨a, b, e⟩ := hc
  refine zc_inv (M := ax_m50) rfl (Nat.le_of_ble_eq_true rfl) (zk_Program_add_0 hf pf I J st o p hp ?_)
  rw [hv]
  have e1 : (ax_u I (p + 1) (ax_w (I p 2)).toNat (cm c)) p 2 = (cs.length : Int) := by rw [zu_ne (by omega)]; exact a
  rw [e1, a, zb_w (x := (cs.length : Int)) (by omega) (by omega)]
  refine ⟨fun _ => ⟨by omega, zc_Qv.of (hP _ (fun i j q1 q2 => by rw [zu_ne (by omega), zu_ne (by omega)]) ⟨?_, ?_, ?_⟩)⟩, fun q => absurd (show (cs.length : Int) < 1600 by omega) q⟩
  · rw [zu_eq]; simp only [List.length_append, List.length_cons, List.length_nil]; omega
  · simp only [List.length_append, List.length_cons, List.length_nil]; omega
  · refine cc_app cs 0 c (cc_low cs 0 (by decide) (fun j hj => by rw [zu_ne (by omega), zu_ne (by omega)]) e) ?_
    rw [Int.zero_add, zu_ne (by omega), zu_eq]
end ZCH
