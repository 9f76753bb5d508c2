/-! THE REFERENCE: is there a square -/
section ZRI
variable {d : Nat} {I J : zF} {cs : List Int} {dep base kd : Int} {P : Int → zF → zF → Prop}
theorem hB_mem : ∀ (st : List Int), hB st = true ↔ 25 ∈ st := by
  intro st
  induction st with
  | nil => exact ⟨fun h => absurd h (by decide), fun h => absurd h (by simp)⟩
  | cons x r ih =>
    by_cases c : x = 25
    · rw [show hB (x :: r) = true from if_pos c]
      exact ⟨fun _ => by rw [c]; simp, fun _ => rfl⟩
    · rw [show hB (x :: r) = hB r from if_neg c, ih]
      refine ⟨fun h => List.mem_cons_of_mem _ h, fun h => ?_⟩
      rcases List.mem_cons.mp h with e | e
      · exact absurd e.symm c
      · exact e
theorem ck_mem {s : Nat} {v : Int} : ∀ (st : List Int), ck I s st → (v ∈ st ↔ ∃ j, j < st.length ∧ I s j = v) := by
  intro st
  induction st with
  | nil => intro _; exact ⟨fun h => absurd h (by simp), fun ⟨j, h, _⟩ => absurd h (by simp)⟩
  | cons x r ih =>
    intro hc
    have ih' := ih hc.2
    constructor
    · intro h
      rcases List.mem_cons.mp h with e | e
      · exact ⟨r.length, by simp, by rw [e]; exact hc.1⟩
      · obtain ⟨j, j1, j2⟩ := ih'.mp e
        exact ⟨j, by rw [List.length_cons]; omega, j2⟩
    · rintro ⟨j, j1, j2⟩
      rw [List.length_cons] at j1
      by_cases c : j = r.length
      · rw [c, show I s r.length = x from hc.1] at j2
        rw [j2]; simp
      · exact List.mem_cons_of_mem _ (ih'.mpr ⟨j, by omega, j2⟩)
theorem sr_qHasSquare_2 {st : List Int} (hQ : rQ cs st dep base kd I) (hl : st.length ≤ 1700) (hP : P (if hB st = true then 1 else 0) I J) : ∀ (m j : Nat), j + m = st.length → (∀ i, i < j → I 76 i ≠ 25) → zb_W d ax_m292 (2, [some (.inr (.inr (some 0))), some (.inl ((j : Int)))], [], zr_S I J) (zr_Qi P) := by
  obtain ⟨a, b, e, f, g, k, l, m0⟩ := id hQ
  have mm := ck_mem (v := 25) st f
  intro m
  induction m with
  | zero =>
    intro j hj hno
    refine zq_qHasSquare_2 I J _ ?_
    rw [e, zb_w (x := (j : Int)) (by omega) (by omega), zb_w (x := (st.length : Int)) (by omega) (by omega)]
    refine ⟨fun q => by omega, fun _ => zr_Qi.of ?_⟩
    rw [if_neg (fun h => ?_)] at hP
    · exact hP
    · obtain ⟨i, i1, i2⟩ := mm.mp ((hB_mem st).mp h)
      exact hno i (by omega) i2
  | succ m ih =>
    intro j hj hno
    have hv : 0 ≤ I 76 j ∧ I 76 j ≤ 100 := m0 _ ((ck_mem (v := I 76 j) st f).mpr ⟨j, by omega, rfl⟩)
    refine zq_qHasSquare_2 I J _ ?_
    rw [e, zb_w (x := (j : Int)) (by omega) (by omega), zb_w (x := (st.length : Int)) (by omega) (by omega), show (j : Int).toNat = j by omega, zb_w (x := I 76 j) (by omega) (by omega)]
    refine ⟨fun _ => ⟨by omega, fun q => zr_Qi.of ?_, fun q => ?_⟩, fun q => absurd (show (j : Int) < st.length by omega) q⟩
    · rwa [if_pos ((hB_mem st).mpr (mm.mpr ⟨j, by omega, q⟩))] at hP
    · have := ih (j + 1) (by omega) (fun i hi => by
        by_cases c : i = j
        · rw [c]; exact q
        · exact hno i (by omega))
      rw [show ((j + 1 : Nat) : Int) = (j : Int) + 1 by omega] at this
      exact this
theorem sr_qHasSquare {st : List Int} (hQ : rQ cs st dep base kd I) (hl : st.length ≤ 1700) (hP : P (if hB st = true then 1 else 0) I J) : zr_i (d + 1) 292 [.inr (.inr (some 0))] I J P := zr_ini (M := ax_m292) rfl (Nat.le_of_ble_eq_true rfl) (zq_qHasSquare_0 I J (sr_qHasSquare_2 hQ hl hP st.length 0 (by omega) (fun i hi => by omega)))
end ZRI
