/-! THE CLASS: aim, statements -/
theorem zcS_p {h pf p : Nat} {I J : zF} : ((97, 12644, zc_K, I, J, ax_u (zc_Rh h pf) 7 1 (some p)) : ax_S) = zc_S h p I J := by
  unfold zc_S
  have : ax_u (zc_Rh h pf) 7 1 (some p) = zc_Rh h p := by
    funext i j
    unfold ax_u zc_Rh
    by_cases c : i = 7 ∧ j = 1
    · rw [if_pos c, if_neg (by omega), if_neg (by omega), if_pos c]
    · rw [if_neg c]
      by_cases c1 : i = 0 ∧ j = 7
      · rw [if_pos c1, if_pos c1]
      · rw [if_neg c1, if_neg c1]
        by_cases c2 : i = 0 ∧ j = 8
        · rw [if_pos c2, if_pos c2]
        · rw [if_neg c2, if_neg c2, if_neg c, if_neg c]
  rw [this]
section ZCSd
variable {T : Nat → Int} {n : Int} {d hf pf hs : Nat} {I J : zF} {s : zs} {D : zD} {pg : zG} {X : zX}
theorem sc_aim {P : Nat → zF → zF → Prop} {p : Nat} (hp : isP p) {k : Int} (hP : ∀ I', (∀ i j, ¬ (i = p ∧ j = 2) → ¬ (i = 7 ∧ j = 2) → I' i j = I i j) → cP I' p [] → I' 7 2 = k → P p I' J) : zc_vp (d + 2) 14 [.inr (.inr (some 7)), .inr (.inr (some p)), .inl k] hf pf I J P := by
  have hne := hp.ne
  have go : zc_v (d + 1) 49 [.inr (.inr (some p))] hf pf I J (fun I1 J1 => P p (ax_u I1 7 2 k) J1) := sc_clear hp (fun I1 f1 c1 => hP _ (fun i j a b => by rw [zu_ne (by omega)]; exact f1 i j a) (cP_cong (zu_ne (by omega)) (fun j => zu_ne (by omega)) c1) zu_eq)
  rcases hp with q | q | q | q | q <;> subst q <;> exact zb_in (M := ax_m14) rfl (Nat.le_of_ble_eq_true rfl) (zc_cv [1] (g := True ∧ True) (m := 49) (pc := 4) (st := []) (hq := hf) (pq := pf) (I := I) (J := J) rfl ⟨trivial, trivial⟩ go (fun I1 J1 h1 => zb_ret [5, 6, 9, 10, 11, 14] (g := True ∧ True ∧ True ∧ True ∧ True ∧ True ∧ True) (v := none) rfl ⟨trivial, trivial, trivial, trivial, trivial, trivial, trivial⟩ ⟨_, ax_u I1 7 2 k, J1, rfl, zcS_p, h1⟩))
end ZCSd
