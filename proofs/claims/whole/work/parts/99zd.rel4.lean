/-! OPERATIONS, BOTH SIDES: tape, undo, seed, on, image, ask -/
section ZOPC
variable {D : zD} {pg : zG} {W : zD} {U : Nat → zD} {u s : Int} {T : Nat → Int} {n : Int} {l : List Int} {e f : Int} {st : Nat → Int}
theorem bo_feed {a b c g k : Int} : ∃ x D' pg' W' U' u' s' T' n' l' e' f' st', bo 177 127 [.inl a, .inl b, .inl c, .inl g, .inl k] (.inl x) (ZZ D pg W U u s T n l e f st) (ZZ D' pg' W' U' u' s' T' n' l' e' f' st') := by
  by_cases q : n + 20 ≤ 1600
  · refine ⟨n + 20, D, pg, W, U, u, s, pf_fT T n a b c g k, n + 20, l, e, f, st, fun I J h => toRi (sr_feed (d := 49) h.2.2.2.2.1 (fun z => by omega) (fun _ I' k1 k2 => ⟨rfl, ?_⟩)), fun hf pf I J h => toCi (sc_feed (d := 48) h.2.2.2.2.2.1 (fun z => by omega) (fun _ I' k1 k2 => ⟨rfl, ?_⟩))⟩
    · obtain ⟨a1, a2, a3, a4, a5, a6, a7, a8, a9⟩ := id h
      exact RR_gen h (rB_fr a1 (fun i j _ _ => k1 i j (by omega) (by omega)) (k1 0 45 (by omega) (by omega)) (k1 0 48 (by omega) (by omega))) (uR_cong a2 (fun j => k1 50 j (by omega) (by omega)) (k1 0 78 (by omega) (by omega)) (k1 0 79 (by omega) (by omega))) a4 k2 ⟨⟨by rw [k1 0 116 (by omega) (by omega)]; exact a6.1.1, fun q hq => by rw [k1 78 q (by omega) (by omega)]; exact a6.1.2 q hq⟩, a6.2⟩ ⟨by rw [k1 0 7 (by omega) (by omega)]; exact a8.1, by rw [k1 0 8 (by omega) (by omega)]; exact a8.2⟩ (fun j hj => by rw [k1 2 j (by omega) (by omega)]; exact a9 j hj) (fun i j q => k1 i j (by omega) (by omega))
    · obtain ⟨a1, a2, a3, a4, a5, a6, a7, a8, a9, b1⟩ := h
      exact ⟨a1, cB_fr a2 (fun i j q => k1 i j (by omega) (by omega)), cM_cong (fun i j q => k1 i j (by omega) (by omega)) a3, uC_cong a4 (k1 12 3 (by omega) (by omega)) (k1 12 4 (by omega) (by omega)) (fun i j _ _ => k1 i j (by omega) (by omega)), a5, k2, ⟨⟨by rw [k1 36 1 (by omega) (by omega)]; exact a7.1.1, fun q hq => by rw [k1 37 q (by omega) (by omega)]; exact a7.1.2 q hq⟩, a7.2⟩, ⟨by rw [k1 3 6 (by omega) (by omega)]; exact a8.1, by rw [k1 3 7 (by omega) (by omega)]; exact a8.2⟩, fun j hj => by rw [k1 38 j (by omega) (by omega)]; exact a9 j hj, fun j q1 q2 => by rw [k1 11 j (by omega) (by omega)]; exact b1 j q1 q2⟩
  · exact ⟨-1, D, pg, W, U, u, s, T, n, l, e, f, bp 0 st, fun I J h => toRi (sr_feed (d := 49) h.2.2.2.2.1 (fun _ => ⟨rfl, RR_ref h⟩) (fun z => absurd z q)), fun hf pf I J h => toCi (sc_feed (d := 48) h.2.2.2.2.2.1 (fun _ => ⟨rfl, CC_ref (pf := pf) h⟩) (fun z => absurd z q))⟩
theorem bo_end {m : Int} (hm : n32 m) : ∃ x D' pg' W' U' u' s' T' n' l' e' f' st', bo 178 128 [.inl m] (.inl x) (ZZ D pg W U u s T n l e f st) (ZZ D' pg' W' U' u' s' T' n' l' e' f' st') := by
  by_cases q : 0 ≤ m ∧ m ≤ n
  · exact ⟨1, D, pg, W, U, u, s, T, m, l, e, f, st, fun I J h => toRi (sr_end (d := 49) h.2.2.2.2.1 hm (fun z => absurd q z) (fun _ => ⟨rfl, RR_cut h q⟩)), fun hf pf I J h => toCi (sc_end (d := 48) h.2.2.2.2.2.1 hm (fun z => absurd q z) (fun _ => ⟨rfl, CC_cut (pf := pf) h q⟩))⟩
  · exact ⟨0, D, pg, W, U, u, s, T, n, l, e, f, bp 0 st, fun I J h => toRi (sr_end (d := 49) h.2.2.2.2.1 hm (fun _ => ⟨rfl, RR_ref h⟩) (fun z => absurd z q)), fun hf pf I J h => toCi (sc_end (d := 48) h.2.2.2.2.2.1 hm (fun _ => ⟨rfl, CC_ref (pf := pf) h⟩) (fun z => absurd z q))⟩
theorem bo_undo : ∃ x D' pg' W' U' u' s' T' n' l' e' f' st', bo 267 153 [] (.inl x) (ZZ D pg W U u s T n l e f st) (ZZ D' pg' W' U' u' s' T' n' l' e' f' st') := by
  by_cases q : u = 0
  · exact ⟨0, D, pg, W, U, u, s, T, n, l, e, f, bp 4 st, fun I J h => toRi (sr_undo (d := 49) h.2.1 h.1.1 (fun _ => ⟨rfl, RR_ref h⟩) (fun I' z => by omega)), fun hf pf I J h => toCi (sc_undo (d := 48) h.1 h.2.1.1 h.2.2.2.1 (fun _ => ⟨rfl, CC_ref (pf := pf) h⟩) (fun I' z => by omega))⟩
  · exact ⟨1, D, pg, U 0, fun i => U (i + 1), u - 1, s, T, n, l, e, f, st, fun I J h => toRi (sr_undo (d := 49) h.2.1 h.1.1 (fun z => absurd z q) (fun I' _ k1 k2 k3 => ⟨rfl, RR_mk h k2 k3 (fun i j q => k1 i j (by omega) (by omega)) h.2.2.2.1⟩)), fun hf pf I J h => toCi (sc_undo (d := 48) h.1 h.2.1.1 h.2.2.2.1 (fun z => absurd z q) (fun I' _ k1 k2 k3 => ⟨rfl, CC_do (pf := pf) h k1 k2 k3 h.2.2.2.2.1⟩))⟩
theorem bo_seed {a : Int} (ha : n32 a) : ∃ x D' pg' W' U' u' s' T' n' l' e' f' st', bo 270 154 [.inl a] (.inl x) (ZZ D pg W U u s T n l e f st) (ZZ D' pg' W' U' u' s' T' n' l' e' f' st') := by
  by_cases q : a < 0
  · exact ⟨0, D, pg, W, U, u, s, T, n, l, e, f, bp 5 st, fun I J h => toRi (sr_seed (d := 49) ha (fun _ => ⟨rfl, RR_ref h⟩) (fun z => by omega)), fun hf pf I J h => toCi (sc_seed (d := 48) ha (fun _ => ⟨rfl, CC_ref (pf := pf) h⟩) (fun z => by omega))⟩
  · have hs : s31 a := ⟨by omega, ha.2⟩
    exact ⟨1, D, pg, W, U, u, a, T, n, l, e, f, st, fun I J h => toRi (sr_seed (d := 49) ha (fun z => absurd z q) (fun _ => ⟨rfl, RR_mk h h.1 h.2.1 (fun _ _ _ => rfl) ⟨zu_eq, hs⟩⟩)), fun hf pf I J h => toCi (sc_seed (d := 48) ha (fun z => absurd z q) (fun _ => ⟨rfl, CC_mk (pf := pf) (pf' := pf) h h.1 h.2.1 h.2.2.1 h.2.2.2.1 (fun _ _ _ => rfl) ⟨zu_eq, hs⟩⟩))⟩
theorem bo_on : ∃ x D' pg' W' U' u' s' T' n' l' e' f' st', bo 314 158 [] (.inl x) (ZZ D pg W U u s T n l e f st) (ZZ D' pg' W' U' u' s' T' n' l' e' f' st') := by
  by_cases q : pf_isI D T n = 1
  · refine ⟨1, D, pg, pf_on D T W, U, 0, s, T, 0, l, e, f, st, fun I J h => toRi (sr_on (d := 44) h.1 h.2.1 h.2.2.2.2.1 (fun z => absurd (z.symm.trans q) (by decide)) (fun _ I' k1 k0 k2 k3 => ⟨rfl, ?_⟩)), fun hf pf I J h => toCi (sc_on (d := 43) h.1 h.2.1 h.2.2.2.1 h.2.2.2.2.2.1 (fun z => absurd (z.symm.trans q) (by decide)) (fun _ I' k1 k0 k2 k3 => ⟨rfl, ?_⟩))⟩
    · obtain ⟨a1, a2, a3, a4, a5, a6, a7, a8, a9⟩ := id h
      exact RR_gen h k2 k3 a4 ⟨k0, by decide, fun j hj => by omega⟩ ⟨⟨by rw [k1 0 116 (by omega) (by omega)]; exact a6.1.1, fun q hq => by rw [k1 78 q (by omega) (by omega)]; exact a6.1.2 q hq⟩, a6.2⟩ ⟨by rw [k1 0 7 (by omega) (by omega)]; exact a8.1, by rw [k1 0 8 (by omega) (by omega)]; exact a8.2⟩ (fun j hj => by rw [k1 2 j (by omega) (by omega)]; exact a9 j hj) (fun i j q => k1 i j (by omega) (by omega))
    · obtain ⟨a1, a2, a3, a4, a5, a6, a7, a8, a9, b1⟩ := h
      exact ⟨a1, k2, cM_cong (fun i j q => k1 i j (by omega) (by omega) (by omega)) a3, k3, a5, ⟨k0, by decide, fun j hj => by omega⟩, ⟨⟨by rw [k1 36 1 (by omega) (by omega) (by omega)]; exact a7.1.1, fun q hq => by rw [k1 37 q (by omega) (by omega) (by omega)]; exact a7.1.2 q hq⟩, a7.2⟩, ⟨by rw [k1 3 6 (by omega) (by omega) (by omega)]; exact a8.1, by rw [k1 3 7 (by omega) (by omega) (by omega)]; exact a8.2⟩, fun j hj => by rw [k1 38 j (by omega) (by omega) (by omega)]; exact a9 j hj, fun j q1 q2 => by rw [k1 11 j (by omega) (by omega) (by omega)]; exact b1 j q1 q2⟩
  · exact ⟨0, D, pg, W, U, u, s, T, 0, l, e, f, bp 5 st, fun I J h => toRi (sr_on (d := 44) h.1 h.2.1 h.2.2.2.2.1 (fun _ => ⟨rfl, RR_ref (RR_cut h ⟨by decide, h.2.2.2.2.1.2.1.1⟩)⟩) (fun z => absurd z q)), fun hf pf I J h => toCi (sc_on (d := 43) h.1 h.2.1 h.2.2.2.1 h.2.2.2.2.2.1 (fun _ => ⟨rfl, CC_ref (pf := pf) (CC_cut (pf := pf) h ⟨by decide, h.2.2.2.2.2.1.2.1.1⟩)⟩) (fun z => absurd z q))⟩
theorem im_59 (hD : 0 ≤ D 6 0 0 ∧ D 6 0 0 ≤ 4) : (pf_im D W).length ≤ 59 := by
  have := pf_im0_len (D := D) (W := W)
  unfold pf_im
  rw [List.length_append, this]
  show _ + 1 ≤ 59
  omega
theorem bo_image : bo 309 156 [] (.inl ((pf_im D W).length : Int)) (ZZ D pg W U u s T n l e f st) (ZZ D pg W U u s T n (pf_im D W) e f st) := by
  refine ⟨fun I J h => toRi (sr_image (d := 47) h.1 (fun I' k1 k2 k3 => ⟨rfl, ?_⟩)), fun hf pf I J h => toCi (sc_image (d := 44) h.1 h.2.1 (fun I' k1 k2 => ⟨rfl, ?_⟩))⟩
  · obtain ⟨a1, a2, a3, a4, a5, a6, a7, a8, a9⟩ := id h
    exact RR_gen h (rB_fr a1 (fun i j _ _ => k1 i j (by omega) (by omega)) (k1 0 45 (by omega) (by omega)) (k1 0 48 (by omega) (by omega))) (uR_cong a2 (fun j => k1 50 j (by omega) (by omega)) (k1 0 78 (by omega) (by omega)) (k1 0 79 (by omega) (by omega))) a4 ⟨by rw [k1 0 1 (by omega) (by omega)]; exact a5.1, a5.2.1, fun j hj => by rw [k1 1 j (by omega) (by omega)]; exact a5.2.2 j hj⟩ ⟨k2, im_59 (a1.S.ok.a6 0 0)⟩ ⟨by rw [k1 0 7 (by omega) (by omega)]; exact a8.1, by rw [k1 0 8 (by omega) (by omega)]; exact a8.2⟩ (fun j hj => by rw [k1 2 j (by omega) (by omega)]; exact a9 j hj) (fun i j q => k1 i j (by omega) (by omega))
  · obtain ⟨a1, a2, a3, a4, a5, a6, a7, a8, a9, b1⟩ := h
    exact ⟨a1, cB_fr a2 (fun i j q => k1 i j (by omega) (by omega)), cM_cong (fun i j q => k1 i j (by omega) (by omega)) a3, uC_cong a4 (k1 12 3 (by omega) (by omega)) (k1 12 4 (by omega) (by omega)) (fun i j _ _ => k1 i j (by omega) (by omega)), a5, ⟨by rw [k1 1 1 (by omega) (by omega)]; exact a6.1, a6.2.1, fun j hj => by rw [k1 2 j (by omega) (by omega)]; exact a6.2.2 j hj⟩, ⟨k2, im_59 (a2.S.ok.a6 0 0)⟩, ⟨by rw [k1 3 6 (by omega) (by omega)]; exact a8.1, by rw [k1 3 7 (by omega) (by omega)]; exact a8.2⟩, fun j hj => by rw [k1 38 j (by omega) (by omega)]; exact a9 j hj, fun j q1 q2 => by rw [k1 11 j (by omega) (by omega)]; exact b1 j q1 q2⟩
end ZOPC
