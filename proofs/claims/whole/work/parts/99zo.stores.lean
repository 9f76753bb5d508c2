/-! THE TWO STORES AS THE CONSTRUCTORS LEAVE THEM -/
set_option maxRecDepth 1000000 in
theorem yr_z : ∀ c, c = 32 ∨ c = 33 ∨ c = 34 ∨ c = 36 ∨ c = 38 ∨ c = 40 ∨ c = 2 → ∀ j, ax_I yr_s49 c j = 0 := by
  intro c hc j
  rcases hc with rfl | rfl | rfl | rfl | rfl | rfl | rfl <;> rfl
set_option maxRecDepth 1000000 in
theorem yr_f : ax_I yr_s49 0 45 = 0 ∧ ax_I yr_s49 0 48 = 0 ∧ ax_I yr_s49 0 78 = 0 ∧ ax_I yr_s49 0 79 = 0 ∧ ax_I yr_s49 0 66 = 0 ∧ ax_I yr_s49 0 1 = 0 ∧ ax_I yr_s49 0 116 = 0 ∧ ax_I yr_s49 0 7 = 0 ∧ ax_I yr_s49 0 8 = -1 := by decide +kernel
set_option maxRecDepth 1000000 in
theorem yr_7 : ax_I yr_s49 37 2 = -1 ∧ ax_I yr_s49 37 3 = -1 := by decide +kernel
set_option maxRecDepth 1000000 in
theorem yr_j : ax_J yr_s49 0 80 = 1 := by decide +kernel
set_option maxRecDepth 1000000 in
theorem yr_w0 : rwt.all (fun x => (List.range (ax_sl x.2)).all (fun j => decide (ax_I yr_s49 x.1 j = ax_sc x.2 j))) = true := by decide +kernel
theorem yr_w : rW (ax_I yr_s49) := by
  intro w ks h j hj
  have h1 := List.all_eq_true.mp yr_w0 _ h
  exact of_decide_eq_true (List.all_eq_true.mp h1 j (List.mem_range.mpr hj))
set_option maxRecDepth 1000000 in
theorem yr_k : ∀ i, i < 79 → ax_K yr_s49 i = zr_K i := by decide +kernel
set_option maxRecDepth 1000000 in
theorem yr_r : ∀ i, i < 79 → ∀ k, k < ax_fn (zr_K i).1 → ax_R yr_s49 i k = zr_R i k := by decide +kernel
theorem yr_24 : ∀ i, i < 79 → (zr_K i).1 ≠ 24 := by decide +kernel
theorem yr_l : yr_s49.2.1 = 14060 := by decide +kernel
theorem yr_wd {cy : Nat → ClassId} {ad : Nat → Nat} : ax_wd cy yr_s49 ad = ax_wd cy (zr_S (ax_I yr_s49) (ax_J yr_s49)) ad := ax_wd_cg (s := zr_S (ax_I yr_s49) (ax_J yr_s49)) rfl (fun i hi => yr_k i hi) (fun _ _ => rfl) (fun _ _ => rfl) (fun i hi h => absurd h (yr_24 i hi)) (fun i hi k hk => yr_r i hi k hk)
theorem yr_rr0 : zr_r.all (fun x => x.all (fun o => match o with | some k => decide (k < 79) | none => true)) = true := by decide +kernel
theorem yr_wf {I J : zF} : ax_wf (zr_S I J) := by
  intro i j k _ h
  have h : (zr_r.getD i []).getD j none = some k := h
  rw [List.getD_eq_getElem?_getD, List.getD_eq_getElem?_getD] at h
  cases h1 : zr_r[i]? with
  | none => rw [h1] at h; simp at h
  | some x =>
    rw [h1] at h
    cases h2 : x[j]? with
    | none => simp [h2] at h
    | some y =>
      simp [h2] at h
      subst h
      have q := List.all_eq_true.mp (List.all_eq_true.mp yr_rr0 x (List.mem_of_getElem? h1)) _ (List.mem_of_getElem? h2)
      exact of_decide_eq_true q
set_option maxRecDepth 1000000 in
theorem yc_z41 (j : Nat) : ax_I yc_s113 41 j = 0 := by
  have e : ax_I yc_s113 41 j = ax_u (ax_u yc_I28 41 (ax_w 0).toNat 0) 41 (ax_w 1).toNat 0 41 j := rfl
  have e2 : yc_I28 41 j = 0 := rfl
  rw [e]
  unfold ax_u
  split
  · rfl
  · split
    · rfl
    · exact e2
set_option maxRecDepth 1000000 in
theorem yc_z : ∀ c, c = 41 ∨ c = 42 ∨ c = 43 ∨ c = 62 ∨ c = 63 ∨ c = 13 ∨ c = 38 ∨ c = 11 → ∀ j, ax_I yc_s113 c j = 0 := by
  intro c hc j
  rcases hc with rfl | rfl | rfl | rfl | rfl | rfl | rfl | rfl
  · exact yc_z41 j
  all_goals rfl
set_option maxRecDepth 1000000 in
theorem yc_f : ax_I yc_s113 39 10 = 0 ∧ ax_I yc_s113 39 11 = 0 ∧ ax_I yc_s113 40 5 = 2 ∧ ax_I yc_s113 39 13 = 9 ∧ ax_I yc_s113 39 14 = 0 ∧ ax_I yc_s113 12 3 = 0 ∧ ax_I yc_s113 12 4 = 0 ∧ ax_I yc_s113 1 1 = 0 ∧ ax_I yc_s113 36 1 = 0 ∧ ax_I yc_s113 3 6 = 0 ∧ ax_I yc_s113 3 7 = -1 ∧ ax_I yc_s113 48 10 = -1 ∧ ax_I yc_s113 45 2 = 5 ∧ ax_I yc_s113 58 2 = 0 := by decide +kernel
set_option maxRecDepth 1000000 in
theorem yc_p : cc (ax_I yc_s113) 46 0 pf_dd := by
  unfold pf_dd
  refine ⟨?_, ?_, ?_, ?_, ?_, trivial⟩ <;> decide +kernel
set_option maxRecDepth 1000000 in
theorem yc_j : ax_J yc_s113 0 9 = 1 := by decide +kernel
set_option maxRecDepth 1000000 in
theorem yc_k : ∀ i, i < 97 → ax_K yc_s113 i = zc_K i := by decide +kernel
set_option maxRecDepth 1000000 in
theorem yc_r : ∀ i, i < 97 → ∀ k, k < ax_fn (zc_K i).1 → ax_R yc_s113 i k = zc_Rh 0 4 i k := by decide +kernel
theorem yc_24 : ∀ i, i < 97 → (zc_K i).1 = 24 → i = 15 := by decide +kernel
set_option maxRecDepth 1000000 in
theorem yc_15 : ∀ j, j < 20 → ax_R yc_s113 15 j = zc_Rh 0 4 15 j := by decide +kernel
set_option maxRecDepth 1000000 in
theorem yc_15n (j : Nat) : ax_R yc_s113 15 j = if j < (ax_w 20).toNat then some (15 + 1 + j) else none := rfl
theorem yc_15f : ax_R yc_s113 15 = zc_Rh 0 4 15 := by
  funext j
  by_cases h : j < 20
  · exact yc_15 j h
  · rw [yc_15n, if_neg (by rw [show (ax_w 20).toNat = 20 from rfl]; exact h)]
    unfold zc_Rh zc_R
    rw [if_neg (by omega), if_neg (by omega), if_neg (by omega)]
    have hl : ((zc_r.getD 15 []).length : Nat) = 20 := by decide +kernel
    rw [List.getD_eq_getElem?_getD, List.getElem?_eq_none (by omega)]
    rfl
theorem yc_l : yc_s113.2.1 = 12644 := by decide +kernel
theorem yc_wd {cy : Nat → ClassId} {ad : Nat → Nat} : ax_wd cy yc_s113 ad = ax_wd cy (zc_S 0 4 (ax_I yc_s113) (ax_J yc_s113)) ad := by
  refine ax_wd_cg (s := zc_S 0 4 (ax_I yc_s113) (ax_J yc_s113)) rfl (fun i hi => yc_k i hi) (fun _ _ => rfl) (fun _ _ => rfl) (fun i hi h => ?_) (fun i hi k hk => yc_r i hi k hk)
  have e := yc_24 i hi h
  subst e
  exact yc_15f
theorem y0_RR : RR y0_D y0_p y0_W (fun _ => y0_W) 0 1 (fun _ => 0) 0 [] 0 (-1) (fun _ => 0) (ax_I yr_s49) (ax_J yr_s49) := y0_rr yr_z yr_f yr_7 yr_j yr_w
theorem y0_CC : CC y0_D y0_p y0_W (fun _ => y0_W) 0 1 (fun _ => 0) 0 [] 0 (-1) (fun _ => 0) 0 4 (ax_I yc_s113) (ax_J yc_s113) := y0_cc yc_z yc_f yc_p yc_j
theorem y0_wf0 {c n : Nat} : ax_wf (1, n, fun _ => (c, 0), fun _ _ => 0, fun _ _ => 0, fun _ _ => none) := fun i j k _ h => by cases h
theorem yc_rr0 : zc_r.all (fun x => x.all (fun o => match o with | some k => decide (k < 97) | none => true)) = true := by decide +kernel
theorem yc_wf {I J : zF} : ax_wf (zc_S 0 4 I J) := by
  intro i j k _ h
  have h : zc_Rh 0 4 i j = some k := h
  show k < 97
  unfold zc_Rh at h
  split at h
  · cases h; decide
  split at h
  · cases h; decide
  split at h
  · cases h; decide
  have h : (zc_r.getD i []).getD j none = some k := h
  rw [List.getD_eq_getElem?_getD, List.getD_eq_getElem?_getD] at h
  cases h1 : zc_r[i]? with
  | none => rw [h1] at h; simp at h
  | some x =>
    rw [h1] at h
    cases h2 : x[j]? with
    | none => simp [h2] at h
    | some y =>
      simp [h2] at h
      subst h
      have q := List.all_eq_true.mp (List.all_eq_true.mp yc_rr0 x (List.mem_of_getElem? h1)) _ (List.mem_of_getElem? h2)
      exact of_decide_eq_true q
