/-! THE TWO STORES BEHIND THE CONSTRUCTORS -/
theorem ax_wd_cg {cy : Nat → ClassId} {s s' : ax_S} {ad : Nat → Nat} (hn : s'.1 = s.1) (hK : ∀ i, i < s.1 → ax_K s' i = ax_K s i) (hI : ∀ i, i < s.1 → ax_I s' i = ax_I s i) (hJ : ∀ i, i < s.1 → ax_J s' i = ax_J s i) (hR : ∀ i, i < s.1 → (ax_K s i).1 = 24 → ax_R s' i = ax_R s i) (hR2 : ∀ i, i < s.1 → ∀ k, k < ax_fn (ax_K s i).1 → ax_R s' i k = ax_R s i k) : ax_wd cy s' ad = ax_wd cy s ad := by
  unfold ax_wd
  rw [hn]
  refine List.map_congr_left (fun i hi => ?_)
  have hi := List.mem_range.mp hi
  have e : ax_e cy s' ad i = ax_e cy s ad i := by
    have h1 := hR i hi
    have h2 := hR2 i hi
    unfold ax_e
    rw [hK i hi, hI i hi, hJ i hi]
    generalize hk : (ax_K s i).1 = kd at h1 h2
    by_cases h24 : kd = 24
    · subst h24
      rw [h1 rfl]
      rfl
    · split
      · rfl
      · rfl
      · rfl
      · rfl
      · exact absurd rfl h24
      · refine congrArg (fun z => Sum.inr (_, z)) (List.map_congr_left (fun k hk2 => ?_))
        have hk3 := h2 k (List.mem_range.mp hk2)
        unfold ax_f
        rw [hI i hi, hJ i hi]
        split
        · rfl
        · rw [hk3]
        · rfl
  rw [e]
def y0_D : zD := fun i a _ => if i = 8 then (if a = 0 then 2 else if a = 1 then 9 else 0) else 0
def y0_p : zG := fun i => if i = 0 then pf_dd else []
def y0_W : zD := fun _ _ _ => 0
theorem y0_ok : zD_ok y0_D y0_p := by
  have z : ∀ i a b, i ≠ 8 → y0_D i a b = 0 := fun i a b h => if_neg h
  have z8 : ∀ a b, 0 ≤ y0_D 8 a b ∧ y0_D 8 a b ≤ 100 := by
    intro a b
    show 0 ≤ (if a = 0 then (2 : Int) else if a = 1 then 9 else 0) ∧ (if a = 0 then (2 : Int) else if a = 1 then 9 else 0) ≤ 100
    split
    · decide
    · split <;> decide
  have n3 : ∀ w : Int, 0 ≤ w → ¬ w < y0_D 3 0 0 := fun w h => by rw [z 3 0 0 (by decide)]; omega
  refine ⟨⟨fun a b => ?_, fun a b => ?_, fun a b => ?_, fun a b => ?_, fun a b => ?_, fun a b => ?_, fun a b => ?_, z8⟩, ⟨fun h k _ _ h3 h4 => ?_, fun w h1 h2 => absurd h2 (n3 w h1), fun w k h1 h2 => absurd h2 (n3 w h1), fun w k h1 h2 => absurd h2 (n3 w h1), fun w h1 h2 => absurd h2 (n3 w h1)⟩, by decide +kernel, Or.inl rfl, by decide, by decide⟩
  · rw [z _ _ _ (by decide)]; decide
  · rw [z _ _ _ (by decide)]; decide
  · rw [z _ _ _ (by decide)]; exact ⟨by decide, by decide⟩
  · rw [z _ _ _ (by decide)]; decide
  · rw [z _ _ _ (by decide)]; decide
  · rw [z _ _ _ (by decide)]; decide
  · rw [z _ _ _ (by decide)]; decide
  · rw [z 0 h 0 (by decide)] at h4; omega
theorem y0_w : wOk y0_D y0_W := by
  have z : ∀ i a b, y0_W i a b = 0 := fun i a b => rfl
  refine ⟨by rw [z]; decide, fun b h1 h2 => ?_, fun b k => by rw [z]; exact ⟨by decide, by decide⟩, by rw [z]; decide, fun k => by rw [z, z, z]; decide, fun b h1 h2 => ⟨z _ _ _, z _ _ _, fun k => z _ _ _⟩⟩
  have : y0_D 6 0 0 = 0 := rfl
  omega
theorem y0_rr {I : zF} {J : zF} (z : ∀ c, c = 32 ∨ c = 33 ∨ c = 34 ∨ c = 36 ∨ c = 38 ∨ c = 40 ∨ c = 2 → ∀ j, I c j = 0) (f : I 0 45 = 0 ∧ I 0 48 = 0 ∧ I 0 78 = 0 ∧ I 0 79 = 0 ∧ I 0 66 = 0 ∧ I 0 1 = 0 ∧ I 0 116 = 0 ∧ I 0 7 = 0 ∧ I 0 8 = -1) (h7 : I 37 2 = -1 ∧ I 37 3 = -1) (hJ : J 0 80 = 1) (hW : rW I) : RR y0_D y0_p y0_W (fun _ => y0_W) 0 1 (fun _ => 0) 0 [] 0 (-1) (fun _ => 0) I J := by
  obtain ⟨f1, f2, f3, f4, f5, f6, f7, f8, f9⟩ := f
  have n0 : ∀ h k : Int, 0 ≤ k → ¬ k < y0_D 0 h 0 := fun h k q => by rw [show y0_D 0 h 0 = 0 from rfl]; omega
  have n3 : ∀ w : Int, 0 ≤ w → ¬ w < y0_D 3 0 0 := fun w h => by rw [show y0_D 3 0 0 = 0 from rfl]; omega
  refine ⟨⟨⟨y0_ok, fun h _ _ => z 32 (by simp) _, fun h k _ _ h3 h4 => absurd h4 (n0 h k h3), f1, fun w h1 h2 => absurd h2 (n3 w h1), fun w k h1 h2 => absurd h2 (n3 w h1), f2, ⟨z 36 (by simp) 5, Or.inl ⟨rfl, rfl⟩⟩, Or.inl ⟨h7.1, rfl⟩, Or.inl ⟨h7.2, rfl⟩⟩, y0_w, ⟨z 40 (by simp) 0, fun b _ _ => ⟨z 40 (by simp) _, z 40 (by simp) _⟩, fun b k _ _ _ _ => z 40 (by simp) _, z 40 (by simp) 33, fun k c' h1 h2 _ _ => ?_⟩⟩, ⟨f3, by decide, by rw [f4]; decide, fun i hi => by omega⟩, f5, ⟨hJ, by decide, by decide⟩, ⟨f6, by decide, fun j hj => by omega⟩, ⟨⟨f7, fun q hq => absurd hq (Nat.not_lt_zero q)⟩, by decide⟩, hW, ⟨f8, f9⟩, fun j _ => z 2 (by simp) j⟩
  have : y0_W 4 0 0 = 0 := rfl
  omega
theorem y0_cc {I : zF} {J : zF} {pf : Nat} (z : ∀ c, c = 41 ∨ c = 42 ∨ c = 43 ∨ c = 62 ∨ c = 63 ∨ c = 13 ∨ c = 38 ∨ c = 11 → ∀ j, I c j = 0) (f : I 39 10 = 0 ∧ I 39 11 = 0 ∧ I 40 5 = 2 ∧ I 39 13 = 9 ∧ I 39 14 = 0 ∧ I 12 3 = 0 ∧ I 12 4 = 0 ∧ I 1 1 = 0 ∧ I 36 1 = 0 ∧ I 3 6 = 0 ∧ I 3 7 = -1 ∧ I 48 10 = -1 ∧ I 45 2 = 5 ∧ I 58 2 = 0) (hp : cc I 46 0 pf_dd) (hJ : J 0 9 = 1) : CC y0_D y0_p y0_W (fun _ => y0_W) 0 1 (fun _ => 0) 0 [] 0 (-1) (fun _ => 0) 0 pf I J := by
  obtain ⟨f1, f2, f3, f4, f5, f6, f7, f8, f9, g1, g2, g3, g4, g5⟩ := f
  have n0 : ∀ h k : Int, 0 ≤ k → ¬ k < y0_D 0 h 0 := fun h k q => by rw [show y0_D 0 h 0 = 0 from rfl]; omega
  have n3 : ∀ w : Int, 0 ≤ w → ¬ w < y0_D 3 0 0 := fun w h => by rw [show y0_D 3 0 0 = 0 from rfl]; omega
  refine ⟨Or.inl rfl, ⟨⟨y0_ok, ⟨fun h _ _ => z 41 (by simp) _, fun h k _ _ h3 h4 => absurd h4 (n0 h k h3), f1, fun w h1 h2 => absurd h2 (n3 w h1), fun w k h1 h2 => absurd h2 (n3 w h1), f2, f3, f4, f5⟩, ⟨g4, by decide, hp⟩, ⟨g5, by decide, trivial⟩⟩, y0_w, ⟨z 13 (by simp) 0, fun b _ _ => ⟨z 13 (by simp) _, z 13 (by simp) _⟩, fun b k _ _ _ _ => z 13 (by simp) _, z 13 (by simp) 1, fun k h1 h2 => ?_⟩⟩, ⟨Or.inl g3, fun o t h1 h2 => absurd h2 (n3 o h1)⟩, ⟨f6, by decide, by rw [f7]; decide, fun i hi => by omega⟩, ⟨hJ, by decide, by decide⟩, ⟨f8, by decide, fun j hj => by omega⟩, ⟨⟨f9, fun q hq => absurd hq (Nat.not_lt_zero q)⟩, by decide⟩, ⟨g1, g2⟩, fun j _ => z 38 (by simp) j, fun j _ _ => by rw [z 11 (by simp) j]; exact ⟨by decide, by decide⟩⟩
  have : y0_W 4 0 0 = 0 := rfl
  omega
