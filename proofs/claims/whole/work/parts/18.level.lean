/-! LEVEL 2: how runs of the abstract machine are shown. zb_W d M z Q: from z the method comes to an answer with Q; zb_C d m as s Q: a call does -/
/-- the instructions at pc, and at those places behind it, one after the other -/
def zb_b (M : ax_M) : Nat → List Nat → ax_L → List ax_v → ax_S → Option (Prop × ax_r)
  | pc, [], ls, st, s => ax_p M (pc, ls, st, s)
  | pc, q :: qs, ls, st, s => match ax_p M (pc, ls, st, s) with
    | some (g, .inl (pc', ls', st', s')) => cond (Nat.beq pc' q) (match zb_b M q qs ls' st' s' with
      | some (g', r) => some (g ∧ g', r)
      | none => none) none
    | _ => none
def zb_W (d : Nat) (M : ax_M) (z : ax_Z) (Q : Option ax_v → ax_S → Prop) : Prop := ∃ v s', (∃ n, ax_ok (ax_C d) M n z v s') ∧ Q v s'
def zb_C (d m : Nat) (as : List ax_v) (s : ax_S) (Q : Option ax_v → ax_S → Prop) : Prop := ∃ v s', ax_C d m as s v s' ∧ Q v s'
theorem zb_1 {d : Nat} {M : ax_M} {z z' : ax_Z} {g : Prop} {Q : Option ax_v → ax_S → Prop} (h : ax_p M z = some (g, .inl z')) (hg : g) (k : zb_W d M z' Q) : zb_W d M z Q := by
  obtain ⟨v, s', ⟨n, hn⟩, hQ⟩ := k
  refine ⟨v, s', ⟨n + 1, ?_⟩, hQ⟩
  unfold ax_ok
  rw [h]
  exact ⟨hg, hn⟩
theorem zb_go {d : Nat} {M : ax_M} {Q : Option ax_v → ax_S → Prop} : ∀ (qs : List Nat) {pc : Nat} {ls : ax_L} {st : List ax_v} {s : ax_S} {z' : ax_Z} {g : Prop}, zb_b M pc qs ls st s = some (g, .inl z') → g → zb_W d M z' Q → zb_W d M (pc, ls, st, s) Q := by
  intro qs
  induction qs with
  | nil => intro pc ls st s z' g h hg hk; exact zb_1 h hg hk
  | cons q qs ih =>
    intro pc ls st s z' g h hg hk
    unfold zb_b at h
    split at h
    · rename_i g1 pc1 ls1 st1 s1 h1
      obtain ⟨e, h'⟩ := ax_cnd h
      clear h
      have e2 := Nat.beq_eq.mp e
      clear e
      subst e2
      split at h'
      · rename_i g2 r h2
        cases h'
        exact zb_1 h1 hg.1 (ih h2 hg.2 hk)
      · cases h'
    · cases h
theorem zb_ret {d : Nat} {M : ax_M} {Q : Option ax_v → ax_S → Prop} : ∀ (qs : List Nat) {pc : Nat} {ls : ax_L} {st : List ax_v} {s : ax_S} {g : Prop} {v : Option ax_v} {s' : ax_S}, zb_b M pc qs ls st s = some (g, .inr (.inl (v, s'))) → g → Q v s' → zb_W d M (pc, ls, st, s) Q := by
  intro qs
  induction qs with
  | nil =>
    intro pc ls st s g v s' h hg hk
    refine ⟨v, s', ⟨1, ?_⟩, hk⟩
    unfold ax_ok
    have h : ax_p M (pc, ls, st, s) = some (g, .inr (.inl (v, s'))) := h
    rw [h]
    exact ⟨hg, rfl, rfl⟩
  | cons q qs ih =>
    intro pc ls st s g v s' h hg hk
    unfold zb_b at h
    split at h
    · rename_i g1 pc1 ls1 st1 s1 h1
      obtain ⟨e, h'⟩ := ax_cnd h
      clear h
      have e2 := Nat.beq_eq.mp e
      clear e
      subst e2
      split at h'
      · rename_i g2 r h2
        cases h'
        exact zb_1 h1 hg.1 (ih h2 hg.2 hk)
      · cases h'
    · cases h
theorem zb_call {d : Nat} {M : ax_M} {Q : Option ax_v → ax_S → Prop} : ∀ (qs : List Nat) {pc : Nat} {ls : ax_L} {st : List ax_v} {s : ax_S} {g : Prop} {m : Nat} {as : List ax_v} {pc' : Nat} {ls' : ax_L} {st' : List ax_v} {s' : ax_S}, zb_b M pc qs ls st s = some (g, .inr (.inr (m, as, pc', ls', st', s'))) → g → zb_C d m as s' (fun v s2 => zb_W d M (pc', ls', v.toList ++ st', s2) Q) → zb_W d M (pc, ls, st, s) Q := by
  intro qs
  induction qs with
  | nil =>
    intro pc ls st s g m as pc' ls' st' s' h hg hk
    obtain ⟨v1, s1, hC, v, s2, ⟨n, hn⟩, hQ⟩ := hk
    refine ⟨v, s2, ⟨n + 1, ?_⟩, hQ⟩
    unfold ax_ok
    have h : ax_p M (pc, ls, st, s) = some (g, .inr (.inr (m, as, pc', ls', st', s'))) := h
    rw [h]
    exact ⟨hg, v1, s1, hC, hn⟩
  | cons q qs ih =>
    intro pc ls st s g m as pc' ls' st' s' h hg hk
    unfold zb_b at h
    split at h
    · rename_i g1 pc1 ls1 st1 s1 h1
      obtain ⟨e, h'⟩ := ax_cnd h
      clear h
      have e2 := Nat.beq_eq.mp e
      clear e
      subst e2
      split at h'
      · rename_i g2 r h2
        cases h'
        exact zb_1 h1 hg.1 (ih h2 hg.2 hk)
      · cases h'
    · cases h
theorem zb_in {d m : Nat} {M : ax_M} {as : List ax_v} {s : ax_S} {Q : Option ax_v → ax_S → Prop} (hM : ax_T[m]? = some M) (hl : (ax_ent as).length ≤ M.2.2.1) (k : zb_W d M (0, ax_pad (ax_ent as) M.2.2.1, [], s) Q) : zb_C (d + 1) m as s Q := by
  obtain ⟨v, s', hn, hQ⟩ := k
  exact ⟨v, s', ⟨M, hM, hl, hn⟩, hQ⟩
theorem zb_imp {d m : Nat} {as : List ax_v} {s : ax_S} {Q Q' : Option ax_v → ax_S → Prop} (h : zb_C d m as s Q) (k : ∀ v s', Q v s' → Q' v s') : zb_C d m as s Q' := by
  obtain ⟨v, s', hC, hQ⟩ := h
  exact ⟨v, s', hC, k v s' hQ⟩
theorem zb_if {d : Nat} {M : ax_M} {c : Prop} {dc : Decidable c} {p q : Nat} {r : ax_L × List ax_v × ax_S} {Q : Option ax_v → ax_S → Prop} (h1 : c → zb_W d M (p, r) Q) (h2 : ¬ c → zb_W d M (q, r) Q) : zb_W d M (@ite Nat c dc p q, r) Q := by
  by_cases h : c
  · rw [if_pos h]; exact h1 h
  · rw [if_neg h]; exact h2 h
/-- a number that is an index -/
theorem zb_ix {n k : Nat} (h : n < k) (hk : k ≤ 1000000) : 0 ≤ ax_w (n : Int) ∧ ax_w (n : Int) < (k : Int) := by
  unfold ax_w
  rw [Int.bmod_eq_of_le (by omega) (by omega)]
  omega
theorem zb_w {x : Int} (h1 : -2147483648 ≤ x) (h2 : x < 2147483648) : ax_w x = x := by
  unfold ax_w
  exact Int.bmod_eq_of_le (by omega) (by omega)
/-! the reference: its cells after its constructor -/
def zr_k : List (Nat × Nat) := [(12, 0), (20, 1600), (20, 6), (21, 6), (21, 4), (21, 2), (21, 4), (21, 5), (21, 5), (21, 4), (21, 5), (21, 4), (21, 4), (21, 4), (21, 3), (21, 6), (21, 3), (21, 5), (21, 4), (21, 4), (21, 6), (21, 4), (21, 4), (21, 2), (21, 2), (21, 3), (21, 3), (21, 3), (21, 3), (21, 3), (21, 7), (20, 6), (20, 4), (20, 96), (20, 112), (20, 8), (20, 6), (20, 4), (20, 4), (20, 3200), (20, 154), (20, 33), (20, 24), (20, 6), (20, 49), (20, 49), (20, 49), (20, 64), (20, 12), (20, 12), (20, 3080), (21, 5), (21, 4), (21, 5), (21, 5), (21, 4), (21, 5), (21, 3), (21, 3), (21, 2), (21, 3), (21, 3), (21, 3), (21, 4), (21, 4), (21, 3), (21, 6), (21, 3), (21, 5), (21, 4), (21, 4), (21, 6), (21, 4), (21, 4), (21, 2), (20, 1700), (20, 1700), (23, 1700), (20, 59)]
def zr_K : Nat → Nat × Nat := fun i => zr_k.getD i (99, 0)
def zr_r : List (List (Option Nat)) := [[some 1, none, none, none, none, none, none, none, none, some 2, none, some 3, some 4, some 5, some 6, some 7, some 8, some 9, some 10, some 11, some 12, some 13, some 14, some 15, some 16, some 17, some 18, some 19, some 20, some 21, some 22, some 23, some 24, some 25, some 26, some 27, some 28, some 29, some 30, none, none, some 31, some 32, some 33, none, none, some 34, none, none, some 35, some 36, some 37, some 38, some 39, none, none, none, some 40, some 41, none, none, none, none, none, none, none, none, none, some 42, some 43, some 44, some 45, some 46, some 47, none, some 48, some 49, some 50, none, none, none, some 51, some 52, some 53, some 54, some 55, some 56, some 57, some 58, some 59, some 60, some 61, some 62, some 63, some 64, some 65, some 66, some 67, some 68, some 69, some 70, some 71, some 72, some 73, some 74, some 75, none, some 76, none, none, none, some 77, none, none, none, some 78, none]]
def zr_R : Nat → Nat → Option Nat := fun i j => (zr_r.getD i []).getD j none
def zr_S (I J : Nat → Nat → Int) : ax_S := (79, 14060, zr_K, I, J, zr_R)
/-! the class: its cells; h: which Shop is in force; p: the program that FormulaReader writes -/
def zc_k : List (Nat × Nat) := [(11, 0), (8, 0), (22, 1600), (9, 0), (4, 0), (20, 1600), (20, 64), (1, 0), (7, 0), (20, 6), (5, 0), (20, 24), (10, 0), (20, 74), (20, 74), (24, 20), (20, 74), (20, 74), (20, 74), (20, 74), (20, 74), (20, 74), (20, 74), (20, 74), (20, 74), (20, 74), (20, 74), (20, 74), (20, 74), (20, 74), (20, 74), (20, 74), (20, 74), (20, 74), (20, 74), (20, 74), (2, 0), (20, 59), (20, 6), (6, 0), (0, 0), (20, 2), (20, 24), (20, 24), (20, 24), (4, 0), (20, 1600), (20, 64), (3, 0), (20, 6), (20, 6), (20, 6), (20, 6), (20, 49), (20, 49), (20, 49), (20, 12), (20, 12), (4, 0), (20, 1600), (20, 64), (20, 24), (20, 8), (20, 48), (20, 4), (20, 4), (20, 6), (20, 64), (6, 0), (0, 0), (20, 2), (20, 24), (20, 24), (20, 24), (4, 0), (20, 1600), (20, 64), (3, 0), (20, 6), (20, 6), (20, 6), (20, 6), (20, 49), (20, 49), (20, 49), (20, 12), (20, 12), (4, 0), (20, 1600), (20, 64), (20, 24), (20, 8), (20, 48), (20, 4), (20, 4), (20, 6), (20, 64)]
def zc_K : Nat → Nat × Nat := fun i => zc_k.getD i (99, 0)
def zc_r : List (List (Option Nat)) := [[some 1, some 3, some 8, some 10, some 12, some 36, some 38, some 39, some 68, none], [some 2, none], [], [some 1, none, none, none, none, none, none, none], [some 5, some 6, none], [], [], [some 3, some 4, none], [some 3, some 7, some 9, none, none], [], [some 3, some 7, some 4, some 11, none, none, none, none], [], [some 13, some 14, some 15, none, none], [], [], [some 16, some 17, some 18, some 19, some 20, some 21, some 22, some 23, some 24, some 25, some 26, some 27, some 28, some 29, some 30, some 31, some 32, some 33, some 34, some 35], [], [], [], [], [], [], [], [], [], [], [], [], [], [], [], [], [], [], [], [], [some 37, none, none], [], [], [some 40, some 48, some 58, some 61, some 62, some 63, some 64, some 65, some 66, some 67, none, none, none, none, none], [some 41, some 42, some 43, some 44, some 45, none], [], [], [], [], [some 46, some 47, none], [], [], [some 49, some 50, some 51, some 52, some 53, some 54, some 55, some 56, some 57, none, none, none, none], [], [], [], [], [], [], [], [], [], [some 59, some 60, none], [], [], [], [], [], [], [], [], [], [some 69, some 77, some 87, some 90, some 91, some 92, some 93, some 94, some 95, some 96, none, none, none, none, none], [some 70, some 71, some 72, some 73, some 74, none], [], [], [], [], [some 75, some 76, none], [], [], [some 78, some 79, some 80, some 81, some 82, some 83, some 84, some 85, some 86, none, none, none, none], [], [], [], [], [], [], [], [], [], [some 88, some 89, none]]
def zc_R : Nat → Nat → Option Nat := fun i j => (zc_r.getD i []).getD j none
def zc_Rh (h p : Nat) : Nat → Nat → Option Nat := fun i j => if i = 0 ∧ j = 7 then some (39 + 29 * h) else if i = 0 ∧ j = 8 then some (68 - 29 * h) else if i = 7 ∧ j = 1 then some p else zc_R i j
def zc_S (h p : Nat) (I J : Nat → Nat → Int) : ax_S := (97, 12644, zc_K, I, J, zc_Rh h p)
