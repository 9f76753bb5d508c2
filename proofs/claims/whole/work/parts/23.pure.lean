/-! PURE WORDS: what a shop is, how a code is reckoned, read, seen, washed. D: the shop's numbers; pg: its codes (0 doubt, 1 rain), as the reference has them -/
abbrev zF : Type := Nat → Nat → Int
abbrev zD : Type := Nat → Int → Int → Int
abbrev zG : Type := Nat → List Int
theorem zu_eq {f : zF} {i j : Nat} {v : Int} : ax_u f i j v i j = v := if_pos ⟨rfl, rfl⟩
theorem zu_ne {f : zF} {i j a b : Nat} {v : Int} (h : ¬ (a = i ∧ b = j)) : ax_u f i j v a b = f a b := if_neg h
/-- the first k from k0 on, n of them, with f k = x; -1 without -/
def pf_find (f : Int → Int) (x : Int) : Nat → Int → Int
  | 0, _ => -1
  | n + 1, k => if f k = x then k else pf_find f x n (k + 1)
theorem pf_find_in (f : Int → Int) (x : Int) : ∀ (n : Nat) (k : Int), pf_find f x n k = -1 ∨ (k ≤ pf_find f x n k ∧ pf_find f x n k < k + n ∧ f (pf_find f x n k) = x) := by
  intro n
  induction n with
  | zero => intro k; exact Or.inl rfl
  | succ n ih =>
    intro k
    unfold pf_find
    split
    · rename_i h; exact Or.inr ⟨by omega, by omega, h⟩
    · rcases ih (k + 1) with h | ⟨h1, h2, h3⟩
      · exact Or.inl h
      · exact Or.inr ⟨by omega, by omega, h3⟩
/-- letter x of hand h: which it is -/
def pf_at (D : zD) (h x : Int) : Int := pf_find (D 1 h) x (D 0 h 0).toNat 0
def pf_can (D : zD) (w h : Int) : Nat → Int → Int
  | 0, _ => 1
  | n + 1, k => if pf_at D h (D 5 w k) = -1 then 0 else pf_can D w h n (k + 1)
def pf_canPaint (D : zD) (w h : Int) : Int := pf_can D w h (D 4 w 0).toNat 0
/-- the glyph that a word has at a place; 0 behind it -/
def pf_pg (D : zD) (w h k : Int) : Int := if pf_at D h (D 5 w k) = -1 then 0 else D 2 h (pf_at D h (D 5 w k))
def pf_inkL (D : zD) (w : Int) : Nat → Int → Int → Int
  | 0, _, a => a
  | n + 1, k, a => pf_inkL D w n (k + 1) (a + pf_bits (pf_pg D w 0 k))
def pf_ink (D : zD) (w : Int) : Int := pf_inkL D w (D 4 w 0).toNat 0 0
/-- where a stroke is seen -/
def pf_to (how i : Int) : Int := 3 * (if how = 1 ∨ how = 2 then 4 - i / 3 else i / 3) + (if how = 1 ∨ how = 3 then 2 - i % 3 else i % 3)
def pf_seenL (g how : Int) : Nat → Int → Int → Int
  | 0, _, t => t
  | n + 1, i, t => pf_seenL g how n (i + 1) (if ax_and (ax_shr g i) 1 = 0 then t else ax_or t (ax_shl 1 (pf_to how i)))
def pf_seen (g how : Int) : Int := pf_seenL g how 15 0 0
theorem pf_to_in {how i : Int} (h : 0 ≤ i ∧ i < 15) : 0 ≤ pf_to how i ∧ pf_to how i < 15 := by
  unfold pf_to
  split <;> split <;> omega
theorem pf_seenL_15 (g how : Int) : ∀ (n : Nat) (i t : Int), 0 ≤ i → i + n ≤ 15 → g15 t → g15 (pf_seenL g how n i t) := by
  intro n
  induction n with
  | zero => intro i t _ _ h; exact h
  | succ n ih =>
    intro i t h0 h1 h
    unfold pf_seenL
    refine ih _ _ (by omega) (by omega) ?_
    split
    · exact h
    · exact g15_or h (g15_shl (pf_to_in ⟨h0, by omega⟩))
theorem pf_seen_15 (g how : Int) : g15 (pf_seen g how) := pf_seenL_15 g how 15 0 0 (by decide) (by decide) ⟨by decide, by decide⟩
/-! codes -/
def pf_clip (v : Int) : Int := if 1000000 < v then 1000000 else if v < -1000000 then -1000000 else v
def pf_two (c a b : Int) : Int :=
  if c = 1 then pf_clip (a + b) else if c = 2 then pf_clip (a - b) else if c = 3 then pf_clip (a * b) else if c = 4 then Int.fdiv a b
  else if c = 5 then (if a < b then a else b) else if c = 6 then (if b < a then a else b) else if c = 7 then (if a < b then 1 else 0)
  else if c = 8 then (if b < a then 1 else 0) else if c = 9 then (if a = b then 1 else 0) else if c = 10 then a * b else (if 0 < a + b then 1 else 0)
/-- v: the parts; q: what line and at tell -/
def pf_step (v : Int → Int) (q : Int → Int → Int) (c : Int) (st : List Int) : List Int :=
  if 1000 ≤ c then (c - 1000) :: st
  else if 60 ≤ c then (match st with | a :: r => q (c - 60) a :: r | [] => [])
  else if 40 ≤ c then v (c - 40) :: st
  else if c = 13 then 1 :: st
  else if c = 12 then (match st with | a :: r => (1 - a) :: r | [] => [])
  else (match st with | b :: a :: r => pf_two c a b :: r | r => r)
def pf_run (v : Int → Int) (q : Int → Int → Int) : List Int → List Int → List Int
  | [], st => st
  | c :: cs, st => pf_run v q cs (pf_step v q c st)
def pf_res (v : Int → Int) (q : Int → Int → Int) (cs : List Int) : Int := (pf_run v q cs []).headD 0
/-- which parts a kind of text has: 0 doubt, 1 rain, 2 question -/
def pf_al (kd : Nat) (c : Int) : Bool := match kd with
  | 0 => decide (40 ≤ c ∧ c ≤ 42)
  | 1 => decide (43 ≤ c ∧ c ≤ 47)
  | _ => decide (c = 42 ∨ (47 ≤ c ∧ c ≤ 49) ∨ c = 60 ∨ c = 61)
/-- types: a fact is true, a number false -/
def pf_t1 (kd : Nat) (c : Int) (ts : List Bool) : Option (List Bool) :=
  if 1000 ≤ c then (if c ≤ 10999 then some (false :: ts) else none)
  else if 40 ≤ c then (if pf_al kd c = true then (if 60 ≤ c then (match ts with | false :: r => some (false :: r) | _ => none) else some (false :: ts)) else none)
  else if c = 13 then some (true :: ts)
  else if c = 12 then (match ts with | true :: r => some (true :: r) | _ => none)
  else if 1 ≤ c ∧ c ≤ 6 then (match ts with | false :: false :: r => some (false :: r) | _ => none)
  else if 7 ≤ c ∧ c ≤ 9 then (match ts with | false :: false :: r => some (true :: r) | _ => none)
  else if 10 ≤ c ∧ c ≤ 11 then (match ts with | true :: true :: r => some (true :: r) | _ => none)
  else none
def pf_tr (kd : Nat) : List Int → List Bool → Option (List Bool)
  | [], ts => some ts
  | c :: cs, ts => match pf_t1 kd c ts with
    | some ts' => if ts'.length ≤ 40 then pf_tr kd cs ts' else none
    | none => none
def b6 (x : Int) : Prop := -1000000 ≤ x ∧ x ≤ 1000000
def pf_ts : List Bool → List Int → Prop
  | [], [] => True
  | b :: bs, x :: xs => b6 x ∧ (b = true → x = 0 ∨ x = 1) ∧ pf_ts bs xs
  | _, _ => False
theorem pf_ts_len : ∀ {ts : List Bool} {st : List Int}, pf_ts ts st → ts.length = st.length := by
  intro ts
  induction ts with
  | nil => intro st h; cases st with
    | nil => rfl
    | cons x xs => exact absurd h (by simp [pf_ts])
  | cons b bs ih => intro st h; cases st with
    | nil => exact absurd h (by simp [pf_ts])
    | cons x xs => simp only [List.length_cons]; rw [ih h.2.2]
theorem pf_clip_b (v : Int) : b6 (pf_clip v) := by
  unfold pf_clip b6
  split
  · omega
  · split <;> omega
theorem fdiv_b {a b : Int} (h : b6 a) : b6 (Int.fdiv a b) := by
  unfold b6 at *
  by_cases hb : b = 0
  · subst hb; simp
  · rw [Int.fdiv_eq_ediv]
    have h1 : (a / b).natAbs ≤ a.natAbs + 0 ∨ True := Or.inr trivial
    have e := Int.mul_ediv_add_emod a b
    have e1 := Int.emod_nonneg a hb
    have e2 := Int.emod_lt a hb
    rcases Int.lt_or_gt_of_ne hb with hb' | hb'
    · have hq : ¬ (1000000 < a / b) := by
        intro hq
        have : b * (a / b) ≤ b * 1000001 := Int.mul_le_mul_of_nonpos_left (by omega) (by omega)
        omega
      have hq2 : ¬ (a / b < -1000000 + 1) ∨ (a / b = -1000000 ∧ a % b = 0) := by
        by_cases hh : a / b < -1000000 + 1
        · right
          have : b * (-1000000) ≤ b * (a / b) := Int.mul_le_mul_of_nonpos_left (by omega) (by omega)
          have : a / b = -1000000 ∨ a / b < -1000000 := by omega
          rcases this with h3 | h3
          · rw [h3] at e; omega
          · have : b * (-1000001) ≤ b * (a / b) := Int.mul_le_mul_of_nonpos_left (by omega) (by omega)
            omega
        · exact Or.inl hh
      split
      · omega
      · rename_i hc
        rcases hq2 with h3 | ⟨h3, h4⟩
        · omega
        · exact absurd (Or.inr (Int.dvd_of_emod_eq_zero h4)) hc
    · have hq : ¬ (1000000 < a / b) := by
        intro hq
        have : b * 1000001 ≤ b * (a / b) := Int.mul_le_mul_of_nonneg_left (by omega) (by omega)
        omega
      have hq2 : ¬ (a / b < -1000000) := by
        intro hq
        have : b * (a / b) ≤ b * (-1000001) := Int.mul_le_mul_of_nonneg_left (by omega) (by omega)
        omega
      rw [if_pos (Or.inl (by omega))]
      omega
theorem pf_step_ok {kd : Nat} {v : Int → Int} {q : Int → Int → Int} (hv : ∀ p, pf_al kd (p + 40) = true → b6 (v p)) (hq : ∀ c a, b6 (q c a)) {c : Int} {ts ts' : List Bool} {st : List Int} (ht : pf_t1 kd c ts = some ts') (hs : pf_ts ts st) : pf_ts ts' (pf_step v q c st) := by
  unfold pf_t1 at ht
  unfold pf_step
  split at ht
  · rename_i h1
    rw [if_pos h1]
    split at ht
    · cases ht; exact ⟨by unfold b6; omega, nofun, hs⟩
    · cases ht
  · rename_i h1
    rw [if_neg h1]
    split at ht
    · rename_i h2
      split at ht
      · rename_i hal
        split at ht
        · rename_i h3
          rw [if_pos h3]
          split at ht
          · cases ht
            cases st with
            | nil => exact absurd hs (by simp [pf_ts])
            | cons x xs => exact ⟨hq _ _, nofun, hs.2.2⟩
          · cases ht
        · rename_i h3
          rw [if_neg h3, if_pos h2]
          cases ht
          exact ⟨hv _ (by rw [show c - 40 + 40 = c by omega]; exact hal), nofun, hs⟩
      · cases ht
    · rename_i h2
      rw [if_neg (by omega), if_neg h2]
      split at ht
      · rename_i h4
        rw [if_pos h4]
        cases ht
        exact ⟨by unfold b6; omega, fun _ => Or.inr rfl, hs⟩
      · rename_i h4
        rw [if_neg h4]
        split at ht
        · rename_i h5
          rw [if_pos h5]
          split at ht
          · cases ht
            cases st with
            | nil => exact absurd hs (by simp [pf_ts])
            | cons x xs =>
              have hx := hs.2.1 rfl
              exact ⟨by unfold b6; omega, fun _ => by omega, hs.2.2⟩
          · cases ht
        · rename_i h5
          rw [if_neg h5]
          split at ht
          · rename_i h6
            split at ht
            · cases ht
              match st, hs with
              | x :: y :: xs, hs =>
                refine ⟨?_, nofun, hs.2.2.2.2⟩
                have hx := hs.1
                have hy := hs.2.2.1
                have hc := pf_clip_b
                have hf := fdiv_b (b := x) hy
                unfold pf_two
                split
                · exact hc _
                · split
                  · exact hc _
                  · split
                    · exact hc _
                    · split
                      · exact hf
                      · split
                        · split <;> assumption
                        · rw [if_pos (by omega)]
                          split <;> assumption
            · cases ht
          · rename_i h6
            split at ht
            · rename_i h7
              split at ht
              · cases ht
                match st, hs with
                | x :: y :: xs, hs =>
                  have h01 : pf_two c y x = 0 ∨ pf_two c y x = 1 := by
                    unfold pf_two
                    rw [if_neg (by omega), if_neg (by omega), if_neg (by omega), if_neg (by omega), if_neg (by omega), if_neg (by omega)]
                    split
                    · split <;> simp
                    · split
                      · split <;> simp
                      · rw [if_pos (by omega)]
                        split <;> simp
                  exact ⟨by unfold b6; omega, fun _ => h01, hs.2.2.2.2⟩
              · cases ht
            · rename_i h7
              split at ht
              · rename_i h8
                split at ht
                · cases ht
                  match st, hs with
                  | x :: y :: xs, hs =>
                    have h01 : pf_two c y x = 0 ∨ pf_two c y x = 1 := by
                      unfold pf_two
                      rw [if_neg (by omega), if_neg (by omega), if_neg (by omega), if_neg (by omega), if_neg (by omega), if_neg (by omega), if_neg (by omega), if_neg (by omega), if_neg (by omega)]
                      rcases hs.2.1 rfl with e | e <;> rcases hs.2.2.2.1 rfl with e2 | e2 <;> rw [e, e2] <;> split <;> simp
                    exact ⟨by unfold b6; omega, fun _ => h01, hs.2.2.2.2⟩
                · cases ht
              · cases ht
theorem pf_run_ok {kd : Nat} {v : Int → Int} {q : Int → Int → Int} (hv : ∀ p, pf_al kd (p + 40) = true → b6 (v p)) (hq : ∀ c a, b6 (q c a)) : ∀ (cs : List Int) (ts ts' : List Bool) (st : List Int), pf_tr kd cs ts = some ts' → pf_ts ts st → pf_ts ts' (pf_run v q cs st) := by
  intro cs
  induction cs with
  | nil => intro ts ts' st ht hs; cases ht; exact hs
  | cons c cs ih =>
    intro ts ts' st ht hs
    unfold pf_tr at ht
    split at ht
    · rename_i ts1 h1
      split at ht
      · exact ih _ _ _ ht (pf_step_ok hv hq h1 hs)
      · cases ht
    · cases ht
/-! doubt, reading, rain -/
def pf_vd (more less ink : Int) : Int → Int := fun p => if p = 0 then more else if p = 1 then less else ink
def pf_q0 : Int → Int → Int := fun _ _ => 0
def pf_doubt (D : zD) (pg : zG) (h k g : Int) : Int :=
  let r := pf_res (pf_vd (pf_bits (ax_and g (ax_xor (D 2 h k) (-1)))) (pf_bits (ax_and (D 2 h k) (ax_xor g (-1)))) (pf_bits (D 2 h k))) pf_q0 (pg 0)
  if r < 0 then 0 else r
def pf_readL (D : zD) (pg : zG) (h g : Int) : Nat → Int → Int → Int → Int
  | 0, _, _, f => f
  | n + 1, k, l, f => if pf_doubt D pg h k g < l then pf_readL D pg h g n (k + 1) (pf_doubt D pg h k g) (D 1 h k) else pf_readL D pg h g n (k + 1) l f
def pf_read (D : zD) (pg : zG) (h g : Int) : Int := pf_readL D pg h g (D 0 h 0).toNat 0 (D 8 0 0 + 1) 0
def pf_near (g i : Int) : Int := (if 3 ≤ i then ax_and (ax_shr g (i - 3)) 1 else 0) + (if i < 12 then ax_and (ax_shr g (i + 3)) 1 else 0) + (if 0 < i % 3 then ax_and (ax_shr g (i - 1)) 1 else 0) + (if i % 3 < 2 then ax_and (ax_shr g (i + 1)) 1 else 0)
def pf_vr (col row place near year : Int) : Int → Int := fun p => if p = 3 then col else if p = 4 then row else if p = 5 then place else if p = 6 then near else year
def pf_lost (pg : zG) (g i place year : Int) : Int := pf_res (pf_vr (i % 3) (i / 3) place (pf_near g i) year) pf_q0 (pg 1)
def pf_washL (pg : zG) (g place year : Int) : Nat → Int → Int → Int
  | 0, _, l => l
  | n + 1, i, l => pf_washL pg g place year n (i + 1) (if ax_and (ax_shr g i) 1 = 1 ∧ pf_lost pg g i place year = 1 then ax_and l (ax_xor (ax_shl 1 i) (-1)) else l)
def pf_wash (pg : zG) (g place year : Int) : Int := pf_washL pg g place year 15 0 g
/-- a shop's numbers as they may be -/
def zD_ok (D : zD) (pg : zG) : Prop :=
  ((∀ a b, 0 ≤ D 0 a b ∧ D 0 a b ≤ 12) ∧ (∀ a b, 0 ≤ D 1 a b ∧ D 1 a b ≤ 26) ∧ (∀ a b, g15 (D 2 a b)) ∧ (∀ a b, 0 ≤ D 3 a b ∧ D 3 a b ≤ 8) ∧ (∀ a b, 0 ≤ D 4 a b ∧ D 4 a b ≤ 6) ∧ (∀ a b, 0 ≤ D 5 a b ∧ D 5 a b ≤ 26) ∧ (∀ a b, 0 ≤ D 6 a b ∧ D 6 a b ≤ 4) ∧ (∀ a b, 0 ≤ D 8 a b ∧ D 8 a b ≤ 100)) ∧
  ((∀ h k, 0 ≤ h → h < 2 → 0 ≤ k → k < D 0 h 0 → 1 ≤ D 1 h k) ∧ (∀ w, 0 ≤ w → w < D 3 0 0 → 1 ≤ D 4 w 0) ∧ (∀ w k, 0 ≤ w → w < D 3 0 0 → 0 ≤ k → k < D 4 w 0 → 1 ≤ D 5 w k) ∧ (∀ w k, 0 ≤ w → w < D 3 0 0 → D 4 w 0 ≤ k → D 5 w k = 0) ∧ (∀ w, 0 ≤ w → w < D 3 0 0 → pf_canPaint D w 0 = 1)) ∧
  (pf_tr 0 (pg 0) [] = some [false] ∧ (pg 1 = [] ∨ pf_tr 1 (pg 1) [] = some [true]) ∧ (pg 0).length ≤ 1600 ∧ (pg 1).length ≤ 1600)
theorem zD_ok.a0 {D : zD} {pg : zG} (h : zD_ok D pg) (a b : Int) : 0 ≤ D 0 a b ∧ D 0 a b ≤ 12 := h.1.1 a b
theorem zD_ok.a1 {D : zD} {pg : zG} (h : zD_ok D pg) (a b : Int) : 0 ≤ D 1 a b ∧ D 1 a b ≤ 26 := h.1.2.1 a b
theorem zD_ok.a2 {D : zD} {pg : zG} (h : zD_ok D pg) (a b : Int) : g15 (D 2 a b) := h.1.2.2.1 a b
theorem zD_ok.a3 {D : zD} {pg : zG} (h : zD_ok D pg) (a b : Int) : 0 ≤ D 3 a b ∧ D 3 a b ≤ 8 := h.1.2.2.2.1 a b
theorem zD_ok.a4 {D : zD} {pg : zG} (h : zD_ok D pg) (a b : Int) : 0 ≤ D 4 a b ∧ D 4 a b ≤ 6 := h.1.2.2.2.2.1 a b
theorem zD_ok.a5 {D : zD} {pg : zG} (h : zD_ok D pg) (a b : Int) : 0 ≤ D 5 a b ∧ D 5 a b ≤ 26 := h.1.2.2.2.2.2.1 a b
theorem zD_ok.a6 {D : zD} {pg : zG} (h : zD_ok D pg) (a b : Int) : 0 ≤ D 6 a b ∧ D 6 a b ≤ 4 := h.1.2.2.2.2.2.2.1 a b
theorem zD_ok.a8 {D : zD} {pg : zG} (h : zD_ok D pg) (a b : Int) : 0 ≤ D 8 a b ∧ D 8 a b ≤ 100 := h.1.2.2.2.2.2.2.2 a b
theorem pf_at_in {D : zD} {pg : zG} (h : zD_ok D pg) (hd x : Int) : pf_at D hd x = -1 ∨ (0 ≤ pf_at D hd x ∧ pf_at D hd x < D 0 hd 0 ∧ D 1 hd (pf_at D hd x) = x) := by
  have h0 := h.a0 hd 0
  rcases pf_find_in (D 1 hd) x (D 0 hd 0).toNat 0 with e | ⟨e1, e2, e3⟩
  · exact Or.inl e
  · exact Or.inr ⟨e1, by unfold pf_at; omega, e3⟩
theorem pf_pg_15 {D : zD} {pg : zG} (h : zD_ok D pg) (w hd k : Int) : g15 (pf_pg D w hd k) := by
  unfold pf_pg
  split
  · exact ⟨by decide, by decide⟩
  · exact h.a2 _ _
