/-! STACKS OF SUMS: how they look, what depth they have -/
/-- top first -/
def wk : List Int → Prop
  | [] => True
  | x :: r => ((1 ≤ x ∧ x ≤ 4) ∨ (20 ≤ x ∧ x ≤ 24) ∨ (60 ≤ x ∧ x ≤ 61)) ∧ ((1 ≤ x ∧ x ≤ 4) → ∀ y q, r = y :: q → y < 60) ∧ wk r
def tp60 (st : List Int) : Prop := ∀ x q, st = x :: q → x < 60
def cO : List Int → Int
  | [] => 0
  | x :: r => (if 20 ≤ x then 1 else 0) + cO r
theorem cO_ge : ∀ st : List Int, 0 ≤ cO st ∧ cO st ≤ st.length := by
  intro st
  induction st with
  | nil => exact ⟨by decide, by decide⟩
  | cons x r ih =>
    have e : cO (x :: r) = (if 20 ≤ x then 1 else 0) + cO r := rfl
    rw [e, List.length_cons]
    by_cases c : 20 ≤ x
    · rw [if_pos c]; omega
    · rw [if_neg c]; omega
theorem pUD_len (f : Int → Bool) : ∀ st : List Int, (pU f st).length + (pD f st).length = st.length := by
  intro st
  induction st with
  | nil => rfl
  | cons x r ih =>
    by_cases c : f x = true
    · rw [show pU f (x :: r) = x :: pU f r from if_pos c, show pD f (x :: r) = pD f r from if_pos c, List.length_cons, List.length_cons]; omega
    · rw [show pU f (x :: r) = [] from if_neg c, show pD f (x :: r) = x :: r from if_neg c]; simp
theorem bUD_len : ∀ st : List Int, bX st ≠ -1 → (bU st).length + 1 + (bD st).length = st.length := by
  intro st
  induction st with
  | nil => intro h; exact absurd rfl h
  | cons x r ih =>
    intro h
    by_cases c : isBr x = true
    · rw [show bU (x :: r) = [] from if_pos c, show bD (x :: r) = r from if_pos c, List.length_cons]; simp; omega
    · rw [show bX (x :: r) = bX r from if_neg c] at h
      have := ih h
      rw [show bU (x :: r) = x :: bU r from if_neg c, show bD (x :: r) = bD r from if_neg c, List.length_cons, List.length_cons]; omega
theorem bR_eq : ∀ st : List Int, bX st ≠ -1 → bR st = bX st :: bD st := by
  intro st
  induction st with
  | nil => intro h; exact absurd rfl h
  | cons x r ih =>
    intro h
    by_cases c : isBr x = true
    · rw [show bR (x :: r) = x :: r from if_pos c, show bX (x :: r) = x from if_pos c, show bD (x :: r) = r from if_pos c]
    · rw [show bX (x :: r) = bX r from if_neg c] at h
      rw [show bR (x :: r) = bR r from if_neg c, show bX (x :: r) = bX r from if_neg c, show bD (x :: r) = bD r from if_neg c]
      exact ih h
theorem wk_60 : ∀ st : List Int, wk st → wk (pD f60 st) ∧ tp60 (pD f60 st) ∧ cO st = (pU f60 st).length + cO (pD f60 st) := by
  intro st
  induction st with
  | nil => intro _; exact ⟨trivial, fun x q e => absurd e (by simp [pD]), rfl⟩
  | cons x r ih =>
    intro h
    by_cases c : f60 x = true
    · have c' := of_decide_eq_true c
      obtain ⟨a, b, e⟩ := ih h.2.2
      rw [show pU f60 (x :: r) = x :: pU f60 r from if_pos c, show pD f60 (x :: r) = pD f60 r from if_pos c, List.length_cons]
      refine ⟨a, b, ?_⟩
      rw [show cO (x :: r) = (if 20 ≤ x then 1 else 0) + cO r from rfl, if_pos (by omega)]
      omega
    · have c' : ¬ 60 ≤ x := fun z => c (decide_eq_true z)
      rw [show pU f60 (x :: r) = [] from if_neg c, show pD f60 (x :: r) = x :: r from if_neg c]
      refine ⟨h, fun y q e => ?_, by simp⟩
      have : x = y := by injection e
      omega
theorem wk_tl {x : Int} {r : List Int} (h : wk (x :: r)) (hx : ¬ isBr x = true) (h60 : x < 60) : tp60 r ∧ ¬ 20 ≤ x := by
  have hx' : ¬ (20 ≤ x ∧ x ≤ 24) := fun z => hx (decide_eq_true z)
  exact ⟨h.2.1 (by have := h.1; omega), by have := h.1; omega⟩
theorem wk_br : ∀ st : List Int, wk st → tp60 st → (bX st ≠ -1 → wk (bD st) ∧ cO st = 1 + cO (bD st) ∧ (20 ≤ bX st ∧ bX st ≤ 24)) ∧ (bX st = -1 → cO st = 0) := by
  intro st
  induction st with
  | nil => intro _ _; exact ⟨fun h => absurd rfl h, fun _ => rfl⟩
  | cons x r ih =>
    intro h ht
    have hx := ht x r rfl
    by_cases c : isBr x = true
    · have c' := of_decide_eq_true c
      rw [show bX (x :: r) = x from if_pos c, show bD (x :: r) = r from if_pos c]
      refine ⟨fun _ => ⟨h.2.2, ?_, c'⟩, fun e => by omega⟩
      rw [show cO (x :: r) = (if 20 ≤ x then 1 else 0) + cO r from rfl, if_pos (by omega)]
    · obtain ⟨a, b⟩ := wk_tl h c hx
      rw [show bX (x :: r) = bX r from if_neg c, show bD (x :: r) = bD r from if_neg c, show cO (x :: r) = (if 20 ≤ x then 1 else 0) + cO r from rfl, if_neg b, Int.zero_add]
      exact ih h.2.2 a
theorem wk_op {f : Int → Bool} (hf : ∀ x, f x = true → 1 ≤ x ∧ x ≤ 4) : ∀ st : List Int, wk st → tp60 st → wk (pD f st) ∧ tp60 (pD f st) ∧ cO (pD f st) = cO st := by
  intro st
  induction st with
  | nil => intro _ ht; exact ⟨trivial, ht, rfl⟩
  | cons x r ih =>
    intro h ht
    by_cases c : f x = true
    · have c' := hf x c
      rw [show pD f (x :: r) = pD f r from if_pos c, show cO (x :: r) = (if 20 ≤ x then 1 else 0) + cO r from rfl, if_neg (by omega), Int.zero_add]
      exact ih h.2.2 (h.2.1 c')
    · rw [show pD f (x :: r) = x :: r from if_neg c]
      exact ⟨h, ht, rfl⟩
theorem wk_M {st : List Int} (h : wk st) (ht : tp60 st) : wk (pD fM st) ∧ tp60 (pD fM st) ∧ cO (pD fM st) = cO st := wk_op (fun x e => by have := of_decide_eq_true e; omega) st h ht
theorem wk_A {st : List Int} (h : wk st) (ht : tp60 st) : wk (pD fA st) ∧ tp60 (pD fA st) ∧ cO (pD fA st) = cO st := wk_op (fun x e => by have := of_decide_eq_true e; omega) st h ht
theorem wk_push {x : Int} {st : List Int} (hx : (20 ≤ x ∧ x ≤ 24) ∨ (60 ≤ x ∧ x ≤ 61)) (h : wk st) : wk (x :: st) ∧ cO (x :: st) = cO st + 1 := by
  refine ⟨⟨by omega, fun q => by omega, h⟩, ?_⟩
  rw [show cO (x :: st) = (if 20 ≤ x then 1 else 0) + cO st from rfl, if_pos (by omega)]
  omega
theorem wk_put {x : Int} {st : List Int} (hx : 1 ≤ x ∧ x ≤ 4) (h : wk st) (ht : tp60 st) : wk (x :: st) ∧ cO (x :: st) = cO st := by
  refine ⟨⟨by omega, fun _ => ht, h⟩, ?_⟩
  rw [show cO (x :: st) = (if 20 ≤ x then 1 else 0) + cO st from rfl, if_neg (by omega)]
  omega
section ZWK
variable {T : Nat → Int} {n : Int} {kd : Nat} {r : zR}
theorem mach_00 {c : Nat} {s : zs} {st : List Int} {dep : Int} {cs : List Int} (h : mach T n kd 0 c s st dep cs = some r) : False := by
  have h' : (none : Option zR) = some r := h
  cases h'
theorem mach_1 : ∀ (st : List Int) (f : Nat) (s : zs) (dep : Int) (cs : List Int), mach T n kd f 1 s st dep cs = some r → ∃ f', f' < f ∧ mach T n kd f' 2 s (pD f60 st) (dep - ((pU f60 st).length : Int)) (cs ++ pU f60 st) = some r := by
  intro st
  induction st with
  | nil =>
    intro f s dep cs h
    cases f with
    | zero => exact (mach_00 h).elim
    | succ f =>
      refine ⟨f, by omega, ?_⟩
      rw [show pU f60 [] = [] from rfl, List.append_nil, show dep - (([] : List Int).length : Int) = dep by simp]
      exact h
  | cons x q ih =>
    intro f s dep cs h
    cases f with
    | zero => exact (mach_00 h).elim
    | succ f =>
      have h' : (if 60 ≤ x then mach T n kd f 1 s q (dep - 1) (cs ++ [x]) else mach T n kd f 2 s (x :: q) dep cs) = some r := h
      by_cases c : 60 ≤ x
      · rw [if_pos c] at h'
        obtain ⟨f', h1, h2⟩ := ih f s (dep - 1) (cs ++ [x]) h'
        have c' : f60 x = true := decide_eq_true c
        refine ⟨f', by omega, ?_⟩
        rw [show pU f60 (x :: q) = x :: pU f60 q from if_pos c', show pD f60 (x :: q) = pD f60 q from if_pos c', List.length_cons, show dep - (((pU f60 q).length + 1 : Nat) : Int) = dep - 1 - ((pU f60 q).length : Int) by omega]
        rw [List.append_assoc] at h2
        exact h2
      · rw [if_neg c] at h'
        have c' : ¬ f60 x = true := fun z => c (of_decide_eq_true z)
        refine ⟨f, by omega, ?_⟩
        rw [show pU f60 (x :: q) = [] from if_neg c', show pD f60 (x :: q) = x :: q from if_neg c', List.append_nil, show dep - (([] : List Int).length : Int) = dep by simp]
        exact h'
theorem mach_0 {f : Nat} {s : zs} {st : List Int} {dep : Int} {cs : List Int} : mach T n kd (f + 1) 0 s st dep cs = (if lc T n s.1 = 40 then (if dep = 6 then some (.inl (4, s.1)) else mach T n kd f 0 (aS T n s) (20 :: st) (dep + 1) cs)
    else if wd T n s = 7 ∨ wd T n s = 8 then (if lc T n (aWd T n s).1 = 40 then (if dep = 6 then some (.inl (4, (aWd T n s).1)) else mach T n kd f 0 (aS T n (aWd T n s)) ((if wd T n s = 7 then 21 else 22) :: st) (dep + 1) cs) else some (.inl (1, (aWd T n s).1)))
    else if pw T n kd s = -1 then (match pAtom T n kd s with | .inl e => some (.inl e) | .inr (s1, c) => mach T n kd f 1 s1 st dep (cs ++ c))
    else (if dep = 6 then some (.inl (4, s.1)) else mach T n kd f 0 (aWd T n s) ((pw T n kd s + 50) :: st) (dep + 1) cs)) := rfl
theorem mach_2 {f : Nat} {s : zs} {st : List Int} {dep : Int} {cs : List Int} : mach T n kd (f + 1) 2 s st dep cs = (if lc T n s.1 = 41 ∧ (bX st = 20 ∨ bX st = 23 ∨ bX st = 24) then mach T n kd f 1 (aS T n s) (bD st) (dep - 1) (cs ++ bU st ++ (if bX st = 20 then [] else if bX st = 23 then [5] else [6]))
    else if lc T n s.1 = 42 ∨ lc T n s.1 = 47 then mach T n kd f 0 (aS T n s) ((if lc T n s.1 = 42 then 3 else 4) :: pD fM st) dep (cs ++ pU fM st)
    else if lc T n s.1 = 43 ∨ lc T n s.1 = 45 then mach T n kd f 0 (aS T n s) ((if lc T n s.1 = 43 then 1 else 2) :: pD fA st) dep (cs ++ pU fA st)
    else if bX st = 21 ∨ bX st = 22 then (if lc T n s.1 = 44 then mach T n kd f 0 (aS T n s) ((bX st + 2) :: bD st) dep (cs ++ bU st) else some (.inl (1, s.1)))
    else if bX st = -1 then some (.inr (s, cs ++ st))
    else some (.inl (1, s.1))) := rfl
end ZWK
