/-! FORMULAS, pure: by descent, and by a stack -/
abbrev zR : Type := Sum (Int × Int) (zs × List Int)
/-- the place of a word among the parts; whether a kind of text has it -/
def vOf (k : Int) : Int := if 11 ≤ k ∧ k ≤ 20 then k - 11 else if k = 9 then 10 else if k = 10 then 11 else -1
def alw (kd : Nat) (v : Int) : Bool := match kd with
  | 0 => decide (v < 3)
  | 1 => decide (2 < v ∧ v < 8)
  | _ => decide (v = 2 ∨ 6 < v)
def vw (T : Nat → Int) (n : Int) (kd : Nat) (s : zs) : Int := if (0 ≤ vOf (wd T n s) ∧ vOf (wd T n s) < 10) ∧ alw kd (vOf (wd T n s)) = true then vOf (wd T n s) else -1
def pw (T : Nat → Int) (n : Int) (kd : Nat) (s : zs) : Int := if 10 ≤ vOf (wd T n s) ∧ alw kd (vOf (wd T n s)) = true then vOf (wd T n s) else -1
def pAtom (T : Nat → Int) (n : Int) (kd : Nat) (s : zs) : zR := if vw T n kd s = -1 then (match pNum T n s 9999 with | .inl e => .inl e | .inr (s', v) => .inr (s', [1000 + v])) else .inr (aWd T n s, [40 + vw T n kd s])
def pL (pp : zs → zR) (o : zs → Option (zs × Int)) : Nat → zs → List Int → zR
  | 0, s, cs => .inr (s, cs)
  | m + 1, s, cs => match o s with
    | none => .inr (s, cs)
    | some (s1, c) => match pp s1 with
      | .inl e => .inl e
      | .inr (s2, cs2) => pL pp o m s2 (cs ++ cs2 ++ [c])
def pC (pp : zs → zR) (o : zs → Option (zs × Int)) (s : zs) : zR := match pp s with
  | .inl e => .inl e
  | .inr (s1, cs) => pL pp o 1600 s1 cs
def oM (T : Nat → Int) (n : Int) (s : zs) : Option (zs × Int) := if lc T n s.1 = 42 then some (aS T n s, 3) else if lc T n s.1 = 47 then some (aS T n s, 4) else none
def oA (T : Nat → Int) (n : Int) (s : zs) : Option (zs × Int) := if lc T n s.1 = 43 then some (aS T n s, 1) else if lc T n s.1 = 45 then some (aS T n s, 2) else none
def pSum (T : Nat → Int) (n : Int) (pp : zs → zR) : zs → zR := pC (pC pp (oM T n)) (oA T n)
/-- a sign is asked behind it -/
def pThen (T : Nat → Int) (n c : Int) (r : zR) : zR := match r with
  | .inl e => .inl e
  | .inr (s, cs) => if lc T n s.1 = c then .inr (aS T n s, cs) else .inl (1, s.1)
def pAdd (r : zR) (cs : List Int) : zR := match r with
  | .inl e => .inl e
  | .inr (s, c) => .inr (s, cs ++ c)
def pPut (r : zR) (cs : List Int) : zR := match r with
  | .inl e => .inl e
  | .inr (s, c) => .inr (s, c ++ cs)
def pBnd (r : zR) (k : zs → List Int → zR) : zR := match r with
  | .inl e => .inl e
  | .inr (s, c) => k s c
/-- a part, with so many levels left -/
def pPart (T : Nat → Int) (n : Int) (kd : Nat) : Nat → (zs → zR)
  | 0 => fun s => if lc T n s.1 = 40 then .inl (4, s.1)
    else if wd T n s = 7 ∨ wd T n s = 8 then (if lc T n (aWd T n s).1 = 40 then .inl (4, (aWd T n s).1) else .inl (1, (aWd T n s).1))
    else if pw T n kd s = -1 then pAtom T n kd s else .inl (4, s.1)
  | d + 1 => fun s => if lc T n s.1 = 40 then pThen T n 41 (pSum T n (pPart T n kd d) (aS T n s))
    else if wd T n s = 7 ∨ wd T n s = 8 then (if lc T n (aWd T n s).1 = 40 then
      pBnd (pThen T n 44 (pSum T n (pPart T n kd d) (aS T n (aWd T n s)))) (fun s1 c1 => pThen T n 41 (pPut (pAdd (pSum T n (pPart T n kd d) s1) c1) [if wd T n s = 7 then 5 else 6]))
      else .inl (1, (aWd T n s).1))
    else if pw T n kd s = -1 then pAtom T n kd s else pPut (pPart T n kd d (aWd T n s)) [pw T n kd s + 50]
/-- the stack: above the last bracket, it, below it -/
def isBr (x : Int) : Bool := decide (20 ≤ x ∧ x ≤ 24)
def bU : List Int → List Int
  | [] => []
  | x :: r => if isBr x = true then [] else x :: bU r
def bD : List Int → List Int
  | [] => []
  | x :: r => if isBr x = true then r else bD r
def bX : List Int → Int
  | [] => -1
  | x :: r => if isBr x = true then x else bX r
def pU (f : Int → Bool) : List Int → List Int
  | [] => []
  | x :: r => if f x = true then x :: pU f r else []
def pD (f : Int → Bool) : List Int → List Int
  | [] => []
  | x :: r => if f x = true then pD f r else x :: r
def fM (x : Int) : Bool := decide (x = 3 ∨ x = 4)
def fA (x : Int) : Bool := decide (1 ≤ x ∧ x ≤ 4)
/-- 0: a part is asked; 1: a part is told; 2: it goes on -/
def mach (T : Nat → Int) (n : Int) (kd : Nat) : Nat → Nat → zs → List Int → Int → List Int → Option zR
  | 0, _, _, _, _, _ => none
  | f + 1, 0, s, st, dep, cs =>
    if lc T n s.1 = 40 then (if dep = 6 then some (.inl (4, s.1)) else mach T n kd f 0 (aS T n s) (20 :: st) (dep + 1) cs)
    else if wd T n s = 7 ∨ wd T n s = 8 then (if lc T n (aWd T n s).1 = 40 then (if dep = 6 then some (.inl (4, (aWd T n s).1)) else mach T n kd f 0 (aS T n (aWd T n s)) ((if wd T n s = 7 then 21 else 22) :: st) (dep + 1) cs) else some (.inl (1, (aWd T n s).1)))
    else if pw T n kd s = -1 then (match pAtom T n kd s with | .inl e => some (.inl e) | .inr (s1, c) => mach T n kd f 1 s1 st dep (cs ++ c))
    else (if dep = 6 then some (.inl (4, s.1)) else mach T n kd f 0 (aWd T n s) ((pw T n kd s + 50) :: st) (dep + 1) cs)
  | f + 1, 1, s, [], dep, cs => mach T n kd f 2 s [] dep cs
  | f + 1, 1, s, x :: r, dep, cs => if 60 ≤ x then mach T n kd f 1 s r (dep - 1) (cs ++ [x]) else mach T n kd f 2 s (x :: r) dep cs
  | f + 1, _ + 2, s, st, dep, cs =>
    if lc T n s.1 = 41 ∧ (bX st = 20 ∨ bX st = 23 ∨ bX st = 24) then mach T n kd f 1 (aS T n s) (bD st) (dep - 1) (cs ++ bU st ++ (if bX st = 20 then [] else if bX st = 23 then [5] else [6]))
    else if lc T n s.1 = 42 ∨ lc T n s.1 = 47 then mach T n kd f 0 (aS T n s) ((if lc T n s.1 = 42 then 3 else 4) :: pD fM st) dep (cs ++ pU fM st)
    else if lc T n s.1 = 43 ∨ lc T n s.1 = 45 then mach T n kd f 0 (aS T n s) ((if lc T n s.1 = 43 then 1 else 2) :: pD fA st) dep (cs ++ pU fA st)
    else if bX st = 21 ∨ bX st = 22 then (if lc T n s.1 = 44 then mach T n kd f 0 (aS T n s) ((bX st + 2) :: bD st) dep (cs ++ bU st) else some (.inl (1, s.1)))
    else if bX st = -1 then some (.inr (s, cs ++ st))
    else some (.inl (1, s.1))
def mM (T : Nat → Int) (n : Int) (kd c : Nat) (s : zs) (st : List Int) (dep : Int) (cs : List Int) (r : zR) : Prop := ∃ f, mach T n kd f c s st dep cs = some r
def okM (K : List Int) : Prop := ∀ x r, K = x :: r → x < 60 ∧ fM x = false
def okA (K : List Int) : Prop := ∀ x r, K = x :: r → x < 60 ∧ fA x = false
def pdM (l : List Int) : Prop := l = [] ∨ ∃ x, l = [x] ∧ (x = 3 ∨ x = 4)
def pdA (l : List Int) : Prop := ∃ a b, l = a ++ b ∧ pdM a ∧ (b = [] ∨ ∃ x, b = [x] ∧ (x = 1 ∨ x = 2))
theorem okM_pd {K : List Int} (h : okM K) {l : List Int} (hl : pdM l) : pU fM (l ++ K) = l ∧ pD fM (l ++ K) = K := by
  have k0 : pU fM K = [] ∧ pD fM K = K := by
    cases K with
    | nil => exact ⟨rfl, rfl⟩
    | cons x r =>
      have := (h x r rfl).2
      unfold pU pD
      rw [this]
      exact ⟨rfl, rfl⟩
  rcases hl with rfl | ⟨x, rfl, hx⟩
  · exact k0
  · have : fM x = true := decide_eq_true hx
    show (if fM x = true then x :: pU fM K else []) = [x] ∧ (if fM x = true then pD fM K else x :: K) = K
    rw [if_pos this, if_pos this, k0.1, k0.2]
    exact ⟨rfl, rfl⟩
theorem okA_0 {K : List Int} (h : okA K) : pU fA K = [] ∧ pD fA K = K := by
  cases K with
  | nil => exact ⟨rfl, rfl⟩
  | cons x r =>
    have := (h x r rfl).2
    unfold pU pD
    rw [this]
    exact ⟨rfl, rfl⟩
theorem pUA_1 {x : Int} {K : List Int} (hx : 1 ≤ x ∧ x ≤ 4) : pU fA (x :: K) = x :: pU fA K ∧ pD fA (x :: K) = pD fA K := by
  have : fA x = true := decide_eq_true hx
  exact ⟨if_pos this, if_pos this⟩
theorem okA_pd {K : List Int} (h : okA K) {l : List Int} (hl : pdA l) : pU fA (l ++ K) = l ∧ pD fA (l ++ K) = K := by
  have k0 := okA_0 h
  obtain ⟨a, b, rfl, ha, hb⟩ := hl
  have k1 : pU fA (b ++ K) = b ∧ pD fA (b ++ K) = K := by
    rcases hb with rfl | ⟨x, rfl, hx⟩
    · exact k0
    · have := pUA_1 (K := K) (x := x) (by omega)
      rw [k0.1, k0.2] at this
      exact this
  rcases ha with rfl | ⟨x, rfl, hx⟩
  · exact k1
  · have := pUA_1 (K := b ++ K) (x := x) (by omega)
    rw [k1.1, k1.2] at this
    exact this
theorem bU_br {x : Int} {K : List Int} (hx : 20 ≤ x ∧ x ≤ 24) {l : List Int} (hl : ∀ y, y ∈ l → isBr y = false) : bU (l ++ x :: K) = l ∧ bD (l ++ x :: K) = K ∧ bX (l ++ x :: K) = x := by
  have hb : isBr x = true := decide_eq_true hx
  induction l with
  | nil => exact ⟨if_pos hb, if_pos hb, if_pos hb⟩
  | cons y r ih =>
    have hy := hl y (by simp)
    obtain ⟨a, b, c⟩ := ih (fun z hz => hl z (List.mem_cons_of_mem _ hz))
    show (if isBr y = true then [] else y :: bU (r ++ x :: K)) = y :: r ∧ (if isBr y = true then r ++ x :: K else bD (r ++ x :: K)) = K ∧ (if isBr y = true then y else bX (r ++ x :: K)) = x
    rw [hy, if_neg (by decide), if_neg (by decide), if_neg (by decide), a, b, c]
    exact ⟨rfl, rfl, rfl⟩
theorem bX_no {l : List Int} (hl : ∀ y, y ∈ l → isBr y = false) : bX l = -1 := by
  induction l with
  | nil => rfl
  | cons y r ih =>
    have hy := hl y (by simp)
    show (if isBr y = true then y else bX r) = -1
    rw [hy, if_neg (by decide)]
    exact ih (fun z hz => hl z (List.mem_cons_of_mem _ hz))
theorem pdA_br {l : List Int} (h : pdA l) : ∀ y, y ∈ l → isBr y = false := by
  obtain ⟨a, b, rfl, ha, hb⟩ := h
  intro y hy
  rcases List.mem_append.mp hy with h1 | h1
  · rcases ha with rfl | ⟨x, rfl, hx⟩
    · exact absurd h1 (by simp)
    · rw [List.mem_singleton.mp h1]
      unfold isBr
      rw [decide_eq_false_iff_not]
      omega
  · rcases hb with rfl | ⟨x, rfl, hx⟩
    · exact absurd h1 (by simp)
    · rw [List.mem_singleton.mp h1]
      unfold isBr
      rw [decide_eq_false_iff_not]
      omega
theorem pd_60 {l K : List Int} (h : pdA l) (hK : ∀ x r, K = x :: r → x < 60) : ∀ x r, l ++ K = x :: r → x < 60 := by
  obtain ⟨a, b, rfl, ha, hb⟩ := h
  intro x r e
  rcases ha with rfl | ⟨y, rfl, hy⟩
  · rcases hb with rfl | ⟨y, rfl, hy⟩
    · exact hK x r e
    · have : y = x := by injection e
      omega
  · have : y = x := by injection e
    omega
section ZPA
variable {T : Nat → Int} {n : Int} {kd : Nat} {s : zs} {st : List Int} {dep : Int} {cs : List Int} {r : zR}
theorem m_E (hK : ∀ x q, st = x :: q → x < 60) (h : mM T n kd 2 s st dep cs r) : mM T n kd 1 s st dep cs r := by
  obtain ⟨f, hf⟩ := h
  cases st with
  | nil => exact ⟨f + 1, hf⟩
  | cons x q => exact ⟨f + 1, by show (if 60 ≤ x then _ else _) = _; rw [if_neg (by have := hK x q rfl; omega)]; exact hf⟩
end ZPA
