/-! FACTS, pure: by descent, and by a stack -/
def oMt (T : Nat → Int) (n : Int) (s : zs) : Option (zs × Int) := if wd T n s = 24 then some (aWd T n s, 10) else none
def oAt (T : Nat → Int) (n : Int) (s : zs) : Option (zs × Int) := if wd T n s = 25 then some (aWd T n s, 11) else none
def pTst (T : Nat → Int) (n : Int) (pp : zs → zR) : zs → zR := pC (pC pp (oMt T n)) (oAt T n)
/-- two sums and what is between them -/
def pCmp (T : Nat → Int) (n : Int) (kd d : Nat) (s : zs) : zR := pBnd (pSum T n (pPart T n kd d) s) (fun s1 c1 => if lc T n s1.1 = 60 ∨ lc T n s1.1 = 62 ∨ lc T n s1.1 = 61 then pPut (pAdd (pSum T n (pPart T n kd d) (aS T n s1)) c1) [if lc T n s1.1 = 60 then 7 else if lc T n s1.1 = 62 then 8 else 9] else .inl (1, s1.1))
def pAll (T : Nat → Int) (n : Int) (kd d : Nat) (s : zs) : zR := if wd T n s = 22 then .inr (aWd T n s, [13]) else pCmp T n kd d s
/-- a fact, with so many levels left -/
def pFact (T : Nat → Int) (n : Int) (kd : Nat) : Nat → (zs → zR)
  | 0 => fun s => if lc T n s.1 = 91 then .inl (4, s.1) else if wd T n s = 23 then .inl (4, s.1) else pAll T n kd 0 s
  | d + 1 => fun s => if lc T n s.1 = 91 then pThen T n 93 (pTst T n (pFact T n kd d) (aS T n s)) else if wd T n s = 23 then pPut (pFact T n kd d (aWd T n s)) [12] else pAll T n kd (d + 1) s
def fMt (x : Int) : Bool := decide (x = 10)
def fAt (x : Int) : Bool := decide (x = 10 ∨ x = 11)
def hB : List Int → Bool
  | [] => false
  | x :: r => if x = 25 then true else hB r
def sU : List Int → List Int
  | [] => []
  | x :: r => if x = 25 then [] else x :: sU r
def sD : List Int → List Int
  | [] => []
  | x :: r => if x = 25 then r else sD r
/-- 0: a fact is asked; 1: a fact is told; 2: it goes on -/
def macht (T : Nat → Int) (n : Int) (kd : Nat) : Nat → Nat → zs → List Int → Int → List Int → Option zR
  | 0, _, _, _, _, _ => none
  | f + 1, 0, s, st, dep, cs =>
    if lc T n s.1 = 91 then (if dep = 6 then some (.inl (4, s.1)) else macht T n kd f 0 (aS T n s) (25 :: st) (dep + 1) cs)
    else if wd T n s = 23 then (if dep = 6 then some (.inl (4, s.1)) else macht T n kd f 0 (aWd T n s) (12 :: st) (dep + 1) cs)
    else (match pAll T n kd (6 - dep).toNat s with | .inl e => some (.inl e) | .inr (s1, c) => macht T n kd f 1 s1 st dep (cs ++ c))
  | f + 1, 1, s, [], dep, cs => macht T n kd f 2 s [] dep cs
  | f + 1, 1, s, x :: r, dep, cs => if x = 12 then macht T n kd f 1 s r (dep - 1) (cs ++ [x]) else macht T n kd f 2 s (x :: r) dep cs
  | f + 1, _ + 2, s, st, dep, cs =>
    if lc T n s.1 = 93 ∧ hB st = true then macht T n kd f 1 (aS T n s) (sD st) (dep - 1) (cs ++ sU st)
    else if wd T n s = 24 then macht T n kd f 0 (aWd T n s) (10 :: pD fMt st) dep (cs ++ pU fMt st)
    else if wd T n s = 25 then macht T n kd f 0 (aWd T n s) (11 :: pD fAt st) dep (cs ++ pU fAt st)
    else if hB st = true then some (.inl (1, s.1))
    else some (.inr (s, cs ++ st))
def mMt (T : Nat → Int) (n : Int) (kd c : Nat) (s : zs) (st : List Int) (dep : Int) (cs : List Int) (r : zR) : Prop := ∃ f, macht T n kd f c s st dep cs = some r
def okMt (K : List Int) : Prop := ∀ x r, K = x :: r → x ≠ 12 ∧ fMt x = false
def okAt (K : List Int) : Prop := ∀ x r, K = x :: r → x ≠ 12 ∧ fAt x = false
def pdMt (l : List Int) : Prop := l = [] ∨ ∃ x, l = [x] ∧ x = 10
def pdAt (l : List Int) : Prop := ∃ a b, l = a ++ b ∧ pdMt a ∧ (b = [] ∨ ∃ x, b = [x] ∧ x = 11)
theorem okM_pdt {K : List Int} (h : okMt K) {l : List Int} (hl : pdMt l) : pU fMt (l ++ K) = l ∧ pD fMt (l ++ K) = K := by
  have k0 : pU fMt K = [] ∧ pD fMt K = K := by
    cases K with
    | nil => exact ⟨rfl, rfl⟩
    | cons x r =>
      have := (h x r rfl).2
      unfold pU pD
      rw [this]
      exact ⟨rfl, rfl⟩
  rcases hl with rfl | ⟨x, rfl, hx⟩
  · exact k0
  · have : fMt x = true := decide_eq_true hx
    show (if fMt x = true then x :: pU fMt K else []) = [x] ∧ (if fMt x = true then pD fMt K else x :: K) = K
    rw [if_pos this, if_pos this, k0.1, k0.2]
    exact ⟨rfl, rfl⟩
theorem pUA_1t {x : Int} {K : List Int} (hx : x = 10 ∨ x = 11) : pU fAt (x :: K) = x :: pU fAt K ∧ pD fAt (x :: K) = pD fAt K := by
  have : fAt x = true := decide_eq_true hx
  exact ⟨if_pos this, if_pos this⟩
theorem okA_pdt {K : List Int} (h : okAt K) {l : List Int} (hl : pdAt l) : pU fAt (l ++ K) = l ∧ pD fAt (l ++ K) = K := by
  have k0 : pU fAt K = [] ∧ pD fAt K = K := by
    cases K with
    | nil => exact ⟨rfl, rfl⟩
    | cons x r =>
      have := (h x r rfl).2
      unfold pU pD
      rw [this]
      exact ⟨rfl, rfl⟩
  obtain ⟨a, b, rfl, ha, hb⟩ := hl
  have k1 : pU fAt (b ++ K) = b ∧ pD fAt (b ++ K) = K := by
    rcases hb with rfl | ⟨x, rfl, hx⟩
    · exact k0
    · have := pUA_1t (K := K) (x := x) (by omega)
      rw [k0.1, k0.2] at this
      exact this
  rcases ha with rfl | ⟨x, rfl, hx⟩
  · exact k1
  · have := pUA_1t (K := b ++ K) (x := x) (by omega)
    rw [k1.1, k1.2] at this
    exact this
theorem pdAt_br {l : List Int} (h : pdAt l) : ∀ y, y ∈ l → y ≠ 25 := by
  obtain ⟨a, b, rfl, ha, hb⟩ := h
  intro y hy
  rcases List.mem_append.mp hy with h1 | h1
  · rcases ha with rfl | ⟨x, rfl, hx⟩
    · exact absurd h1 (by simp)
    · rw [List.mem_singleton.mp h1]; omega
  · rcases hb with rfl | ⟨x, rfl, hx⟩
    · exact absurd h1 (by simp)
    · rw [List.mem_singleton.mp h1]; omega
theorem sU_br {K l : List Int} (hl : ∀ y, y ∈ l → y ≠ 25) : sU (l ++ 25 :: K) = l ∧ sD (l ++ 25 :: K) = K ∧ hB (l ++ 25 :: K) = true := by
  induction l with
  | nil => exact ⟨if_pos rfl, if_pos rfl, if_pos rfl⟩
  | cons y r ih =>
    have hy := hl y (by simp)
    obtain ⟨a, b, c⟩ := ih (fun z hz => hl z (List.mem_cons_of_mem _ hz))
    show (if y = 25 then [] else y :: sU (r ++ 25 :: K)) = y :: r ∧ (if y = 25 then r ++ 25 :: K else sD (r ++ 25 :: K)) = K ∧ (if y = 25 then true else hB (r ++ 25 :: K)) = true
    rw [if_neg hy, if_neg hy, if_neg hy, a, b, c]
    exact ⟨rfl, rfl, rfl⟩
theorem hB_no {l : List Int} (hl : ∀ y, y ∈ l → y ≠ 25) : hB l = false := by
  induction l with
  | nil => rfl
  | cons y r ih =>
    show (if y = 25 then true else hB r) = false
    rw [if_neg (hl y (by simp))]
    exact ih (fun z hz => hl z (List.mem_cons_of_mem _ hz))
theorem wd_lc {T : Nat → Int} {n : Int} {s : zs} {c : Int} (hc : ¬ fL c = true) (hc1 : c ≠ -1) (h : lc T n s.1 = c) : wd T n s = -1 := by
  have h1 := wd_in T n s
  by_cases q : 0 ≤ wd T n s
  · have := (wd_pos q).1.1
    rw [(lc_lt h hc1).2] at this
    exact absurd this.2 hc
  · omega
section ZPBt
variable {T : Nat → Int} {n : Int} {kd : Nat} {s : zs} {st : List Int} {dep : Int} {cs : List Int} {r : zR}
theorem m_Et (hK : ∀ x q, st = x :: q → x ≠ 12) (h : mMt T n kd 2 s st dep cs r) : mMt T n kd 1 s st dep cs r := by
  obtain ⟨f, hf⟩ := h
  cases st with
  | nil => exact ⟨f + 1, hf⟩
  | cons x q => exact ⟨f + 1, by show (if x = 12 then _ else _) = _; rw [if_neg (hK x q rfl)]; exact hf⟩
theorem no93 (h : 0 ≤ wd T n s) : ¬ (lc T n s.1 = 93 ∧ hB st = true) := fun q => by
  have := wd_lc (T := T) (n := n) (s := s) (c := 93) (by decide) (by decide) q.1
  omega
theorem m_mult (h : wd T n s = 24) (hm : mMt T n kd 0 (aWd T n s) (10 :: pD fMt st) dep (cs ++ pU fMt st) r) : mMt T n kd 2 s st dep cs r := by
  obtain ⟨f, hf⟩ := hm
  refine ⟨f + 1, ?_⟩
  show (if _ then _ else _) = _
  rw [if_neg (no93 (by omega)), if_pos h]
  exact hf
theorem m_addt (h : wd T n s = 25) (hm : mMt T n kd 0 (aWd T n s) (11 :: pD fAt st) dep (cs ++ pU fAt st) r) : mMt T n kd 2 s st dep cs r := by
  obtain ⟨f, hf⟩ := hm
  refine ⟨f + 1, ?_⟩
  show (if _ then _ else _) = _
  rw [if_neg (no93 (by omega)), if_neg (by omega), if_pos h]
  exact hf
theorem oM_somet {s2 : zs} {c : Int} (h : oMt T n s = some (s2, c)) : s.1 < n ∧ s2 = aWd T n s ∧ c = 10 ∧ wd T n s = 24 := by
  unfold oMt at h
  by_cases q : wd T n s = 24
  · rw [if_pos q] at h
    have h' := Option.some.inj h
    exact ⟨(wd_pos (T := T) (n := n) (s := s) (by omega)).1.1.1, (congrArg Prod.fst h').symm, (congrArg Prod.snd h').symm, q⟩
  · rw [if_neg q] at h
    exact absurd h (by simp)
theorem oA_somet {s2 : zs} {c : Int} (h : oAt T n s = some (s2, c)) : s.1 < n ∧ s2 = aWd T n s ∧ c = 11 ∧ wd T n s = 25 := by
  unfold oAt at h
  by_cases q : wd T n s = 25
  · rw [if_pos q] at h
    have h' := Option.some.inj h
    exact ⟨(wd_pos (T := T) (n := n) (s := s) (by omega)).1.1.1, (congrArg Prod.fst h').symm, (congrArg Prod.snd h').symm, q⟩
  · rw [if_neg q] at h
    exact absurd h (by simp)
end ZPBt
/-- what a reader of parts, of products, of sums does for the stack -/
def sPt (T : Nat → Int) (n : Int) (kd : Nat) (dep : Int) (pp : zs → zR) : Prop := ∀ s, sOk T n s → (∀ e, pp s = .inl e → ∀ K C, mMt T n kd 0 s K dep C (.inl e)) ∧ (∀ s' out, pp s = .inr (s', out) → (sOk T n s' ∧ s.1 < s'.1) ∧ ∀ K C r, mMt T n kd 1 s' K dep (C ++ out) r → mMt T n kd 0 s K dep C r)
def sMut (T : Nat → Int) (n : Int) (kd : Nat) (dep : Int) (pp : zs → zR) : Prop := ∀ s, sOk T n s → (∀ e, pp s = .inl e → ∀ K C, okMt K → mMt T n kd 0 s K dep C (.inl e)) ∧ (∀ s' out, pp s = .inr (s', out) → (sOk T n s' ∧ s.1 < s'.1) ∧ oMt T n s' = none ∧ ∀ K C r, okMt K → (∀ pd C', pdMt pd → C' ++ pd = C ++ out → mMt T n kd 2 s' (pd ++ K) dep C' r) → mMt T n kd 0 s K dep C r)
def sAdt (T : Nat → Int) (n : Int) (kd : Nat) (dep : Int) (pp : zs → zR) : Prop := ∀ s, sOk T n s → (∀ e, pp s = .inl e → ∀ K C, okAt K → mMt T n kd 0 s K dep C (.inl e)) ∧ (∀ s' out, pp s = .inr (s', out) → (sOk T n s' ∧ s.1 < s'.1) ∧ (oMt T n s' = none ∧ oAt T n s' = none) ∧ ∀ K C r, okAt K → (∀ pd C', pdAt pd → C' ++ pd = C ++ out → mMt T n kd 2 s' (pd ++ K) dep C' r) → mMt T n kd 0 s K dep C r)
section ZPCt
variable {T : Nat → Int} {n : Int} {kd : Nat} {dep : Int} {pp : zs → zR}
theorem mul_lt (hp : sPt T n kd dep pp) : ∀ (m : Nat) (s : zs) (cs : List Int), sOk T n s → n - s.1 ≤ m → (∀ e, pL pp (oMt T n) m s cs = .inl e → ∀ K C pd C', okMt K → pdMt pd → C' ++ pd = C ++ cs → mMt T n kd 2 s (pd ++ K) dep C' (.inl e)) ∧ (∀ s' out, pL pp (oMt T n) m s cs = .inr (s', out) → (sOk T n s' ∧ s.1 ≤ s'.1) ∧ oMt T n s' = none ∧ ∀ K C pd C' r, okMt K → pdMt pd → C' ++ pd = C ++ cs → (∀ pd C', pdMt pd → C' ++ pd = C ++ out → mMt T n kd 2 s' (pd ++ K) dep C' r) → mMt T n kd 2 s (pd ++ K) dep C' r) := by
  intro m
  induction m with
  | zero =>
    intro s cs hs hm
    have none0 : oMt T n s = none := by
      cases ho : oMt T n s with
      | none => rfl
      | some x => obtain ⟨s2, c⟩ := x; have := (oM_somet ho).1; omega
    refine ⟨fun e h => absurd h (by simp [pL]), fun s' out h => ?_⟩
    have h' : (s, cs) = (s', out) := Sum.inr.inj h
    cases h'
    exact ⟨⟨hs, Int.le_refl _⟩, none0, fun K C pd C' r hK hpd e hc => hc pd C' hpd e⟩
  | succ m ih =>
    intro s cs hs hm
    cases ho : oMt T n s with
    | none =>
      have eL : pL pp (oMt T n) (m + 1) s cs = .inr (s, cs) := by unfold pL; rw [ho]
      rw [eL]
      refine ⟨fun e h => absurd h (by simp), fun s' out h => ?_⟩
      have h' : (s, cs) = (s', out) := Sum.inr.inj h
      cases h'
      exact ⟨⟨hs, Int.le_refl _⟩, ho, fun K C pd C' r hK hpd e hc => hc pd C' hpd e⟩
    | some x =>
      obtain ⟨s2, c⟩ := x
      obtain ⟨o1, o2, o3, o4⟩ := oM_somet ho
      subst o2
      have hs2 := aWd_ok hs
      have l2' : s.1 < (aWd T n s).1 := aWd_lt (by omega)
      obtain ⟨p1, p2⟩ := hp _ hs2
      cases hq : pp (aWd T n s) with
      | inl e0 =>
        have eL : pL pp (oMt T n) (m + 1) s cs = .inl e0 := by unfold pL; rw [ho]; simp only [hq]
        rw [eL]
        refine ⟨fun e h K C pd C' hK hpd hC => ?_, fun s' out h => absurd h (by simp)⟩
        cases h
        obtain ⟨u1, u2⟩ := okM_pdt hK hpd
        refine m_mult o4 ?_
        exact p1 _ hq _ _
      | inr y =>
        obtain ⟨s3, cs3⟩ := y
        have eL : pL pp (oMt T n) (m + 1) s cs = pL pp (oMt T n) m s3 (cs ++ cs3 ++ [c]) := by
          rw [show pL pp (oMt T n) (m + 1) s cs = (match oMt T n s with | none => .inr (s, cs) | some (s1, c) => match pp s1 with | .inl e => .inl e | .inr (s2, cs2) => pL pp (oMt T n) m s2 (cs ++ cs2 ++ [c])) from rfl, ho]
          simp only [hq]
        obtain ⟨⟨q1, q2⟩, q3⟩ := p2 _ _ hq
        obtain ⟨i1, i2⟩ := ih s3 (cs ++ cs3 ++ [c]) q1 (by omega)
        have go : ∀ K C pd C' r, okMt K → pdMt pd → C' ++ pd = C ++ cs → mMt T n kd 2 s3 ([c] ++ K) dep (C ++ (cs ++ cs3)) r → mMt T n kd 2 s (pd ++ K) dep C' r := by
          intro K C pd C' r hK hpd hC hh
          obtain ⟨u1, u2⟩ := okM_pdt hK hpd
          refine m_mult o4 ?_
          rw [u1, u2, hC, ← o3]
          refine q3 _ _ _ (m_Et (fun x q e => ?_) ?_)
          · have : c = x := by injection e
            omega
          · rw [List.append_assoc]
            exact hh
        rw [eL]
        refine ⟨fun e h K C pd C' hK hpd hC => go K C pd C' _ hK hpd hC (i1 e h K C [c] (C ++ (cs ++ cs3)) hK (Or.inr ⟨c, rfl, o3⟩) (by simp [List.append_assoc])), fun s' out h => ?_⟩
        obtain ⟨⟨j1, j2⟩, j3, j4⟩ := i2 s' out h
        exact ⟨⟨j1, by omega⟩, j3, fun K C pd C' r hK hpd hC hc => go K C pd C' r hK hpd hC (j4 K C [c] (C ++ (cs ++ cs3)) r hK (Or.inr ⟨c, rfl, o3⟩) (by simp [List.append_assoc]) hc)⟩
theorem mul_st (hn : n ≤ 1600) (hp : sPt T n kd dep pp) : sMut T n kd dep (pC pp (oMt T n)) := by
  intro s hs
  obtain ⟨p1, p2⟩ := hp s hs
  cases hq : pp s with
  | inl e0 =>
    have eC : pC pp (oMt T n) s = .inl e0 := by unfold pC; rw [hq]
    rw [eC]
    refine ⟨fun e h K C hK => ?_, fun s' out h => absurd h (by simp)⟩
    cases h
    exact p1 _ hq K C
  | inr y =>
    obtain ⟨s3, cs3⟩ := y
    have eC : pC pp (oMt T n) s = pL pp (oMt T n) 1600 s3 cs3 := by unfold pC; rw [hq]
    obtain ⟨⟨q1, q2⟩, q3⟩ := p2 _ _ hq
    have h0 := q1.1
    obtain ⟨i1, i2⟩ := mul_lt hp 1600 s3 cs3 q1 (by omega)
    rw [eC]
    refine ⟨fun e h K C hK => q3 K C _ (m_Et (fun x q e => (hK x q e).1) (i1 e h K C [] (C ++ cs3) hK (Or.inl rfl) (by simp))), fun s' out h => ?_⟩
    obtain ⟨⟨j1, j2⟩, j3, j4⟩ := i2 s' out h
    exact ⟨⟨j1, by omega⟩, j3, fun K C r hK hc => q3 K C _ (m_Et (fun x q e => (hK x q e).1) (j4 K C [] (C ++ cs3) r hK (Or.inl rfl) (by simp) hc))⟩
end ZPCt
section ZPDt
variable {T : Nat → Int} {n : Int} {kd : Nat} {dep : Int} {pp : zs → zR}
theorem add_lt (hp : sMut T n kd dep pp) : ∀ (m : Nat) (s : zs) (cs : List Int), sOk T n s → n - s.1 ≤ m → oMt T n s = none → (∀ e, pL pp (oAt T n) m s cs = .inl e → ∀ K C pd C', okAt K → pdAt pd → C' ++ pd = C ++ cs → mMt T n kd 2 s (pd ++ K) dep C' (.inl e)) ∧ (∀ s' out, pL pp (oAt T n) m s cs = .inr (s', out) → (sOk T n s' ∧ s.1 ≤ s'.1) ∧ (oMt T n s' = none ∧ oAt T n s' = none) ∧ ∀ K C pd C' r, okAt K → pdAt pd → C' ++ pd = C ++ cs → (∀ pd C', pdAt pd → C' ++ pd = C ++ out → mMt T n kd 2 s' (pd ++ K) dep C' r) → mMt T n kd 2 s (pd ++ K) dep C' r) := by
  intro m
  induction m with
  | zero =>
    intro s cs hs hm hM
    have none0 : oAt T n s = none := by
      cases ho : oAt T n s with
      | none => rfl
      | some x => obtain ⟨s2, c⟩ := x; have := (oA_somet ho).1; omega
    refine ⟨fun e h => absurd h (by simp [pL]), fun s' out h => ?_⟩
    have h' : (s, cs) = (s', out) := Sum.inr.inj h
    cases h'
    exact ⟨⟨hs, Int.le_refl _⟩, ⟨hM, none0⟩, fun K C pd C' r hK hpd e hc => hc pd C' hpd e⟩
  | succ m ih =>
    intro s cs hs hm hM
    cases ho : oAt T n s with
    | none =>
      have eL : pL pp (oAt T n) (m + 1) s cs = .inr (s, cs) := by unfold pL; rw [ho]
      rw [eL]
      refine ⟨fun e h => absurd h (by simp), fun s' out h => ?_⟩
      have h' : (s, cs) = (s', out) := Sum.inr.inj h
      cases h'
      exact ⟨⟨hs, Int.le_refl _⟩, ⟨hM, ho⟩, fun K C pd C' r hK hpd e hc => hc pd C' hpd e⟩
    | some x =>
      obtain ⟨s2, c⟩ := x
      obtain ⟨o1, o2, o3, o4⟩ := oA_somet ho
      subst o2
      have hs2 := aWd_ok hs
      have l2' : s.1 < (aWd T n s).1 := aWd_lt (by omega)
      obtain ⟨p1, p2⟩ := hp _ hs2
      have okc : ∀ K, okMt (c :: K) := fun K x r e => by
        have : c = x := by injection e
        subst this
        refine ⟨by omega, ?_⟩
        unfold fMt
        rw [decide_eq_false_iff_not]
        omega
      cases hq : pp (aWd T n s) with
      | inl e0 =>
        have eL : pL pp (oAt T n) (m + 1) s cs = .inl e0 := by unfold pL; rw [ho]; simp only [hq]
        rw [eL]
        refine ⟨fun e h K C pd C' hK hpd hC => ?_, fun s' out h => absurd h (by simp)⟩
        cases h
        obtain ⟨u1, u2⟩ := okA_pdt hK hpd
        refine m_addt o4 ?_
        rw [← o3]
        exact p1 _ hq _ _ (okc _)
      | inr y =>
        obtain ⟨s3, cs3⟩ := y
        have eL : pL pp (oAt T n) (m + 1) s cs = pL pp (oAt T n) m s3 (cs ++ cs3 ++ [c]) := by
          rw [show pL pp (oAt T n) (m + 1) s cs = (match oAt T n s with | none => .inr (s, cs) | some (s1, c) => match pp s1 with | .inl e => .inl e | .inr (s2, cs2) => pL pp (oAt T n) m s2 (cs ++ cs2 ++ [c])) from rfl, ho]
          simp only [hq]
        obtain ⟨⟨q1, q2⟩, q0, q3⟩ := p2 _ _ hq
        obtain ⟨i1, i2⟩ := ih s3 (cs ++ cs3 ++ [c]) q1 (by omega) q0
        have go : ∀ K C pd C' r, okAt K → pdAt pd → C' ++ pd = C ++ cs → (∀ pd1 C1, pdAt pd1 → C1 ++ pd1 = C ++ (cs ++ cs3 ++ [c]) → mMt T n kd 2 s3 (pd1 ++ K) dep C1 r) → mMt T n kd 2 s (pd ++ K) dep C' r := by
          intro K C pd C' r hK hpd hC hh
          obtain ⟨u1, u2⟩ := okA_pdt hK hpd
          refine m_addt o4 ?_
          rw [u1, u2, hC, ← o3]
          refine q3 _ _ _ (okc _) (fun pd1 C1 hpd1 hC1 => ?_)
          have := hh (pd1 ++ [c]) C1 ⟨pd1, [c], rfl, hpd1, Or.inr ⟨c, rfl, o3⟩⟩ (by rw [← List.append_assoc, hC1]; simp [List.append_assoc])
          rw [List.append_assoc] at this
          exact this
        rw [eL]
        refine ⟨fun e h K C pd C' hK hpd hC => go K C pd C' _ hK hpd hC (fun pd1 C1 h1 h2 => i1 e h K C pd1 C1 hK h1 h2), fun s' out h => ?_⟩
        obtain ⟨⟨j1, j2⟩, j3, j4⟩ := i2 s' out h
        exact ⟨⟨j1, by omega⟩, j3, fun K C pd C' r hK hpd hC hc => go K C pd C' r hK hpd hC (fun pd1 C1 h1 h2 => j4 K C pd1 C1 r hK h1 h2 hc)⟩
theorem okAt.Mt {K : List Int} (h : okAt K) : okMt K := fun x r e => by
  obtain ⟨a, b⟩ := h x r e
  refine ⟨a, ?_⟩
  unfold fAt at b
  unfold fMt
  rw [decide_eq_false_iff_not] at *
  omega
theorem pdMt.At {l : List Int} (h : pdMt l) : pdAt l := ⟨l, [], (List.append_nil l).symm, h, Or.inl rfl⟩
theorem add_st (hn : n ≤ 1600) (hp : sMut T n kd dep pp) : sAdt T n kd dep (pC pp (oAt T n)) := by
  intro s hs
  obtain ⟨p1, p2⟩ := hp s hs
  cases hq : pp s with
  | inl e0 =>
    have eC : pC pp (oAt T n) s = .inl e0 := by unfold pC; rw [hq]
    rw [eC]
    refine ⟨fun e h K C hK => ?_, fun s' out h => absurd h (by simp)⟩
    cases h
    exact p1 _ hq K C hK.Mt
  | inr y =>
    obtain ⟨s3, cs3⟩ := y
    have eC : pC pp (oAt T n) s = pL pp (oAt T n) 1600 s3 cs3 := by unfold pC; rw [hq]
    obtain ⟨⟨q1, q2⟩, q0, q3⟩ := p2 _ _ hq
    have h0 := q1.1
    obtain ⟨i1, i2⟩ := add_lt hp 1600 s3 cs3 q1 (by omega) q0
    rw [eC]
    refine ⟨fun e h K C hK => q3 K C _ hK.Mt (fun pd C' hpd hC => i1 e h K C pd C' hK hpd.At hC), fun s' out h => ?_⟩
    obtain ⟨⟨j1, j2⟩, j3, j4⟩ := i2 s' out h
    exact ⟨⟨j1, by omega⟩, j3, fun K C r hK hc => q3 K C _ hK.Mt (fun pd C' hpd hC => j4 K C pd C' r hK hpd.At hC hc)⟩
theorem sum_st (hn : n ≤ 1600) (hp : sPt T n kd dep pp) : sAdt T n kd dep (pTst T n pp) := add_st hn (mul_st hn hp)
end ZPDt
