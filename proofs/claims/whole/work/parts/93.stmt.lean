/-! STATEMENTS, pure -/
abbrev zX : Type := zD × zG × Int × Int
def nmL (T : Nat → Int) (s : zs) (k : Int) : Int := T (s.1 + k).toNat - 96
def nmN (T : Nat → Int) (n : Int) (s : zs) : Int := rn T n fL s.1 - s.1
def pRw (v : Int) : Int := ax_or (ax_or (ax_and (ax_shr v 2) 1) (ax_shl (ax_and (ax_shr v 1) 1) 1)) (ax_shl (ax_and v 1) 2)
def pRows (T : Nat → Int) (n : Int) : Nat → Int → Int → zs → Sum (Int × Int) (zs × Int)
  | 0, _, g, s => .inr (s, g)
  | m + 1, r, g, s => match pNum T n s 7 with
    | .inl e => .inl e
    | .inr (s1, v) => pRows T n m (r + 1) (ax_or g (ax_shl (pRw v) (3 * r))) s1
def pAllT (D : zD) (sd : Int → Int) : Nat → Int → Int
  | 0, _ => 1
  | m + 1, k => if pf_at D 0 (sd k) = -1 then 0 else pAllT D sd m (k + 1)
def pLet (T : Nat → Int) (n : Int) (D : zD) (s : zs) : Sum (Int × Int) (zs × zD) := match pName T n s 1 with
  | .inl e => .inl e
  | .inr s1 => if wd T n s1 = 2 then (match pNum T n (aWd T n s1) 1 with
    | .inl e => .inl e
    | .inr (s3, h) => if D 0 h 0 = 12 then .inl (5, (aWd T n s1).1) else if pf_at D h (nmL T s 0) = -1 then (if wd T n s3 = 3 then (match pRows T n 5 0 0 (aWd T n s3) with
      | .inl e => .inl e
      | .inr (s4, g) => .inr (s4, dLet D h (nmL T s 0) g)) else .inl (1, s3.1)) else .inl (2, (aWd T n s1).1)) else .inl (1, s1.1)
def pFw (T : Nat → Int) (n : Int) (D : zD) (s : zs) : Int := pf_fw D (nmL T s) (nmN T n s) (D 3 0 0).toNat 0
def pWrd (T : Nat → Int) (n : Int) (D : zD) (s : zs) (b : Int) : Sum (Int × Int) (zs × zD) := if D 3 0 0 = 8 then .inl (5, b) else match pName T n s 6 with
  | .inl e => .inl e
  | .inr s1 => if pFw T n D s = -1 ∧ pAllT D (nmL T s) (nmN T n s).toNat 0 = 1 then .inr (s1, dWrd D (nmL T s) (nmN T n s)) else .inl (3, s.1)
def pBrd (T : Nat → Int) (n : Int) (D : zD) (s : zs) (b : Int) : Sum (Int × Int) (zs × zD) := if D 6 0 0 = 4 then .inl (5, b) else match pName T n s 6 with
  | .inl e => .inl e
  | .inr s1 => if pFw T n D s = -1 then .inl (3, s.1) else if wd T n s1 = 2 then (match pNum T n (aWd T n s1) 1 with
    | .inl e => .inl e
    | .inr (s3, h) => if pf_canPaint D (pFw T n D s) h = 1 then .inr (s3, dBrd D (pFw T n D s) h) else .inl (2, (aWd T n s1).1)) else .inl (1, s1.1)
def pSet (T : Nat → Int) (n : Int) (D : zD) (s : zs) (k most : Int) : Sum (Int × Int) (zs × zD) := match pNum T n s most with
  | .inl e => .inl e
  | .inr (s1, v) => .inr (s1, dRul D k v)
def pLift (X : zX) (r : Sum (Int × Int) (zs × zD)) : Sum (Int × Int) (zs × zX) := match r with
  | .inl e => .inl e
  | .inr (s, D) => .inr (s, D, X.2)
def pStm (T : Nat → Int) (n : Int) (X : zX) (s : zs) : Sum (Int × Int) (zs × zX) :=
  if wd T n s = 0 then pLift X (pLet T n X.1 (aWd T n s))
  else if wd T n s = 4 then pLift X (pWrd T n X.1 (aWd T n s) s.1)
  else if wd T n s = 5 then pLift X (pBrd T n X.1 (aWd T n s) s.1)
  else if wd T n s = 6 then (if X.2.2.1 = 0 then (match pSum T n (pPart T n 0 6) (aWd T n s) with
    | .inl e => .inl e
    | .inr (s1, cs) => .inr (s1, X.1, gPut X.2.1 0 cs, 1, X.2.2.2)) else .inl (5, s.1))
  else if wd T n s = 21 then (if X.2.2.2 = 0 then (match pTst T n (pFact T n 1 6) (aWd T n s) with
    | .inl e => .inl e
    | .inr (s1, cs) => .inr (s1, X.1, gPut X.2.1 1 cs, X.2.2.1, 1)) else .inl (5, s.1))
  else if wd T n s = 26 then pLift X (pSet T n X.1 (aWd T n s) 0 99)
  else if wd T n s = 28 then pLift X (pSet T n X.1 (aWd T n s) 1 99)
  else if wd T n s = 27 then pLift X (pSet T n X.1 (aWd T n s) 2 100)
  else .inl (1, s.1)
def pShp (T : Nat → Int) (n : Int) : Nat → Int → zX → zs → Sum (Int × Int) (Int × zX)
  | 0, c, X, s => if s.1 = n then .inr (c, X) else .inl (5, s.1)
  | m + 1, c, X, s => if s.1 = n then .inr (c, X) else match pStm T n X s with
    | .inl e => .inl e
    | .inr (s1, X1) => if lc T n s1.1 = 59 then pShp T n m (c + 1) X1 (aS T n s1) else .inl (1, s1.1)
/-- what is told is as it may be -/
def xOk (X : zX) : Prop := zD_ok X.1 X.2.1 ∧ bOk X.1 ∧ (X.2.2.1 = 0 ∨ X.2.2.1 = 1) ∧ (X.2.2.2 = 0 ∨ X.2.2.2 = 1) ∧ (X.2.2.1 = 0 → X.2.1 0 = pf_dd) ∧ (X.2.2.2 = 0 → X.2.1 1 = []) ∧ (X.2.2.1 = 1 → X.2.1 0 ≠ []) ∧ (X.2.2.2 = 1 → X.2.1 1 ≠ [])
def xNew : zX := (dNew, gNew, 0, 0)
theorem xNew_ok : xOk xNew := ⟨dNew_ok, dNew_b, Or.inl rfl, Or.inl rfl, fun _ => rfl, fun _ => rfl, fun h => absurd h (by decide), fun h => absurd h (by decide)⟩
theorem pRw_t : ∀ v : Nat, v < 8 → (0 ≤ pRw (v : Int) ∧ pRw (v : Int) < 8) ∧ ax_or (ax_or (ax_and (ax_shr (v : Int) 2) 1) (ax_and (v : Int) 2)) (ax_shl (ax_and (v : Int) 1) 2) = pRw (v : Int) := by decide +kernel
theorem pRw_in {v : Int} (h : 0 ≤ v ∧ v ≤ 7) : (0 ≤ pRw v ∧ pRw v < 8) ∧ ax_or (ax_or (ax_and (ax_shr v 2) 1) (ax_and v 2)) (ax_shl (ax_and v 1) 2) = pRw v := by
  obtain ⟨x, rfl⟩ := Int.eq_ofNat_of_zero_le h.1
  exact pRw_t x (by omega)
theorem shl3_t : ∀ v : Nat, v < 8 → ∀ r : Nat, r < 5 → 0 ≤ ax_shl (v : Int) (3 * (r : Int)) ∧ ax_shl (v : Int) (3 * (r : Int)) < 32768 := by decide +kernel
theorem shl3 {v r : Int} (hv : 0 ≤ v ∧ v < 8) (hr : 0 ≤ r ∧ r < 5) : g15 (ax_shl v (3 * r)) := by
  obtain ⟨x, rfl⟩ := Int.eq_ofNat_of_zero_le hv.1
  obtain ⟨y, rfl⟩ := Int.eq_ofNat_of_zero_le hr.1
  exact shl3_t x (by omega) y (by omega)
section ZST
variable {T : Nat → Int} {n : Int} {s : zs} {D : zD} {pg : zG}
theorem pNum_i {most : Int} {s' : zs} {v : Int} (hs : sOk T n s) (e : pNum T n s most = .inr (s', v)) : sOk T n s' ∧ s.1 < s'.1 ∧ (0 ≤ v ∧ v ≤ 9999) ∧ v ≤ most := by
  have h0 := pNum_v hs e
  unfold pNum at e
  by_cases c : (s.1 < n ∧ fN (T s.1.toNat) = true) ∧ s.1 ≠ s.2
  · rw [if_pos c] at e
    by_cases c2 : 4 < rn T n fN s.1 - s.1
    · rw [if_pos c2] at e; cases e
    · rw [if_neg c2] at e
      by_cases c3 : most < lnv T (rn T n fN s.1 - s.1).toNat s.1 0
      · rw [if_pos c3] at e; cases e
      · rw [if_neg c3] at e
        have e' := Sum.inr.inj e
        have e1 : aW T n (rn T n fN s.1) = s' := congrArg Prod.fst e'
        have e2 : lnv T (rn T n fN s.1 - s.1).toNat s.1 0 = v := congrArg Prod.snd e'
        have r1 := rn_in c.1.1 c.1.2
        have r2 := rn_le T n fN (s.1 + 1)
        have r3 : rn T n fN s.1 ≤ n := rn_n hs.1.2
        have r4 := rn_le T n fB (rn T n fN s.1)
        refine ⟨by rw [← e1]; exact aW_ok hs ⟨by omega, r3⟩, ?_, h0, by omega⟩
        rw [← e1]
        show s.1 < rn T n fB (rn T n fN s.1)
        omega
  · rw [if_neg c] at e; cases e
theorem pName_i {most : Int} {s' : zs} (hs : sOk T n s) (e : pName T n s most = .inr s') : sOk T n s' ∧ s.1 < s'.1 ∧ s' = aWd T n s ∧ (1 ≤ nmN T n s ∧ nmN T n s ≤ most) ∧ (∀ k, 0 ≤ k → k < nmN T n s → 1 ≤ nmL T s k ∧ nmL T s k ≤ 26) := by
  unfold pName at e
  by_cases c : ((s.1 < n ∧ fL (T s.1.toNat) = true) ∧ s.1 ≠ s.2) ∧ ¬ own T n s
  · have c' : (s.1 < n ∧ fL (T s.1.toNat) = true) ∧ s.1 ≠ s.2 ∧ ¬ own T n s := ⟨c.1.1, c.1.2, c.2⟩
    first | rw [if_pos c] at e | rw [if_pos c'] at e
    by_cases c2 : most < rn T n fL s.1 - s.1
    · rw [if_pos c2] at e; cases e
    · rw [if_neg c2] at e
      have e1 : aWd T n s = s' := Sum.inr.inj e
      have r1 := rn_in c'.1.1 c'.1.2
      have r2 := rn_le T n fL (s.1 + 1)
      have r3 : rn T n fL s.1 ≤ n := rn_n hs.1.2
      have r4 := rn_le T n fB (rn T n fL s.1)
      refine ⟨by rw [← e1]; exact aWd_ok hs, ?_, e1.symm, ⟨by unfold nmN; omega, by unfold nmN; omega⟩, fun k k0 k1 => ?_⟩
      · rw [← e1]
        show s.1 < rn T n fB (rn T n fL s.1)
        omega
      · unfold nmN at k1
        have := of_decide_eq_true (rn_all (T := T) (n := n) (f := fL) (q := s.1) (j := s.1 + k) (by omega) (by omega)).2
        unfold nmL
        omega
  · have c' : ¬ ((s.1 < n ∧ fL (T s.1.toNat) = true) ∧ s.1 ≠ s.2 ∧ ¬ own T n s) := fun z => c ⟨⟨z.1, z.2.1⟩, z.2.2⟩
    first | rw [if_neg c] at e | rw [if_neg c'] at e
    cases e
theorem pRows_i : ∀ (m : Nat) (r g : Int) (s s' : zs) (g' : Int), sOk T n s → 0 ≤ r → r + m = 5 → g15 g → pRows T n m r g s = .inr (s', g') → sOk T n s' ∧ s.1 ≤ s'.1 ∧ g15 g' := by
  intro m
  induction m with
  | zero =>
    intro r g s s' g' hs _ _ hg e
    have e' := Sum.inr.inj (show (Sum.inr (s, g) : Sum (Int × Int) (zs × Int)) = .inr (s', g') from e)
    have e1 : s = s' := congrArg Prod.fst e'
    have e2 : g = g' := congrArg Prod.snd e'
    rw [← e1, ← e2]
    exact ⟨hs, Int.le_refl _, hg⟩
  | succ m ih =>
    intro r g s s' g' hs h0 hm hg e
    unfold pRows at e
    cases hp : pNum T n s 7 with
    | inl x => rw [hp] at e; cases e
    | inr x =>
      rw [hp] at e
      obtain ⟨x1, x2⟩ := x
      obtain ⟨a, b, c, f⟩ := pNum_i hs hp
      obtain ⟨a2, b2, c2⟩ := ih (r + 1) _ x1 s' g' a (by omega) (by omega) (g15_or hg (shl3 (pRw_in ⟨c.1, f⟩).1 ⟨h0, by omega⟩)) e
      exact ⟨a2, by omega, c2⟩
theorem pAllT_1 {sd : Int → Int} : ∀ (m : Nat) (k : Int), pAllT D sd m k = 1 ↔ ∀ j, k ≤ j → j < k + m → pf_at D 0 (sd j) ≠ -1 := by
  intro m
  induction m with
  | zero => intro k; exact ⟨fun _ j a b => by omega, fun _ => rfl⟩
  | succ m ih =>
    intro k
    unfold pAllT
    by_cases c : pf_at D 0 (sd k) = -1
    · rw [if_pos c]
      exact ⟨fun z => absurd z (by decide), fun z => absurd c (z k (by omega) (by omega))⟩
    · rw [if_neg c, ih (k + 1)]
      constructor
      · intro z j a b
        by_cases q : j = k
        · rw [q]; exact c
        · exact z j (by omega) (by omega)
      · intro z j a b; exact z j (by omega) (by omega)
theorem fw_in {sd : Int → Int} {m : Int} : ∀ (k : Nat) (v : Int), pf_fw D sd m k v = -1 ∨ (v ≤ pf_fw D sd m k v ∧ pf_fw D sd m k v < v + k) := by
  intro k
  induction k with
  | zero => intro v; exact Or.inl rfl
  | succ k ih =>
    intro v
    unfold pf_fw
    split
    · exact Or.inr ⟨by omega, by omega⟩
    · rcases ih (v + 1) with h | ⟨h1, h2⟩
      · exact Or.inl h
      · exact Or.inr ⟨by omega, by omega⟩
theorem pFw_in (ok : zD_ok D pg) : pFw T n D s = -1 ∨ (0 ≤ pFw T n D s ∧ pFw T n D s < D 3 0 0) := by
  have h3 := ok.a3 0 0
  rcases fw_in (D := D) (sd := nmL T s) (m := nmN T n s) (D 3 0 0).toNat 0 with h | ⟨h1, h2⟩
  · exact Or.inl h
  · exact Or.inr ⟨h1, by unfold pFw; omega⟩
end ZST
