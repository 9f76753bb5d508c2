/-! TEXTS, pure: a place is (p, g): the token begins at p; at g ended the last word or number -/
abbrev zs : Type := Int × Int
def fL (c : Int) : Bool := decide (97 ≤ c ∧ c ≤ 122)
def fN (c : Int) : Bool := decide (48 ≤ c ∧ c ≤ 57)
def fB (c : Int) : Bool := decide (c = 10 ∨ c = 32)
/-- from q on while f -/
def lrun (T : Nat → Int) (n : Int) (f : Int → Bool) : Nat → Int → Int
  | 0, q => q
  | m + 1, q => if q < n ∧ f (T q.toNat) = true then lrun T n f m (q + 1) else q
def rn (T : Nat → Int) (n : Int) (f : Int → Bool) (q : Int) : Int := lrun T n f (n - q).toNat q
theorem rn_in {T : Nat → Int} {n : Int} {f : Int → Bool} {q : Int} (h1 : q < n) (h2 : f (T q.toNat) = true) : rn T n f q = rn T n f (q + 1) := by
  unfold rn
  rw [show (n - q).toNat = (n - (q + 1)).toNat + 1 by omega]
  unfold lrun
  rw [if_pos ⟨h1, h2⟩]
  cases (n - (q + 1)).toNat <;> rfl
theorem rn_out {T : Nat → Int} {n : Int} {f : Int → Bool} {q : Int} (h : ¬ (q < n ∧ f (T q.toNat) = true)) : rn T n f q = q := by
  unfold rn
  cases (n - q).toNat with
  | zero => rfl
  | succ m => unfold lrun; rw [if_neg h]
theorem rn_ge {T : Nat → Int} {n : Int} {f : Int → Bool} : ∀ (m : Nat) (q : Int), (n - q).toNat = m → q ≤ rn T n f q ∧ (q ≤ n → rn T n f q ≤ n) ∧ ¬ (rn T n f q < n ∧ f (T (rn T n f q).toNat) = true) ∧ ∀ j, q ≤ j → j < rn T n f q → j < n ∧ f (T j.toNat) = true := by
  intro m
  induction m with
  | zero =>
    intro q hq
    have : ¬ (q < n ∧ f (T q.toNat) = true) := by omega
    rw [rn_out this]
    exact ⟨Int.le_refl _, fun h => h, this, fun j a b => by omega⟩
  | succ m ih =>
    intro q hq
    by_cases c : q < n ∧ f (T q.toNat) = true
    · rw [rn_in c.1 c.2]
      obtain ⟨a, b, e, g⟩ := ih (q + 1) (by omega)
      refine ⟨by omega, fun _ => b (by omega), e, fun j j1 j2 => ?_⟩
      by_cases ej : j = q
      · rw [ej]; exact c
      · exact g j (by omega) j2
    · rw [rn_out c]
      exact ⟨Int.le_refl _, fun h => h, c, fun j a b => by omega⟩
theorem rn_le (T : Nat → Int) (n : Int) (f : Int → Bool) (q : Int) : q ≤ rn T n f q := (rn_ge _ q rfl).1
theorem rn_n {T : Nat → Int} {n : Int} {f : Int → Bool} {q : Int} (h : q ≤ n) : rn T n f q ≤ n := (rn_ge _ q rfl).2.1 h
theorem rn_stop (T : Nat → Int) (n : Int) (f : Int → Bool) (q : Int) : ¬ (rn T n f q < n ∧ f (T (rn T n f q).toNat) = true) := (rn_ge _ q rfl).2.2.1
theorem rn_all {T : Nat → Int} {n : Int} {f : Int → Bool} {q j : Int} (h1 : q ≤ j) (h2 : j < rn T n f q) : j < n ∧ f (T j.toNat) = true := (rn_ge _ q rfl).2.2.2 j h1 h2
/-- behind blanks -/
abbrev sk (T : Nat → Int) (n q : Int) : Int := rn T n fB q
theorem sk_sk (T : Nat → Int) (n q : Int) : sk T n (sk T n q) = sk T n q := rn_out (rn_stop T n fB q)
/-- the word of that number is spelled from p on -/
def lwm (T : Nat → Int) (ks : Nat) (p : Int) : Nat → Nat → Bool
  | 0, _ => true
  | m + 1, j => if T (p + (j : Int)).toNat = ax_sc ks j then lwm T ks p m (j + 1) else false
theorem lwm_all {T : Nat → Int} {ks : Nat} {p : Int} : ∀ (m j : Nat), lwm T ks p m j = true → ∀ i, j ≤ i → i < j + m → T (p + (i : Int)).toNat = ax_sc ks i := by
  intro m
  induction m with
  | zero => intro j _ i a b; omega
  | succ m ih =>
    intro j h i a b
    unfold lwm at h
    by_cases c : T (p + (j : Int)).toNat = ax_sc ks j
    · rw [if_pos c] at h
      by_cases e : i = j
      · rw [e]; exact c
      · exact ih (j + 1) h i (by omega) (by omega)
    · rw [if_neg c] at h
      exact absurd h (by decide)
def isW (T : Nat → Int) (n : Int) (s : zs) (ks : Nat) : Bool := decide ((s.1 < n ∧ fL (T s.1.toNat) = true) ∧ s.1 ≠ s.2 ∧ rn T n fL s.1 = s.1 + (ax_sl ks : Nat)) && lwm T ks s.1 (ax_sl ks) 0
def wAll : List Nat := [0, 2, 3, 4, 5, 6, 7, 8, 9, 10, 11, 12, 13, 14, 15, 16, 17, 18, 19, 20, 21, 22, 23, 24, 25, 26, 27, 28, 29, 30, 31, 32, 33, 34]
def wf (P : Nat → Bool) : List Nat → Int
  | [] => -1
  | k :: r => if P k = true then (k : Int) else wf P r
/-- which word is here; -1 for none -/
def wd (T : Nat → Int) (n : Int) (s : zs) : Int := wf (isW T n s) wAll
theorem wf_in (P : Nat → Bool) : ∀ (l : List Nat), (wf P l = -1 ∧ ∀ k, k ∈ l → P k = false) ∨ ∃ k, k ∈ l ∧ wf P l = (k : Int) ∧ P k = true := by
  intro l
  induction l with
  | nil => exact Or.inl ⟨rfl, fun k h => absurd h (by simp)⟩
  | cons x r ih =>
    unfold wf
    by_cases c : P x = true
    · rw [if_pos c]
      exact Or.inr ⟨x, by simp, rfl, c⟩
    · rw [if_neg c]
      rcases ih with ⟨a, b⟩ | ⟨k, a, b, e⟩
      · refine Or.inl ⟨a, fun k hk => ?_⟩
        rcases List.mem_cons.mp hk with rfl | hk
        · exact Bool.eq_false_iff.mpr c
        · exact b k hk
      · exact Or.inr ⟨k, List.mem_cons_of_mem _ a, b, e⟩
theorem isW_uni {T : Nat → Int} {n : Int} {s : zs} {a b : Nat} (ha : isW T n s a = true) (hb : isW T n s b = true) : ax_sl a = ax_sl b ∧ ∀ i, i < ax_sl a → ax_sc a i = ax_sc b i := by
  unfold isW at ha hb
  rw [Bool.and_eq_true, decide_eq_true_eq] at ha hb
  have e : ax_sl a = ax_sl b := by omega
  refine ⟨e, fun i hi => ?_⟩
  rw [← lwm_all _ _ ha.2 i (by omega) (by omega), ← lwm_all _ _ hb.2 i (by omega) (by omega)]
def wEq (a b : Nat) : Bool := decide (ax_sl a = ax_sl b) && (List.range (ax_sl a)).all (fun i => decide (ax_sc a i = ax_sc b i))
theorem wEq_dist : wAll.all (fun a => wAll.all (fun b => decide (a = b) || !(wEq a b))) = true := by decide +kernel
theorem isW_one {T : Nat → Int} {n : Int} {s : zs} {a b : Nat} (ma : a ∈ wAll) (mb : b ∈ wAll) (ha : isW T n s a = true) (hb : isW T n s b = true) : a = b := by
  obtain ⟨h1, h2⟩ := isW_uni ha hb
  have := List.all_eq_true.mp wEq_dist a ma
  have := List.all_eq_true.mp this b mb
  rw [Bool.or_eq_true] at this
  rcases this with h | h
  · exact of_decide_eq_true h
  · have e : wEq a b = true := by
      unfold wEq
      rw [Bool.and_eq_true, decide_eq_true_eq]
      refine ⟨h1, List.all_eq_true.mpr (fun i hi => ?_)⟩
      rw [decide_eq_true_eq]
      exact h2 i (List.mem_range.mp hi)
    rw [e] at h
    exact absurd h (by decide)
theorem isW_wd {T : Nat → Int} {n : Int} {s : zs} {k : Nat} (mk : k ∈ wAll) : isW T n s k = decide (wd T n s = (k : Int)) := by
  rcases wf_in (isW T n s) wAll with ⟨a, b⟩ | ⟨k', a, b, e⟩
  · rw [b k mk]
    symm
    rw [decide_eq_false_iff_not]
    unfold wd
    omega
  · by_cases c : isW T n s k = true
    · have := isW_one mk a c e
      rw [c]
      symm
      rw [decide_eq_true_eq]
      unfold wd
      omega
    · rw [Bool.eq_false_iff.mpr c]
      symm
      rw [decide_eq_false_iff_not]
      intro h
      unfold wd at h
      have : k' = k := by omega
      rw [this] at e
      exact c e
theorem wd_in (T : Nat → Int) (n : Int) (s : zs) : -1 ≤ wd T n s ∧ wd T n s ≤ 34 := by
  rcases wf_in (isW T n s) wAll with ⟨a, _⟩ | ⟨k, a, b, _⟩
  · unfold wd; omega
  · have : ∀ k, k ∈ wAll → k ≤ 34 := by decide
    have := this k a
    unfold wd
    omega
/-- the kind and the size of the token; what is behind it -/
def lc (T : Nat → Int) (n p : Int) : Int := if p < n then T p.toNat else -1
def tk (T : Nat → Int) (n : Int) (s : zs) : Int := if s.1 < n then (if fL (T s.1.toNat) = true then (if s.1 = s.2 then 4 else 1) else if fN (T s.1.toNat) = true then (if s.1 = s.2 then 4 else 2) else 3) else 0
def te (T : Nat → Int) (n : Int) (s : zs) : Int := if s.1 < n then (if fL (T s.1.toNat) = true then rn T n fL s.1 else if fN (T s.1.toNat) = true then rn T n fN s.1 else s.1 + 1) else s.1
/-- behind a word or a number that ends at q; behind a sign -/
def aW (T : Nat → Int) (n q : Int) : zs := (sk T n q, q)
def aS (T : Nat → Int) (n : Int) (s : zs) : zs := (sk T n (s.1 + 1), s.2)
/-- what a place keeps -/
def sOk (T : Nat → Int) (n : Int) (s : zs) : Prop := (0 ≤ s.1 ∧ s.1 ≤ n) ∧ (-1 ≤ s.2 ∧ s.2 ≤ s.1) ∧ sk T n s.1 = s.1 ∧ (0 ≤ n ∧ n ≤ 1600) ∧ ∀ j : Nat, (j : Int) < n → 0 ≤ T j ∧ T j ≤ 255
theorem aW_ok {T : Nat → Int} {n q : Int} {s : zs} (h : sOk T n s) (hq : s.1 ≤ q ∧ q ≤ n) : sOk T n (aW T n q) := by
  have h1 := rn_le T n fB q
  have h2 := rn_n (T := T) (f := fB) hq.2
  have h0 := h.1
  exact ⟨⟨by show 0 ≤ rn T n fB q; omega, h2⟩, ⟨by show -1 ≤ q; omega, h1⟩, sk_sk T n q, h.2.2.2⟩
theorem aS_ok {T : Nat → Int} {n : Int} {s : zs} (h : sOk T n s) (hq : s.1 < n) : sOk T n (aS T n s) := by
  have h1 := rn_le T n fB (s.1 + 1)
  have h2 := rn_n (T := T) (f := fB) (show s.1 + 1 ≤ n by omega)
  have h0 := h.1
  have h3 := h.2.1
  exact ⟨⟨by show 0 ≤ rn T n fB (s.1 + 1); omega, h2⟩, ⟨h3.1, by show s.2 ≤ rn T n fB (s.1 + 1); omega⟩, sk_sk T n _, h.2.2.2⟩
theorem lc_lt {T : Nat → Int} {n p c : Int} (h : lc T n p = c) (hc : c ≠ -1) : p < n ∧ T p.toNat = c := by
  unfold lc at h
  split at h
  · exact ⟨by assumption, h⟩
  · exact absurd h.symm hc
