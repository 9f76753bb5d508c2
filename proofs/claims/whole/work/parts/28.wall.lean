/-! THE WALL: W 0 0 0 the year; of board b W 1 b 0 its word, W 2 b 0 its hand, W 3 b k its glyphs; W 4 0 0 how many are kept, W 5 k c what -/
def wu (W : zD) (i : Nat) (a b v : Int) : zD := fun i' a' b' => if i' = i ∧ a' = a ∧ b' = b then v else W i' a' b'
theorem wu_eq {W : zD} {i : Nat} {a b v : Int} : wu W i a b v i a b = v := if_pos ⟨rfl, rfl, rfl⟩
theorem wu_ne {W : zD} {i i' : Nat} {a b v a' b' : Int} (h : ¬ (i' = i ∧ a' = a ∧ b' = b)) : wu W i a b v i' a' b' = W i' a' b' := if_neg h
def wOk (D : zD) (W : zD) : Prop :=
  (0 ≤ W 0 0 0 ∧ W 0 0 0 ≤ 999) ∧ (∀ b, 0 ≤ b → b < D 6 0 0 → (0 ≤ W 1 b 0 ∧ W 1 b 0 < D 3 0 0) ∧ (0 ≤ W 2 b 0 ∧ W 2 b 0 < 2) ∧ pf_canPaint D (W 1 b 0) (W 2 b 0) = 1) ∧ (∀ b k, g15 (W 3 b k)) ∧
  (0 ≤ W 4 0 0 ∧ W 4 0 0 ≤ 40) ∧ (∀ k, (0 ≤ W 5 k 0 ∧ W 5 k 0 ≤ 999) ∧ (0 ≤ W 5 k 1 ∧ W 5 k 1 < 8) ∧ (0 ≤ W 5 k 2 ∧ W 5 k 2 < 8)) ∧ (∀ b, D 6 0 0 ≤ b → b < 4 → W 1 b 0 = 0 ∧ W 2 b 0 = 0 ∧ ∀ k, W 3 b k = 0)
theorem wOk.y {D W : zD} (h : wOk D W) : 0 ≤ W 0 0 0 ∧ W 0 0 0 ≤ 999 := h.1
theorem wOk.w {D W : zD} (h : wOk D W) {b : Int} (hb : 0 ≤ b ∧ b < D 6 0 0) : 0 ≤ W 1 b 0 ∧ W 1 b 0 < D 3 0 0 := (h.2.1 b hb.1 hb.2).1
theorem wOk.h {D W : zD} (h : wOk D W) {b : Int} (hb : 0 ≤ b ∧ b < D 6 0 0) : 0 ≤ W 2 b 0 ∧ W 2 b 0 < 2 := (h.2.1 b hb.1 hb.2).2.1
theorem wOk.c {D W : zD} (h : wOk D W) {b : Int} (hb : 0 ≤ b ∧ b < D 6 0 0) : pf_canPaint D (W 1 b 0) (W 2 b 0) = 1 := (h.2.1 b hb.1 hb.2).2.2
theorem wOk.g {D W : zD} (h : wOk D W) (b k : Int) : g15 (W 3 b k) := h.2.2.1 b k
theorem wOk.n {D W : zD} (h : wOk D W) : 0 ≤ W 4 0 0 ∧ W 4 0 0 ≤ 40 := h.2.2.2.1
theorem wOk.k {D W : zD} (h : wOk D W) (k : Int) : (0 ≤ W 5 k 0 ∧ W 5 k 0 ≤ 999) ∧ (0 ≤ W 5 k 1 ∧ W 5 k 1 < 8) ∧ (0 ≤ W 5 k 2 ∧ W 5 k 2 < 8) := h.2.2.2.2.1 k
theorem wOk.z {D W : zD} (h : wOk D W) {b : Int} (h1 : D 6 0 0 ≤ b) (h2 : b < 4) : W 1 b 0 = 0 ∧ W 2 b 0 = 0 ∧ ∀ k, W 3 b k = 0 := h.2.2.2.2.2 b h1 h2
/-- the row as the reference has it -/
def rowR (W : zD) (f : Nat → Int) : Prop := f 0 = W 0 0 0 ∧ (∀ b : Int, 0 ≤ b → b < 4 → f (1 + 8 * b).toNat = W 1 b 0 ∧ f (2 + 8 * b).toNat = W 2 b 0) ∧ (∀ b k : Int, 0 ≤ b → b < 4 → 0 ≤ k → k < 6 → f (3 + 8 * b + k).toNat = W 3 b k) ∧ f 33 = W 4 0 0 ∧ (∀ k c : Int, 0 ≤ k → k < W 4 0 0 → 0 ≤ c → c < 3 → f (34 + 3 * k + c).toNat = W 5 k c)
/-- the row as the class has it -/
def rowC (W : zD) (f : Nat → Int) : Prop := f 0 = W 0 0 0 ∧ (∀ b : Int, 0 ≤ b → b < 4 → f (42 + b * 8).toNat = W 1 b 0 ∧ f (42 + b * 8 + 1).toNat = W 2 b 0) ∧ (∀ b k : Int, 0 ≤ b → b < 4 → 0 ≤ k → k < 6 → f (42 + b * 8 + 2 + k).toNat = W 3 b k) ∧ f 1 = W 4 0 0 ∧ (∀ k : Int, 0 ≤ k → k < W 4 0 0 → f (2 + k).toNat = W 5 k 0 * 64 + W 5 k 1 * 8 + W 5 k 2)
def pf_rainTo (D : zD) (pg : zG) (W : zD) (B K : Int) : zD := fun i a b => if i = 3 ∧ (0 ≤ a ∧ (a < B ∨ (a = B ∧ b < K))) ∧ (0 ≤ b ∧ b < D 4 (W 1 a 0) 0) then pf_wash pg (W 3 a b) b (W 0 0 0) else W i a b
def pf_rain (D : zD) (pg : zG) (W : zD) : zD := pf_rainTo D pg W (D 6 0 0) 0
def pf_lostK (pg : zG) (W : zD) (b : Int) : Nat → Int → Int → Int
  | 0, _, l => l
  | n + 1, k, l => pf_lostK pg W b n (k + 1) (l + (pf_bits (W 3 b k) - pf_bits (pf_wash pg (W 3 b k) k (W 0 0 0))))
def pf_lostB (D : zD) (pg : zG) (W : zD) : Nat → Int → Int → Int
  | 0, _, l => l
  | n + 1, b, l => pf_lostB D pg W n (b + 1) (pf_lostK pg W b (D 4 (W 1 b 0) 0).toNat 0 l)
def pf_said (D : zD) (pg : zG) (W : zD) (b k : Int) : Int := pf_read D pg (W 2 b 0) (W 3 b k)
def pf_any (f g : Int → Int) : Nat → Int → Int → Int
  | 0, _, a => a
  | n + 1, k, a => pf_any f g n (k + 1) (if a = 0 ∧ f k = g k then 0 else 1)
def pf_zer (f : Int → Int) : Nat → Int → Int → Int
  | 0, _, a => a
  | n + 1, k, a => pf_zer f n (k + 1) (if f k = 0 then a + 1 else a)
def pf_ent (W : zD) (b s c : Int) : Int := if c = 0 then W 0 0 0 else if c = 1 then b else s
def pf_keep (W : zD) (b s : Int) : zD := fun i a c =>
  if i = 4 then (if W 4 0 0 = 40 then 40 else W 4 0 0 + 1)
  else if i = 5 then (if W 4 0 0 = 40 then (if a = 39 then pf_ent W b s c else W 5 (a + 1) c) else (if a = W 4 0 0 then pf_ent W b s c else W 5 a c))
  else W i a c
def pf_kb (D : zD) (pg : zG) (W0 W : zD) (b : Int) : zD :=
  if pf_any (pf_said D pg W b) (pf_said D pg W0 b) (D 4 (W 1 b 0) 0).toNat 0 0 = 0 then W else pf_keep W b (pf_zer (pf_said D pg W b) (D 4 (W 1 b 0) 0).toNat 0 0)
def pf_kall (D : zD) (pg : zG) (W0 : zD) : Nat → Int → zD → zD
  | 0, _, W => W
  | n + 1, b, W => pf_kall D pg W0 n (b + 1) (pf_kb D pg W0 W b)
def pf_year (D : zD) (pg : zG) (W0 W : zD) : zD := wu (pf_kall D pg W0 (D 6 0 0).toNat 0 (pf_rain D pg W)) 0 0 0 (W 0 0 0 + 1)
def pf_yearT (D : zD) (pg : zG) (W : zD) : zD := wu (pf_rain D pg W) 0 0 0 (W 0 0 0 + 1)
theorem pf_rainTo_o {D : zD} {pg : zG} {W : zD} {B K : Int} {i : Nat} (h : i ≠ 3) (a b : Int) : pf_rainTo D pg W B K i a b = W i a b := if_neg (fun q => h q.1)
theorem pf_rain_o {D : zD} {pg : zG} {W : zD} {i : Nat} (h : i ≠ 3) (a b : Int) : pf_rain D pg W i a b = W i a b := pf_rainTo_o h a b
theorem pf_keep_o {W : zD} {b s : Int} {i : Nat} (h : i ≠ 4) (h2 : i ≠ 5) (a c : Int) : pf_keep W b s i a c = W i a c := by
  unfold pf_keep
  rw [if_neg h, if_neg h2]
theorem pf_kb_o {D : zD} {pg : zG} {W0 W : zD} {b : Int} {i : Nat} (h : i ≠ 4) (h2 : i ≠ 5) (a c : Int) : pf_kb D pg W0 W b i a c = W i a c := by
  unfold pf_kb
  split
  · rfl
  · exact pf_keep_o h h2 a c
theorem pf_kall_o {D : zD} {pg : zG} {W0 : zD} {i : Nat} (h : i ≠ 4) (h2 : i ≠ 5) : ∀ (n : Nat) (b : Int) (W : zD) (a c : Int), pf_kall D pg W0 n b W i a c = W i a c := by
  intro n
  induction n with
  | zero => intro b W a c; rfl
  | succ n ih =>
    intro b W a c
    unfold pf_kall
    rw [ih, pf_kb_o h h2]
theorem pf_washL_15 {pg : zG} {g place year : Int} : ∀ (n : Nat) (i l : Int), 0 ≤ i → i + n ≤ 15 → g15 l → g15 (pf_washL pg g place year n i l) := by
  intro n
  induction n with
  | zero => intro i l _ _ h; exact h
  | succ n ih =>
    intro i l h0 h1 h
    unfold pf_washL
    refine ih _ _ (by omega) (by omega) ?_
    split
    · exact g15_andn h (g15_shl ⟨h0, by omega⟩).g31
    · exact h
theorem pf_wash_15 {pg : zG} {g place year : Int} (h : g15 g) : g15 (pf_wash pg g place year) := pf_washL_15 15 0 g (by decide) (by decide) h
theorem pf_washL_nil {pg : zG} (h : pg 1 = []) {g place year : Int} : ∀ (n : Nat) (i l : Int), pf_washL pg g place year n i l = l := by
  intro n
  induction n with
  | zero => intro i l; rfl
  | succ n ih =>
    intro i l
    unfold pf_washL
    rw [ih]
    have e : pf_lost pg g i place year = 0 := by unfold pf_lost; rw [h]; rfl
    rw [e, if_neg (fun q => absurd q.2 (by decide))]
theorem pf_wash_nil {pg : zG} (h : pg 1 = []) (g place year : Int) : pf_wash pg g place year = g := pf_washL_nil h 15 0 g
theorem pf_rainTo_nil {D : zD} {pg : zG} (h : pg 1 = []) (W : zD) (B K : Int) : pf_rainTo D pg W B K = W := by
  funext i a b
  unfold pf_rainTo
  split
  · rename_i q; rw [pf_wash_nil h, q.1]
  · rfl
theorem pf_lostK_nil {pg : zG} (h : pg 1 = []) {W : zD} {b : Int} : ∀ (n : Nat) (k l : Int), pf_lostK pg W b n k l = l := by
  intro n
  induction n with
  | zero => intro k l; rfl
  | succ n ih => intro k l; unfold pf_lostK; rw [ih, pf_wash_nil h]; omega
theorem pf_lostB_nil {D : zD} {pg : zG} (h : pg 1 = []) {W : zD} : ∀ (n : Nat) (b l : Int), pf_lostB D pg W n b l = l := by
  intro n
  induction n with
  | zero => intro b l; rfl
  | succ n ih => intro b l; unfold pf_lostB; rw [ih, pf_lostK_nil h]
theorem pf_any01 {f g : Int → Int} : ∀ (n : Nat) (k a : Int), a = 0 ∨ a = 1 → pf_any f g n k a = 0 ∨ pf_any f g n k a = 1 := by
  intro n
  induction n with
  | zero => intro k a h; exact h
  | succ n ih => intro k a h; unfold pf_any; refine ih _ _ ?_; split; exact Or.inl rfl; exact Or.inr rfl
theorem pf_zer_in {f : Int → Int} : ∀ (n : Nat) (k a : Int), a ≤ pf_zer f n k a ∧ pf_zer f n k a ≤ a + n := by
  intro n
  induction n with
  | zero => intro k a; unfold pf_zer; omega
  | succ n ih =>
    intro k a
    unfold pf_zer
    have := ih (k + 1) (if f k = 0 then a + 1 else a)
    split at this
    · rename_i e; rw [if_pos e]; omega
    · rename_i e; rw [if_neg e]; omega
theorem wOk_wu0 {D W : zD} (h : wOk D W) {v : Int} (hv : 0 ≤ v ∧ v ≤ 999) : wOk D (wu W 0 0 0 v) := by
  obtain ⟨a, b, c, d, e, f⟩ := h
  have o : ∀ (i : Nat) (x y : Int), i ≠ 0 → wu W 0 0 0 v i x y = W i x y := fun i x y q => wu_ne (fun r => q r.1)
  refine ⟨by rw [wu_eq]; exact hv, fun x y z => ?_, fun x y => ?_, ?_, fun x => ?_, fun x y z => ?_⟩
  · rw [o 1 _ _ (by decide), o 2 _ _ (by decide)]; exact b x y z
  · rw [o 3 _ _ (by decide)]; exact c x y
  · rw [o 4 _ _ (by decide)]; exact d
  · rw [o 5 _ _ (by decide), o 5 _ _ (by decide), o 5 _ _ (by decide)]; exact e x
  · rw [o 1 _ _ (by decide), o 2 _ _ (by decide)]
    have := f x y z
    exact ⟨this.1, this.2.1, fun k => by rw [o 3 _ _ (by decide)]; exact this.2.2 k⟩
theorem wOk_rainTo {D W : zD} {pg : zG} (h : wOk D W) {B K : Int} (hB : B ≤ D 6 0 0) (hK : B < D 6 0 0 ∨ K ≤ 0) : wOk D (pf_rainTo D pg W B K) := by
  obtain ⟨a, b, c, d, e, f⟩ := h
  refine ⟨?_, fun x y z => ?_, fun x y => ?_, ?_, fun x => ?_, fun x y z => ?_⟩
  · rw [pf_rainTo_o (by decide)]; exact a
  · rw [pf_rainTo_o (by decide), pf_rainTo_o (by decide)]; exact b x y z
  · unfold pf_rainTo
    split
    · exact pf_wash_15 (c x y)
    · exact c x y
  · rw [pf_rainTo_o (by decide)]; exact d
  · rw [pf_rainTo_o (by decide), pf_rainTo_o (by decide), pf_rainTo_o (by decide)]; exact e x
  · rw [pf_rainTo_o (by decide), pf_rainTo_o (by decide)]
    have := f x y z
    refine ⟨this.1, this.2.1, fun k => ?_⟩
    unfold pf_rainTo
    rw [if_neg (by omega)]
    exact this.2.2 k
theorem wOk_rain {D W : zD} {pg : zG} (h : wOk D W) : wOk D (pf_rain D pg W) := wOk_rainTo h (Int.le_refl _) (Or.inr (Int.le_refl _))
theorem wOk_keep {D W : zD} (h : wOk D W) {b s : Int} (hb : 0 ≤ b ∧ b < 8) (hs : 0 ≤ s ∧ s < 8) : wOk D (pf_keep W b s) := by
  obtain ⟨a, b', c, d, e, f⟩ := h
  refine ⟨?_, fun x y z => ?_, fun x y => ?_, ?_, fun x => ?_, fun x y z => ?_⟩
  · rw [pf_keep_o (by decide) (by decide)]; exact a
  · rw [pf_keep_o (by decide) (by decide), pf_keep_o (by decide) (by decide)]; exact b' x y z
  · rw [pf_keep_o (by decide) (by decide)]; exact c x y
  · show 0 ≤ (if W 4 0 0 = 40 then 40 else W 4 0 0 + 1) ∧ (if W 4 0 0 = 40 then 40 else W 4 0 0 + 1) ≤ 40
    split <;> omega
  · have ent : (0 ≤ pf_ent W b s 0 ∧ pf_ent W b s 0 ≤ 999) ∧ (0 ≤ pf_ent W b s 1 ∧ pf_ent W b s 1 < 8) ∧ (0 ≤ pf_ent W b s 2 ∧ pf_ent W b s 2 < 8) := ⟨a, hb, hs⟩
    have key : ∀ c, pf_keep W b s 5 x c = (if W 4 0 0 = 40 then (if x = 39 then pf_ent W b s c else W 5 (x + 1) c) else (if x = W 4 0 0 then pf_ent W b s c else W 5 x c)) := fun c => rfl
    rw [key, key, key]
    by_cases q : W 4 0 0 = 40
    · rw [if_pos q, if_pos q, if_pos q]
      by_cases q2 : x = 39
      · rw [if_pos q2, if_pos q2, if_pos q2]; exact ent
      · rw [if_neg q2, if_neg q2, if_neg q2]; exact e (x + 1)
    · rw [if_neg q, if_neg q, if_neg q]
      by_cases q2 : x = W 4 0 0
      · rw [if_pos q2, if_pos q2, if_pos q2]; exact ent
      · rw [if_neg q2, if_neg q2, if_neg q2]; exact e x
  · rw [pf_keep_o (by decide) (by decide), pf_keep_o (by decide) (by decide)]
    have := f x y z
    exact ⟨this.1, this.2.1, fun k => by rw [pf_keep_o (by decide) (by decide)]; exact this.2.2 k⟩
theorem wOk_kb {D W W0 : zD} {pg : zG} (ok : zD_ok D pg) (h : wOk D W) {b : Int} (hb : 0 ≤ b ∧ b < 4) : wOk D (pf_kb D pg W0 W b) := by
  unfold pf_kb
  split
  · exact h
  · have h4 := ok.a4 (W 1 b 0) 0
    have := pf_zer_in (f := pf_said D pg W b) (D 4 (W 1 b 0) 0).toNat 0 0
    exact wOk_keep h (by omega) (by omega)
theorem wOk_kall {D W0 : zD} {pg : zG} (ok : zD_ok D pg) : ∀ (n : Nat) (b : Int) (W : zD), 0 ≤ b → b + n ≤ 4 → wOk D W → wOk D (pf_kall D pg W0 n b W) := by
  intro n
  induction n with
  | zero => intro b W _ _ h; exact h
  | succ n ih => intro b W h0 h1 h; unfold pf_kall; exact ih _ _ (by omega) (by omega) (wOk_kb ok h (by omega))
theorem wOk_year {D W W0 : zD} {pg : zG} (ok : zD_ok D pg) (h : wOk D W) (hy : W 0 0 0 < 999) : wOk D (pf_year D pg W0 W) := by
  have h6 := ok.a6 0 0
  have hy0 := h.y
  exact wOk_wu0 (wOk_kall ok _ _ _ (by omega) (by omega) (wOk_rain h)) (by omega)
theorem wOk_yearT {D W : zD} {pg : zG} (h : wOk D W) (hy : W 0 0 0 < 999) : wOk D (pf_yearT D pg W) := by
  have hy0 := h.y
  exact wOk_wu0 (wOk_rain h) (by omega)
