/-! LINES, pure: (doubt, strokes, by which, glyph) of the least line from (i, j) on -/
abbrev zT : Type := Int × Int × Int × Int
def z0 : zT := (0, 0, -1, 0)
def pf_of (c : zT) (d k y g : Int) : zT := if c.2.2.1 = -1 ∨ d < c.1 ∨ (d = c.1 ∧ k < c.2.1) then (d, k, y, g) else c
def pf_bd (D : zD) (pg : zG) (h x y g : Int) : Int := if D 8 0 0 < pf_doubt D pg h x g ∨ D 8 0 0 < pf_doubt D pg h y (pf_seen g 1) then -1 else pf_doubt D pg h x g + pf_doubt D pg h y (pf_seen g 1)
def pf_gby (b a t : Int) : Int := if b = 0 ∨ b = 4 then a else if b = 1 ∨ b = 5 then t else if b = 2 then ax_or a t else ax_and a t
def pf_nn (D : zD) (pg : zG) (h x y a t b : Int) : Int := if b < 4 then pf_bd D pg h x y (pf_gby b a t) else D 8 1 0
def pf_tt (b : Int) (N1 N2 N3 : zT) : zT := if b < 4 then N1 else if b = 4 then N2 else N3
def pf_st (D : zD) (pg : zG) (h x y a t : Int) (N1 N2 N3 : zT) (b : Int) (c : zT) : zT :=
  if (b ≠ 5 ∧ x = -1) ∨ (b ≠ 4 ∧ y = -1) ∨ pf_nn D pg h x y a t b = -1 then c else
  pf_of c (pf_nn D pg h x y a t b + (pf_tt b N1 N2 N3).1) (pf_bits (pf_gby b a t) + (pf_tt b N1 N2 N3).2.1) b (pf_gby b a t)
def pf_cs (D : zD) (pg : zG) (h x y a t : Int) (N1 N2 N3 : zT) : Nat → Int → zT → zT
  | 0, _, c => c
  | n + 1, b, c => pf_cs D pg h x y a t N1 N2 N3 n (b + 1) (pf_st D pg h x y a t N1 N2 N3 b c)
/-- the letter of the one at i, of the other at j (from its end); their glyphs -/
def lx (D : zD) (o h i : Int) : Int := if i < D 4 o 0 then pf_at D h (D 5 o i) else -1
def ly (D : zD) (t h j : Int) : Int := if j < D 4 t 0 then pf_at D h (D 5 t (D 4 t 0 - 1 - j)) else -1
def gx (D : zD) (o h i : Int) : Int := if lx D o h i = -1 then 0 else D 2 h (lx D o h i)
def gy (D : zD) (t h j : Int) : Int := if ly D t h j = -1 then 0 else pf_seen (D 2 h (ly D t h j)) 1
def pf_ce (D : zD) (pg : zG) (o t h i j : Int) (N1 N2 N3 : zT) : zT := pf_cs D pg h (lx D o h i) (ly D t h j) (gx D o h i) (gy D t h j) N1 N2 N3 6 0 z0
def pf_row (D : zD) (pg : zG) (o t h i : Int) (nx : Nat → zT) : Nat → zT
  | 0 => pf_ce D pg o t h i (D 4 t 0) z0 (nx 0) z0
  | b + 1 => pf_ce D pg o t h i (D 4 t 0 - (b + 1 : Nat)) (nx b) (nx (b + 1)) (pf_row D pg o t h i nx b)
def pf_r0 (D : zD) (pg : zG) (o t h : Int) : Nat → zT
  | 0 => z0
  | b + 1 => pf_ce D pg o t h (D 4 o 0) (D 4 t 0 - (b + 1 : Nat)) z0 z0 (pf_r0 D pg o t h b)
def pf_lt (D : zD) (pg : zG) (o t h : Int) : Nat → Nat → zT
  | 0 => pf_r0 D pg o t h
  | a + 1 => pf_row D pg o t h (D 4 o 0 - (a + 1 : Nat)) (pf_lt D pg o t h a)
def pf_L (D : zD) (pg : zG) (o t h i j : Int) : zT := pf_lt D pg o t h (D 4 o 0 - i).toNat (D 4 t 0 - j).toNat
theorem pf_st_x {D : zD} {pg : zG} {h y a t : Int} {N1 N2 N3 M1 M2 : zT} {b : Int} {c : zT} : pf_st D pg h (-1) y a t N1 N2 N3 b c = pf_st D pg h (-1) y a t M1 M2 N3 b c := by
  unfold pf_st
  by_cases e : b = 5
  · subst e; rfl
  · rw [if_pos (Or.inl ⟨e, rfl⟩), if_pos (Or.inl ⟨e, rfl⟩)]
theorem pf_st_y {D : zD} {pg : zG} {h x a t : Int} {N1 N2 N3 M1 M3 : zT} {b : Int} {c : zT} : pf_st D pg h x (-1) a t N1 N2 N3 b c = pf_st D pg h x (-1) a t M1 N2 M3 b c := by
  unfold pf_st
  by_cases e : b = 4
  · subst e; rfl
  · rw [if_pos (Or.inr (Or.inl ⟨e, rfl⟩)), if_pos (Or.inr (Or.inl ⟨e, rfl⟩))]
theorem pf_cs_x {D : zD} {pg : zG} {h y a t : Int} {N1 N2 N3 M1 M2 : zT} : ∀ (n : Nat) (b : Int) (c : zT), pf_cs D pg h (-1) y a t N1 N2 N3 n b c = pf_cs D pg h (-1) y a t M1 M2 N3 n b c := by
  intro n
  induction n with
  | zero => intro b c; rfl
  | succ n ih => intro b c; unfold pf_cs; rw [ih, pf_st_x (M1 := M1) (M2 := M2)]
theorem pf_cs_y {D : zD} {pg : zG} {h x a t : Int} {N1 N2 N3 M1 M3 : zT} : ∀ (n : Nat) (b : Int) (c : zT), pf_cs D pg h x (-1) a t N1 N2 N3 n b c = pf_cs D pg h x (-1) a t M1 N2 M3 n b c := by
  intro n
  induction n with
  | zero => intro b c; rfl
  | succ n ih => intro b c; unfold pf_cs; rw [ih, pf_st_y (M1 := M1) (M3 := M3)]
theorem lx_m {D : zD} {o h i : Int} (hi : D 4 o 0 ≤ i) : lx D o h i = -1 := if_neg (by omega)
theorem ly_m {D : zD} {t h j : Int} (hj : D 4 t 0 ≤ j) : ly D t h j = -1 := if_neg (by omega)
theorem pf_L_mn {D : zD} {pg : zG} {o t h : Int} : pf_L D pg o t h (D 4 o 0) (D 4 t 0) = z0 := by
  unfold pf_L
  rw [Int.sub_self, Int.sub_self]
  rfl
theorem pf_L_eq {D : zD} {pg : zG} {o t h i j : Int} (hi : i ≤ D 4 o 0) (hj : j ≤ D 4 t 0) (hne : i < D 4 o 0 ∨ j < D 4 t 0) : pf_L D pg o t h i j = pf_ce D pg o t h i j (pf_L D pg o t h (i + 1) (j + 1)) (pf_L D pg o t h (i + 1) j) (pf_L D pg o t h i (j + 1)) := by
  by_cases e1 : i < D 4 o 0
  · have ea : (D 4 o 0 - i).toNat = (D 4 o 0 - (i + 1)).toNat + 1 := by omega
    have ei : D 4 o 0 - (((D 4 o 0 - (i + 1)).toNat + 1 : Nat) : Int) = i := by omega
    have u1 : pf_L D pg o t h i j = pf_row D pg o t h i (pf_lt D pg o t h (D 4 o 0 - (i + 1)).toNat) (D 4 t 0 - j).toNat := by
      unfold pf_L
      rw [ea]
      show pf_row D pg o t h (D 4 o 0 - (((D 4 o 0 - (i + 1)).toNat + 1 : Nat) : Int)) _ _ = _
      rw [ei]
    by_cases e2 : j < D 4 t 0
    · have eb : (D 4 t 0 - j).toNat = (D 4 t 0 - (j + 1)).toNat + 1 := by omega
      have ej : D 4 t 0 - (((D 4 t 0 - (j + 1)).toNat + 1 : Nat) : Int) = j := by omega
      have u2 : pf_L D pg o t h i (j + 1) = pf_row D pg o t h i (pf_lt D pg o t h (D 4 o 0 - (i + 1)).toNat) (D 4 t 0 - (j + 1)).toNat := by
        unfold pf_L
        rw [ea]
        show pf_row D pg o t h (D 4 o 0 - (((D 4 o 0 - (i + 1)).toNat + 1 : Nat) : Int)) _ _ = _
        rw [ei]
      rw [u1, u2, eb]
      show pf_ce D pg o t h i (D 4 t 0 - (((D 4 t 0 - (j + 1)).toNat + 1 : Nat) : Int)) _ _ _ = _
      rw [ej]
      unfold pf_L
      rw [eb]
    · have ej : j = D 4 t 0 := by omega
      subst ej
      rw [u1]
      have eb : (D 4 t 0 - D 4 t 0).toNat = 0 := by omega
      have u3 : pf_L D pg o t h (i + 1) (D 4 t 0) = pf_lt D pg o t h (D 4 o 0 - (i + 1)).toNat 0 := by unfold pf_L; rw [eb]
      rw [eb, u3]
      show pf_ce D pg o t h i (D 4 t 0) z0 _ z0 = _
      unfold pf_ce
      rw [ly_m (Int.le_refl _)]
      exact pf_cs_y 6 0 z0
  · have ei : i = D 4 o 0 := by omega
    subst ei
    have ea : (D 4 o 0 - D 4 o 0).toNat = 0 := by omega
    have eb : (D 4 t 0 - j).toNat = (D 4 t 0 - (j + 1)).toNat + 1 := by omega
    have ej : D 4 t 0 - (((D 4 t 0 - (j + 1)).toNat + 1 : Nat) : Int) = j := by omega
    have u1 : ∀ q, pf_L D pg o t h (D 4 o 0) q = pf_r0 D pg o t h (D 4 t 0 - q).toNat := fun q => by unfold pf_L; rw [ea]; rfl
    rw [u1, u1, eb]
    show pf_ce D pg o t h (D 4 o 0) (D 4 t 0 - (((D 4 t 0 - (j + 1)).toNat + 1 : Nat) : Int)) z0 z0 _ = _
    rw [ej]
    unfold pf_ce
    rw [lx_m (Int.le_refl _)]
    exact pf_cs_x 6 0 z0
/-- bounds: by how many pieces -/
def zTb (B : Int) (T : zT) : Prop := (0 ≤ T.1 ∧ T.1 ≤ 200 * B) ∧ (0 ≤ T.2.1 ∧ T.2.1 ≤ 15 * B) ∧ (-1 ≤ T.2.2.1 ∧ T.2.2.1 ≤ 5) ∧ g15 T.2.2.2
theorem z0_b {B : Int} (h : 0 ≤ B) : zTb B z0 := ⟨⟨by decide, by show (0 : Int) ≤ 200 * B; omega⟩, ⟨by decide, by show (0 : Int) ≤ 15 * B; omega⟩, ⟨by decide, by decide⟩, ⟨by decide, by decide⟩⟩
theorem pf_bd_in {D : zD} {pg : zG} (ok : zD_ok D pg) (h x y g : Int) : -1 ≤ pf_bd D pg h x y g ∧ pf_bd D pg h x y g ≤ 200 := by
  have h1 := pf_doubt_in ok h x g
  have h2 := pf_doubt_in ok h y (pf_seen g 1)
  have h8 := ok.a8 0 0
  unfold pf_bd
  split <;> omega
theorem pf_gby_15 {b a t : Int} (ha : g15 a) (ht : g15 t) : g15 (pf_gby b a t) := by
  unfold pf_gby
  split
  · exact ha
  · split
    · exact ht
    · split
      · exact g15_or ha ht
      · exact g15_and ha ht.g31
theorem pf_nn_in {D : zD} {pg : zG} (ok : zD_ok D pg) (h x y a t b : Int) : -1 ≤ pf_nn D pg h x y a t b ∧ pf_nn D pg h x y a t b ≤ 200 := by
  unfold pf_nn
  have h8 := ok.a8 1 0
  split
  · exact pf_bd_in ok _ _ _ _
  · omega
theorem pf_st_b {D : zD} {pg : zG} (ok : zD_ok D pg) {h x y a t b B : Int} {N1 N2 N3 c : zT} (ha : g15 a) (ht : g15 t) (hb : 0 ≤ b ∧ b ≤ 5) (h1 : zTb B N1) (h2 : zTb B N2) (h3 : zTb B N3) (hc : zTb (B + 1) c) : zTb (B + 1) (pf_st D pg h x y a t N1 N2 N3 b c) := by
  unfold pf_st
  split
  · exact hc
  · rename_i q
    have hn := pf_nn_in ok h x y a t b
    have hg := pf_gby_15 (b := b) ha ht
    have hbt := pf_bits_15 hg
    have htt : zTb B (pf_tt b N1 N2 N3) := by
      unfold pf_tt
      split
      · exact h1
      · split
        · exact h2
        · exact h3
    have t1 := htt.1
    have t2 := htt.2.1
    unfold pf_of
    split
    · refine ⟨?_, ?_, ?_, hg⟩
      · show 0 ≤ pf_nn D pg h x y a t b + _ ∧ pf_nn D pg h x y a t b + _ ≤ _
        omega
      · show 0 ≤ pf_bits (pf_gby b a t) + _ ∧ pf_bits (pf_gby b a t) + _ ≤ _
        omega
      · show -1 ≤ b ∧ b ≤ 5
        omega
    · exact hc
theorem pf_cs_b {D : zD} {pg : zG} (ok : zD_ok D pg) {h x y a t B : Int} {N1 N2 N3 : zT} (ha : g15 a) (ht : g15 t) (h1 : zTb B N1) (h2 : zTb B N2) (h3 : zTb B N3) : ∀ (n : Nat) (b : Int) (c : zT), 0 ≤ b → b + n ≤ 6 → zTb (B + 1) c → zTb (B + 1) (pf_cs D pg h x y a t N1 N2 N3 n b c) := by
  intro n
  induction n with
  | zero => intro b c _ _ hc; exact hc
  | succ n ih => intro b c h0 he hc; unfold pf_cs; exact ih _ _ (by omega) (by omega) (pf_st_b ok ha ht (by omega) h1 h2 h3 hc)
theorem gx_15 {D : zD} {pg : zG} (ok : zD_ok D pg) (o h i : Int) : g15 (gx D o h i) := by
  unfold gx
  split
  · exact ⟨by decide, by decide⟩
  · exact ok.a2 _ _
theorem gy_15 {D : zD} (t h j : Int) : g15 (gy D t h j) := by
  unfold gy
  split
  · exact ⟨by decide, by decide⟩
  · exact pf_seen_15 _ _
theorem zTb_mono {B C : Int} (h : B ≤ C) {T : zT} (hT : zTb B T) : zTb C T := by
  obtain ⟨⟨a, b⟩, ⟨c, d⟩, e, f⟩ := hT
  exact ⟨⟨a, by omega⟩, ⟨c, by omega⟩, e, f⟩
theorem pf_ce_b {D : zD} {pg : zG} (ok : zD_ok D pg) {o t h i j B : Int} (hB : 0 ≤ B) {N1 N2 N3 : zT} (h1 : zTb B N1) (h2 : zTb B N2) (h3 : zTb B N3) : zTb (B + 1) (pf_ce D pg o t h i j N1 N2 N3) := pf_cs_b ok (gx_15 ok _ _ _) (gy_15 _ _ _) h1 h2 h3 6 0 z0 (by decide) (by decide) (z0_b (by omega))
theorem pf_r0_b {D : zD} {pg : zG} (ok : zD_ok D pg) {o t h : Int} : ∀ (b : Nat), zTb b (pf_r0 D pg o t h b) := by
  intro b
  induction b with
  | zero => exact z0_b (by decide)
  | succ b ih => exact pf_ce_b ok (by omega) (z0_b (by omega)) (z0_b (by omega)) ih
theorem pf_row_b {D : zD} {pg : zG} (ok : zD_ok D pg) {o t h i : Int} {nx : Nat → zT} {A : Nat} (hnx : ∀ b : Nat, zTb (A + b : Nat) (nx b)) : ∀ (b : Nat), zTb (A + 1 + b : Nat) (pf_row D pg o t h i nx b) := by
  intro b
  induction b with
  | zero =>
    have := pf_ce_b (D := D) (pg := pg) ok (o := o) (t := t) (h := h) (i := i) (j := D 4 t 0) (B := (A : Int)) (by omega) (z0_b (by omega)) (hnx 0) (z0_b (by omega))
    exact this
  | succ b ih =>
    have := pf_ce_b (D := D) (pg := pg) ok (o := o) (t := t) (h := h) (i := i) (j := D 4 t 0 - (b + 1 : Nat)) (B := ((A + 1 + b : Nat) : Int)) (by omega) (zTb_mono (by omega) (hnx b)) (zTb_mono (by omega) (hnx (b + 1))) ih
    exact this
theorem pf_lt_b {D : zD} {pg : zG} (ok : zD_ok D pg) {o t h : Int} : ∀ (a b : Nat), zTb (a + b : Nat) (pf_lt D pg o t h a b) := by
  intro a
  induction a with
  | zero => intro b; rw [Nat.zero_add]; exact pf_r0_b ok b
  | succ a ih => intro b; exact pf_row_b ok ih b
theorem pf_L_b {D : zD} {pg : zG} (ok : zD_ok D pg) (o t h i j : Int) (hi : 0 ≤ i) (hj : 0 ≤ j) : zTb 12 (pf_L D pg o t h i j) := by
  have h4 := ok.a4 o 0
  have h4' := ok.a4 t 0
  exact zTb_mono (by omega) (pf_lt_b ok _ _)
/-- the pieces: p the k-th piece's place (i, j), its owner, its glyph -/
def pf_pc1 (D : zD) (pg : zG) (o t h : Int) : Nat → Int → Int → List (Int × Int)
  | 0, _, _ => []
  | n + 1, i, j => if (pf_L D pg o t h i j).2.2.1 = -1 then [] else
    (if (pf_L D pg o t h i j).2.2.1 < 4 then 0 else (pf_L D pg o t h i j).2.2.1 - 3, (pf_L D pg o t h i j).2.2.2) :: pf_pc1 D pg o t h n (if (pf_L D pg o t h i j).2.2.1 = 5 then i else i + 1) (if (pf_L D pg o t h i j).2.2.1 = 4 then j else j + 1)
