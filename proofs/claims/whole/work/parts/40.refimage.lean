/-! THE REFERENCE: images -/
def pf_t2 (T : Nat → Int) (k : Int) : Int := 256 * T k.toNat + T (k + 1).toNat
def pf_ckT (T : Nat → Int) : Nat → Int → Int → Int
  | 0, _, c => c
  | n + 1, k, c => pf_ckT T n (k + 1) ((3 * c + T k.toNat) % 251)
def pf_btL (D : zD) (T : Nat → Int) (p : Int) : Nat → Int → Int
  | 0, _ => 1
  | n + 1, k => if pf_t2 T (p + 2 + 2 * k) ≤ (if k < D 4 (T p.toNat) 0 then 32767 else 0) then pf_btL D T p n (k + 1) else 0
def pf_bt (D : zD) (T : Nat → Int) (p : Int) : Int := if (0 ≤ T p.toNat ∧ T p.toNat < D 3 0 0) ∧ (0 ≤ T (p + 1).toNat ∧ T (p + 1).toNat ≤ 1) ∧ pf_canPaint D (T p.toNat) (T (p + 1).toNat) = 1 then pf_btL D T p 6 0 else 0
def pf_imL (D : zD) (T : Nat → Int) : Nat → Int → Int
  | 0, _ => 1
  | n + 1, b => if pf_bt D T (2 + 14 * b) = 1 then pf_imL D T n (b + 1) else 0
def pf_isI (D : zD) (T : Nat → Int) (n : Int) : Int := if n = 3 + 14 * D 6 0 0 ∧ T (n - 1).toNat = pf_ckT T (n - 1).toNat 0 223 ∧ pf_t2 T 0 ≤ 999 then pf_imL D T (D 6 0 0).toNat 0 else 0
/-- the wall of an image -/
def pf_onTo (D : zD) (T : Nat → Int) (W : zD) (B K : Int) : zD := fun i a c =>
  if i = 0 then pf_t2 T 0 else if i = 1 ∧ a ≤ B ∧ (0 ≤ a ∧ a < D 6 0 0) ∧ (a < B ∨ 0 ≤ K) then T (2 + 14 * a).toNat else if i = 2 ∧ a ≤ B ∧ (0 ≤ a ∧ a < D 6 0 0) ∧ (a < B ∨ 0 ≤ K) then T (3 + 14 * a).toNat
  else if i = 3 ∧ (0 ≤ a ∧ a < D 6 0 0) ∧ (0 ≤ c ∧ c < 6) ∧ (a < B ∨ (a = B ∧ c < K)) then pf_t2 T (4 + 14 * a + 2 * c) else W i a c
def pf_on (D : zD) (T : Nat → Int) (W : zD) : zD := wu (pf_onTo D T W (D 6 0 0) (-1)) 4 0 0 0
theorem pf_btL01 (D : zD) (T : Nat → Int) (p : Int) : ∀ (n : Nat) (k : Int), pf_btL D T p n k = 0 ∨ pf_btL D T p n k = 1 := by
  intro n
  induction n with
  | zero => intro k; exact Or.inr rfl
  | succ n ih =>
    intro k
    by_cases q : pf_t2 T (p + 2 + 2 * k) ≤ (if k < D 4 (T p.toNat) 0 then 32767 else 0)
    · have e : pf_btL D T p (n + 1) k = pf_btL D T p n (k + 1) := if_pos q
      rw [e]; exact ih _
    · have e : pf_btL D T p (n + 1) k = 0 := if_neg q
      rw [e]; exact Or.inl rfl
theorem pf_bt01 (D : zD) (T : Nat → Int) (p : Int) : pf_bt D T p = 0 ∨ pf_bt D T p = 1 := by
  unfold pf_bt
  split
  · exact pf_btL01 D T p 6 0
  · exact Or.inl rfl
theorem pf_imL01 (D : zD) (T : Nat → Int) : ∀ (n : Nat) (b : Int), pf_imL D T n b = 0 ∨ pf_imL D T n b = 1 := by
  intro n
  induction n with
  | zero => intro b; exact Or.inr rfl
  | succ n ih => intro b; unfold pf_imL; split; exact ih _; exact Or.inl rfl
theorem pf_isI01 (D : zD) (T : Nat → Int) (n : Int) : pf_isI D T n = 0 ∨ pf_isI D T n = 1 := by
  unfold pf_isI
  split
  · exact pf_imL01 D T _ _
  · exact Or.inl rfl
theorem pf_btL_all {D : zD} {T : Nat → Int} {p : Int} : ∀ (n : Nat) (k : Int), pf_btL D T p n k = 1 → ∀ j, k ≤ j → j < k + n → pf_t2 T (p + 2 + 2 * j) ≤ 32767 := by
  intro n
  induction n with
  | zero => intro k _ j h1 h2; omega
  | succ n ih =>
    intro k h j h1 h2
    by_cases q : pf_t2 T (p + 2 + 2 * k) ≤ (if k < D 4 (T p.toNat) 0 then 32767 else 0)
    · have e' : pf_btL D T p (n + 1) k = pf_btL D T p n (k + 1) := if_pos q
      rw [e'] at h
      by_cases e : j = k
      · subst e; split at q <;> omega
      · exact ih _ h j (by omega) (by omega)
    · have e' : pf_btL D T p (n + 1) k = 0 := if_neg q
      rw [e'] at h
      cases h
theorem pf_imL_all {D : zD} {T : Nat → Int} : ∀ (n : Nat) (b : Int), pf_imL D T n b = 1 → ∀ j, b ≤ j → j < b + n → pf_bt D T (2 + 14 * j) = 1 := by
  intro n
  induction n with
  | zero => intro b _ j h1 h2; omega
  | succ n ih =>
    intro b h j h1 h2
    unfold pf_imL at h
    split at h
    · rename_i q
      by_cases e : j = b
      · subst e; exact q
      · exact ih _ h j (by omega) (by omega)
    · cases h
theorem pf_isI_bt {D : zD} {pg : zG} (ok : zD_ok D pg) {T : Nat → Int} {n : Int} (h : pf_isI D T n = 1) : n = 3 + 14 * D 6 0 0 ∧ pf_t2 T 0 ≤ 999 ∧ ∀ b, 0 ≤ b → b < D 6 0 0 → ((0 ≤ T (2 + 14 * b).toNat ∧ T (2 + 14 * b).toNat < D 3 0 0) ∧ (0 ≤ T (3 + 14 * b).toNat ∧ T (3 + 14 * b).toNat ≤ 1) ∧ pf_canPaint D (T (2 + 14 * b).toNat) (T (3 + 14 * b).toNat) = 1) ∧ ∀ k, 0 ≤ k → k < 6 → pf_t2 T (4 + 14 * b + 2 * k) ≤ 32767 := by
  have h6 := ok.a6 0 0
  unfold pf_isI at h
  split at h
  · rename_i q
    refine ⟨q.1, q.2.2, fun b b0 b1 => ?_⟩
    have hb := pf_imL_all _ _ h b b0 (by omega)
    unfold pf_bt at hb
    rw [show 2 + 14 * b + 1 = 3 + 14 * b by omega] at hb
    split at hb
    · rename_i q2
      refine ⟨q2, fun k k0 k1 => ?_⟩
      have := pf_btL_all _ _ hb k k0 (by omega)
      rw [show 2 + 14 * b + 2 + 2 * k = 4 + 14 * b + 2 * k by omega] at this
      exact this
    · cases hb
  · cases h
theorem wOk_on {D W : zD} {pg : zG} (ok : zD_ok D pg) {T : Nat → Int} {n : Int} (hT : ∀ j : Nat, (j : Int) < n → 0 ≤ T j ∧ T j ≤ 255) (h : pf_isI D T n = 1) (hW : wOk D W) : wOk D (pf_on D T W) := by
  obtain ⟨hn, hy, hb⟩ := pf_isI_bt ok h
  have h6 := ok.a6 0 0
  obtain ⟨a, b', c, e, f, g⟩ := hW
  have o : ∀ (i : Nat) (x y : Int), i ≠ 4 → pf_on D T W i x y = pf_onTo D T W (D 6 0 0) (-1) i x y := fun i x y q => wu_ne (fun r => q r.1)
  have e1 : ∀ b, 0 ≤ b → b < D 6 0 0 → pf_onTo D T W (D 6 0 0) (-1) 1 b 0 = T (2 + 14 * b).toNat := fun b q1 q2 => by unfold pf_onTo; rw [if_neg (by decide), if_pos (by omega)]
  have e2 : ∀ b, 0 ≤ b → b < D 6 0 0 → pf_onTo D T W (D 6 0 0) (-1) 2 b 0 = T (3 + 14 * b).toNat := fun b q1 q2 => by unfold pf_onTo; rw [if_neg (by decide), if_neg (by omega), if_pos (by omega)]
  refine ⟨?_, fun x y z => ?_, fun x y => ?_, ?_, fun x => ?_, fun x y z => ?_⟩
  · rw [o 0 _ _ (by decide)]
    show 0 ≤ pf_t2 T 0 ∧ pf_t2 T 0 ≤ 999
    have t0 := hT 0 (by omega)
    have t1 := hT 1 (by omega)
    have : pf_t2 T 0 = 256 * T 0 + T 1 := rfl
    omega
  · rw [o 1 _ _ (by decide), o 2 _ _ (by decide), e1 x y z, e2 x y z]
    have := (hb x y z).1
    exact ⟨this.1, by omega, this.2.2⟩
  · rw [o 3 _ _ (by decide)]
    unfold pf_onTo
    rw [if_neg (by decide), if_neg (by omega), if_neg (by omega)]
    split
    · rename_i q
      have q1 := (hb x q.2.1.1 q.2.1.2).2 y q.2.2.1.1 q.2.2.1.2
      have t0 := hT (4 + 14 * x + 2 * y).toNat (by omega)
      have t1 := hT (4 + 14 * x + 2 * y + 1).toNat (by omega)
      have : pf_t2 T (4 + 14 * x + 2 * y) = 256 * T (4 + 14 * x + 2 * y).toNat + T (4 + 14 * x + 2 * y + 1).toNat := rfl
      exact ⟨by omega, by omega⟩
    · exact c x y
  · show 0 ≤ wu (pf_onTo D T W (D 6 0 0) (-1)) 4 0 0 0 4 0 0 ∧ wu (pf_onTo D T W (D 6 0 0) (-1)) 4 0 0 0 4 0 0 ≤ 40
    rw [wu_eq]
    exact ⟨by decide, by decide⟩
  · have o5 : ∀ y, pf_on D T W 5 x y = W 5 x y := fun y => by rw [o 5 _ _ (by decide)]; unfold pf_onTo; rw [if_neg (by decide), if_neg (by omega), if_neg (by omega), if_neg (by omega)]
    rw [o5, o5, o5]
    exact f x
  · have := g x y z
    have oz : ∀ i k, (i = 1 ∨ i = 2 ∨ i = 3) → pf_on D T W i x k = W i x k := fun i k q => by rw [o i _ _ (by omega)]; unfold pf_onTo; rw [if_neg (by omega), if_neg (by omega), if_neg (by omega), if_neg (by omega)]
    rw [oz 1 _ (by omega), oz 2 _ (by omega)]
    exact ⟨this.1, this.2.1, fun k => by rw [oz 3 _ (by omega)]; exact this.2.2 k⟩
section ZRE
variable {d : Nat} {I J : zF} {D : zD} {pg : zG} {W : zD} {P : Int → zF → zF → Prop} {P0 : zF → zF → Prop}
def rO (I I' : zF) : Prop := ∀ i j, i ≠ 78 → ¬ (i = 0 ∧ j = 116) → I' i j = I i j
theorem rO.trans {I I' I2 : zF} (h : rO I I') (h2 : rO I' I2) : rO I I2 := fun i j a b => (h2 i j a b).trans (h i j a b)
theorem rO.rB {I I' : zF} (h : rO I I') (hB : rB D pg W I) : rB D pg W I' := ⟨rS_cong hB.S (fun i j _ _ _ => h i j (by omega) (by omega)) (h 0 45 (by omega) (by omega)) (h 0 48 (by omega) (by omega)), hB.W, by rw [show I' 40 = I 40 from funext (fun j => h 40 j (by omega) (by omega))]; exact hB.2.2⟩
theorem sr_writes {l : List Int} (hl : oR l I) (h59 : l.length < 59) {v : Int} (hP : ∀ I', rO I I' → oR (l ++ [v]) I' → P0 I' J) : zr_v (d + 1) 307 [.inr (.inr (some 0)), .inl v] I J P0 := by
  obtain ⟨h1, h2⟩ := hl
  refine zr_inv (M := ax_m307) rfl (Nat.le_of_ble_eq_true rfl) (zq_writes_0 I J v ?_)
  rw [h1]
  simp (disch := omega) only [zb_w]
  refine ⟨by omega, zr_Qv.of (hP _ (fun i j a b => by rw [zu_ne (by omega), zu_ne (by omega)]) ⟨?_, fun q hq => ?_⟩)⟩
  · rw [zu_eq, zu_ne (by omega), h1, List.length_append, List.length_singleton]; omega
  · rw [List.length_append, List.length_singleton] at hq
    rw [getD_app, zu_ne (by omega)]
    by_cases e : q < l.length
    · rw [if_pos e, zu_ne (by omega)]; exact h2 q e
    · have e2 : q = l.length := by omega
      rw [if_neg e, if_pos e2, e2, Int.toNat_natCast, zu_eq]
theorem sr_writesTwo {l : List Int} (hl : oR l I) (h59 : l.length < 58) {v : Int} (hv : 0 ≤ v ∧ v ≤ 65535) (hP : ∀ I', rO I I' → oR (l ++ [v / 256] ++ [v % 256]) I' → P0 I' J) : zr_v (d + 2) 308 [.inr (.inr (some 0)), .inl v] I J P0 := by
  have et : Int.tdiv v 256 = v / 256 := Int.tdiv_eq_ediv_of_nonneg hv.1
  have em : Int.tmod v 256 = v % 256 := Int.tmod_eq_emod_of_nonneg hv.1
  refine zr_inv (M := ax_m308) rfl (Nat.le_of_ble_eq_true rfl) (zq_writesTwo_0 I J v ?_)
  rw [zb_w (x := v) (by omega) (by omega), zb_w (x := 256) (by omega) (by omega), et, em]
  exact sr_writes hl (by omega) (fun I1 h1 o1 => sr_writes o1 (by rw [List.length_append, List.length_singleton]; omega) (fun I2 h2 o2 => zr_Qv.of (hP I2 (h1.trans h2) o2)))
theorem sr_image_45 {I0 : zF} (hB0 : rB D pg W I0) {b : Int} (hb : 0 ≤ b ∧ b < D 6 0 0) {Q : Option ax_v → ax_S → Prop} : ∀ (n : Nat) (k : Int) (l : List Int) (I : zF), rO I0 I → oR l I → 0 ≤ k → k + n = 6 → l.length + 2 * n ≤ 58 → (∀ I', rO I0 I' → oR (pf_imK W b n k l) I' → zb_W (d + 2) ax_m309 (17, [some (.inr (.inr (some 0))), some (.inl (b + 1)), none], [], zr_S I' J) Q) → zb_W (d + 2) ax_m309 (45, [some (.inr (.inr (some 0))), some (.inl b), some (.inl k)], [], zr_S I J) Q := by
  intro n
  induction n with
  | zero =>
    intro k l I hF ho h0 he hl hQ
    have e : k = 6 := by omega
    subst e
    exact zq_image_45 I J b 6 ⟨fun q => absurd q (by decide), fun _ => hQ I hF ho⟩
  | succ n ih =>
    intro k l I hF ho h0 he hl hQ
    have hB := hF.rB hB0
    have hg := hB.W.g b k
    have hg1 := hg.1
    have hg2 := hg.2
    refine zq_image_45 I J b k ?_
    simp (disch := omega) only [zb_w]
    exact ⟨fun _ => sr_glyphAt hB hb (by omega) (sr_writesTwo ho (by omega) (by omega) (fun I1 h1 o1 => ih (k + 1) _ I1 (hF.trans h1) o1 (by omega) (by omega) (by rw [List.length_append, List.length_append, List.length_singleton, List.length_singleton]; omega) hQ)), fun q => by omega⟩
theorem sr_checked_l {f : Nat → Int} {w L : Nat} (hw : w < 79) (hk : zr_K w = (20, L)) {m : Int} (hm : 0 ≤ m ∧ m ≤ L) (hL : L ≤ 100000) (hf : ∀ j : Nat, (j : Int) < m → I w j = f j ∧ 0 ≤ f j ∧ f j ≤ 255) {Q : Option ax_v → ax_S → Prop} : ∀ (n : Nat) (k c : Int), 0 ≤ c ∧ c ≤ 250 → 0 ≤ k → k + n = m → Q (some (.inl (pf_ckT f n k c))) (zr_S I J) → zb_W d ax_m306 (6, [some (.inr (.inr (some w))), some (.inl m), some (.inl c), some (.inl k)], [], zr_S I J) Q := by
  intro n
  induction n with
  | zero =>
    intro k c hc h0 he hQ
    refine zq_checked_6 I J m c k w L hw hk ?_
    simp (disch := omega) only [zb_w]
    exact ⟨fun q => by omega, fun _ => hQ⟩
  | succ n ih =>
    intro k c hc h0 he hQ
    obtain ⟨f1, f2⟩ := hf k.toNat (by omega)
    refine zq_checked_6 I J m c k w L hw hk ?_
    simp (disch := omega) only [zb_w]
    rw [f1]
    have em : Int.tmod (3 * c + f k.toNat) 251 = (3 * c + f k.toNat) % 251 := Int.tmod_eq_emod_of_nonneg (by omega)
    rw [em]
    exact ⟨fun _ => ⟨by omega, ih (k + 1) _ (by omega) (by omega) (by omega) hQ⟩, fun q => by omega⟩
theorem sr_checked {f : Nat → Int} {w L : Nat} (hw : w < 79) (hk : zr_K w = (20, L)) {m : Int} (hm : 0 ≤ m ∧ m ≤ L) (hL : L ≤ 100000) (hf : ∀ j : Nat, (j : Int) < m → I w j = f j ∧ 0 ≤ f j ∧ f j ≤ 255) (hP : P (pf_ckT f m.toNat 0 223) I J) : zr_i (d + 1) 306 [.inr (.inr (some w)), .inl m] I J P := zr_ini (M := ax_m306) rfl (Nat.le_of_ble_eq_true rfl) (zq_checked_0 I J m w L hw hk (sr_checked_l hw hk hm hL hf m.toNat 0 223 ⟨by decide, by decide⟩ (by decide) (by omega) (zr_Qi.of hP)))
theorem pf_ckT_l : ∀ (l : List Int) (f : Nat → Int) (n k : Nat) (c : Int), l.length = k + n → (∀ q, q < l.length → f q = l.getD q 0) → pf_ckT f n k c = (l.drop k).foldl (fun c x => (3 * c + x) % 251) c := by
  intro l f n
  induction n with
  | zero =>
    intro k c hl _
    rw [List.drop_eq_nil_of_le (by omega)]
    rfl
  | succ n ih =>
    intro k c hl hf
    have hk : k < l.length := by omega
    rw [List.drop_eq_getElem_cons hk, List.foldl_cons]
    unfold pf_ckT
    rw [show ((k : Int) + 1) = ((k + 1 : Nat) : Int) by omega, ih (k + 1) _ (by omega) hf, Int.toNat_natCast, hf k hk, List.getD_eq_getElem?_getD, List.getElem?_eq_getElem hk]
    rfl
theorem sr_image_17 {I0 : zF} (hB0 : rB D pg W I0) {Q : Option ax_v → ax_S → Prop} : ∀ (n : Nat) (b : Int) (l : List Int) (I : zF), rO I0 I → oR l I → bytes l → 0 ≤ b → b + n = D 6 0 0 → l.length + 14 * n ≤ 58 → (∀ I', rO I0 I' → oR (pf_imB W n b l ++ [pf_ck (pf_imB W n b l)]) I' → bytes (pf_imB W n b l) → Q (some (.inl ((pf_imB W n b l).length + 1))) (zr_S I' J)) → zb_W (d + 2) ax_m309 (17, [some (.inr (.inr (some 0))), some (.inl b), none], [], zr_S I J) Q := by
  have h6 := hB0.S.ok.a6 0 0
  have h3 := hB0.S.ok.a3 0 0
  intro n
  induction n with
  | zero =>
    intro b l I hF ho hby h0 he hl hQ
    have hB := hF.rB hB0
    refine zq_image_17 I J b (sr_boardMany hB.S ?_)
    simp (disch := omega) only [zb_w]
    refine ⟨fun q => by omega, fun _ => ?_⟩
    obtain ⟨o1, o2⟩ := ho
    rw [o1]
    refine sr_checked (f := fun q => l.getD q 0) (by decide) (L := 59) rfl (by omega) (by decide) (fun j hj => ?_) ?_
    · have hj' : j < l.length := by omega
      refine ⟨o2 j hj', hby _ ?_⟩
      rw [List.getD_eq_getElem?_getD, List.getElem?_eq_getElem hj']
      exact List.getElem_mem hj'
    · have e : pf_ckT (fun q => l.getD q 0) ((l.length : Int)).toNat 0 223 = pf_ck l := by
        rw [Int.toNat_natCast]
        have := pf_ckT_l l (fun q => l.getD q 0) l.length 0 223 (by omega) (fun _ _ => rfl)
        rw [List.drop_zero] at this
        exact this
      rw [e]
      refine sr_writes ⟨o1, o2⟩ (by omega) (fun I1 h1 o3 => ?_)
      have o4 := o3.1
      rw [List.length_append, List.length_singleton] at o4
      rw [o4]
      exact hQ I1 (hF.trans h1) o3 hby
  | succ n ih =>
    intro b l I hF ho hby h0 he hl hQ
    have hB := hF.rB hB0
    have hb : 0 ≤ b ∧ b < D 6 0 0 := by omega
    have hw := hB.W.w hb
    have hh := hB.W.h hb
    refine zq_image_17 I J b (sr_boardMany hB.S ?_)
    rw [zb_w (x := b) (by omega) (by omega), zb_w (x := D 6 0 0) (by omega) (by omega)]
    refine ⟨fun _ => sr_wordOf hB hb (sr_writes ho (by omega) (fun I1 h1 o1 => sr_handOf (h1.rB hB) hb (sr_writes o1 (by rw [List.length_append, List.length_singleton]; omega) (fun I2 h2 o2 => sr_image_45 ((h1.trans h2).rB hB) hb 6 0 _ I2 (fun _ _ _ _ => rfl) o2 (by decide) (by decide) (by rw [List.length_append, List.length_append, List.length_singleton, List.length_singleton]; omega) (fun I3 h3' o3 => ih (b + 1) _ I3 (hF.trans ((h1.trans h2).trans h3')) o3 ?_ (by omega) (by omega) (by rw [pf_imK_len, List.length_append, List.length_append, List.length_singleton, List.length_singleton]; omega) hQ))))), fun q => by omega⟩
    have kb : ∀ (n : Nat) (k : Int) (l : List Int), bytes l → bytes (pf_imK W b n k l) := by
      intro n
      induction n with
      | zero => intro k l h; exact h
      | succ n ih2 =>
        intro k l h
        have hg := hB.W.g b k
        have hg1 := hg.1
        have hg2 := hg.2
        exact ih2 _ _ (bytes_1 (bytes_1 h (by omega)) (by omega))
    exact kb _ _ _ (bytes_1 (bytes_1 hby (by omega)) (by omega))
theorem sr_image (hB : rB D pg W I) (hP : ∀ I', rO I I' → oR (pf_im D W) I' → bytes (pf_im D W) → P ((pf_im D W).length : Int) I' J) : zr_i (d + 3) 309 [.inr (.inr (some 0))] I J P := by
  have h6 := hB.S.ok.a6 0 0
  have hy := hB.W.y
  have hO : rO I (ax_u I 0 116 0) := fun i j a b => zu_ne (by omega)
  refine zr_ini (M := ax_m309) rfl (Nat.le_of_ble_eq_true rfl) (zq_image_0 I J ?_)
  rw [show (ax_w 0).toNat = 0 from rfl, zu_ne (i := 0) (a := 40) (by omega), hB.y]
  refine sr_writesTwo (l := []) ⟨zu_eq, fun q hq => absurd hq (Nat.not_lt_zero _)⟩ (by decide) (by omega) (fun I1 h1 o1 => sr_image_17 ((hO.trans h1).rB hB) (D 6 0 0).toNat 0 _ I1 (fun _ _ _ _ => rfl) o1 ?_ (by decide) (by omega) ?_ (fun I2 h2 o2 hby => zr_Qi.of ?_))
  · exact bytes_1 (bytes_1 (fun x hx => absurd hx (List.not_mem_nil)) (by omega)) (by omega)
  · rw [List.length_append, List.length_append, List.length_singleton, List.length_singleton, List.length_nil]; omega
  · have := hP I2 ((hO.trans h1).trans h2) o2 (bytes_1 hby (by have := pf_ck_in (pf_im0 D W); omega))
    unfold pf_im at this
    rw [List.length_append, List.length_singleton] at this
    exact this
theorem sr_octet {l : List Int} (hl : oR l I) (h59 : l.length ≤ 59) {k : Int} (hk : n32 k) (hP : P (if 0 ≤ k ∧ k < (l.length : Int) then l.getD k.toNat 0 else -1) I J) : zr_i (d + 1) 310 [.inr (.inr (some 0)), .inl k] I J P := by
  obtain ⟨h1, h2⟩ := hl
  refine zr_ini (M := ax_m310) rfl (Nat.le_of_ble_eq_true rfl) (zq_octet_0 I J k ?_)
  rw [h1, hk.w, zb_w (x := (l.length : Int)) (by omega) (by omega), show ax_w 0 = 0 from rfl]
  refine ⟨fun c => zr_Qi.of ?_, fun c => ⟨fun c2 => ⟨by omega, zr_Qi.of ?_⟩, fun c2 => zr_Qi.of ?_⟩⟩
  · rwa [if_neg (by omega)] at hP
  · rw [h2 k.toNat (by omega)]; rwa [if_pos (by omega)] at hP
  · rwa [if_neg (by omega)] at hP
end ZRE
