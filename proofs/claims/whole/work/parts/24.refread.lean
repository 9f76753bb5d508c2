/-! THE REFERENCE's READERS: names, glyphs, words, seen, codes, doubt, reading -/
def rc (I : zF) : Int → List Int → Prop
  | _, [] => True
  | a, c :: cs => I 39 (1600 + a).toNat = c ∧ rc I (a + 1) cs
def rP (I : zF) (which : Int) (df cs : List Int) : Prop :=
  (I 37 (2 + which).toNat = -1 ∧ cs = df) ∨ (0 ≤ I 37 (2 + which).toNat ∧ I 38 (2 + which).toNat = I 37 (2 + which).toNat + cs.length ∧ I 38 (2 + which).toNat ≤ 1600 ∧ rc I (I 37 (2 + which).toNat) cs ∧ cs ≠ [])
def pf_dd : List Int := [40, 41, 1002, 3, 1]
/-- no letters: the rules of the reading say nothing -/
def dE (D : zD) : Prop := D 0 0 0 = 0 ∧ D 0 1 0 = 0
theorem ndE {D : zD} {h : Int} (hh : 0 ≤ h ∧ h < 2) (hp : 0 < D 0 h 0) : ¬ dE D := by
  rintro ⟨h0, h1⟩
  rcases (show h = 0 ∨ h = 1 by omega) with rfl | rfl
  · omega
  · omega
/-- the reference holds the shop D, pg -/
def rS (D : zD) (pg : zG) (I : zF) : Prop :=
  zD_ok D pg ∧ (∀ h, 0 ≤ h → h < 2 → I 32 (2 + h).toNat = D 0 h 0) ∧
  (∀ h k, 0 ≤ h → h < 2 → 0 ≤ k → k < D 0 h 0 → I 33 (48 + 24 * h + 2 * k).toNat = D 1 h k ∧ I 33 (49 + 24 * h + 2 * k).toNat = D 2 h k) ∧
  I 0 45 = D 3 0 0 ∧ (∀ w, 0 ≤ w → w < D 3 0 0 → I 34 (56 + 7 * w).toNat = D 4 w 0) ∧
  (∀ w k, 0 ≤ w → w < D 3 0 0 → 0 ≤ k → k < D 4 w 0 → I 34 (57 + 7 * w + k).toNat = D 5 w k) ∧ I 0 48 = D 6 0 0 ∧
  (I 36 5 = D 8 2 0 ∧ (dE D ∨ (I 36 3 = D 8 0 0 ∧ I 36 4 = D 8 1 0))) ∧ rP I 0 pf_dd (pg 0) ∧ rP I 1 [] (pg 1)
theorem rS.ok {D : zD} {pg : zG} {I : zF} (h : rS D pg I) : zD_ok D pg := h.1
theorem rS.cn {D : zD} {pg : zG} {I : zF} (h : rS D pg I) {a : Int} (ha : 0 ≤ a ∧ a < 2) : I 32 (2 + a).toNat = D 0 a 0 := h.2.1 a ha.1 ha.2
theorem rS.nm {D : zD} {pg : zG} {I : zF} (h : rS D pg I) {a k : Int} (ha : 0 ≤ a ∧ a < 2) (hk : 0 ≤ k ∧ k < D 0 a 0) : I 33 (48 + 24 * a + 2 * k).toNat = D 1 a k := (h.2.2.1 a k ha.1 ha.2 hk.1 hk.2).1
theorem rS.gl {D : zD} {pg : zG} {I : zF} (h : rS D pg I) {a k : Int} (ha : 0 ≤ a ∧ a < 2) (hk : 0 ≤ k ∧ k < D 0 a 0) : I 33 (49 + 24 * a + 2 * k).toNat = D 2 a k := (h.2.2.1 a k ha.1 ha.2 hk.1 hk.2).2
theorem rS.wn {D : zD} {pg : zG} {I : zF} (h : rS D pg I) : I 0 45 = D 3 0 0 := h.2.2.2.1
theorem rS.wl {D : zD} {pg : zG} {I : zF} (h : rS D pg I) {w : Int} (hw : 0 ≤ w ∧ w < D 3 0 0) : I 34 (56 + 7 * w).toNat = D 4 w 0 := h.2.2.2.2.1 w hw.1 hw.2
theorem rS.wk {D : zD} {pg : zG} {I : zF} (h : rS D pg I) {w k : Int} (hw : 0 ≤ w ∧ w < D 3 0 0) (hk : 0 ≤ k ∧ k < D 4 w 0) : I 34 (57 + 7 * w + k).toNat = D 5 w k := h.2.2.2.2.2.1 w k hw.1 hw.2 hk.1 hk.2
theorem rS.bn {D : zD} {pg : zG} {I : zF} (h : rS D pg I) : I 0 48 = D 6 0 0 := h.2.2.2.2.2.2.1
theorem rS.rl {D : zD} {pg : zG} {I : zF} (h : rS D pg I) (hn : ¬ dE D) : I 36 3 = D 8 0 0 ∧ I 36 4 = D 8 1 0 := h.2.2.2.2.2.2.2.1.2.resolve_left hn
theorem rS.r5 {D : zD} {pg : zG} {I : zF} (h : rS D pg I) : I 36 5 = D 8 2 0 := h.2.2.2.2.2.2.2.1.1
theorem rS.p0 {D : zD} {pg : zG} {I : zF} (h : rS D pg I) : rP I 0 pf_dd (pg 0) := h.2.2.2.2.2.2.2.2.1
theorem rS.p1 {D : zD} {pg : zG} {I : zF} (h : rS D pg I) : rP I 1 [] (pg 1) := h.2.2.2.2.2.2.2.2.2
theorem rc_cong {I I' : zF} (h : ∀ j, I' 39 j = I 39 j) : ∀ (cs : List Int) (a : Int), rc I a cs → rc I' a cs := by
  intro cs
  induction cs with
  | nil => intro a _; trivial
  | cons c cs ih => intro a hc; exact ⟨by rw [h]; exact hc.1, ih _ hc.2⟩
theorem rP_cong {I I' : zF} {which : Int} {df cs : List Int} (h7 : ∀ j, I' 37 j = I 37 j) (h8 : ∀ j, I' 38 j = I 38 j) (h9 : ∀ j, I' 39 j = I 39 j) (h : rP I which df cs) : rP I' which df cs := by
  unfold rP at *
  rw [h7, h8]
  rcases h with h | ⟨a, b, c, e⟩
  · exact Or.inl h
  · exact Or.inr ⟨a, b, c, rc_cong h9 _ _ e.1, e.2⟩
theorem rS_cong {D : zD} {pg : zG} {I I' : zF} (h : rS D pg I) (h2 : ∀ i j, 32 ≤ i → i ≤ 39 → i ≠ 35 → I' i j = I i j) (h0 : I' 0 45 = I 0 45) (h1 : I' 0 48 = I 0 48) : rS D pg I' := by
  unfold rS at *
  obtain ⟨a, b, c, e, f, g, k, l, m, n⟩ := h
  refine ⟨a, fun x y z => by rw [h2 32 _ (by decide) (by decide) (by decide)]; exact b x y z, fun x y p q r s => by rw [h2 33 _ (by decide) (by decide) (by decide), h2 33 _ (by decide) (by decide) (by decide)]; exact c x y p q r s, by rw [h0]; exact e, fun x y z => by rw [h2 34 _ (by decide) (by decide) (by decide)]; exact f x y z, fun x y p q r s => by rw [h2 34 _ (by decide) (by decide) (by decide)]; exact g x y p q r s, by rw [h1]; exact k, ?_, ?_, ?_⟩
  · rw [h2 36 _ (by decide) (by decide) (by decide), h2 36 _ (by decide) (by decide) (by decide), h2 36 _ (by decide) (by decide) (by decide)]; exact l
  · exact rP_cong (fun j => h2 37 j (by decide) (by decide) (by decide)) (fun j => h2 38 j (by decide) (by decide) (by decide)) (fun j => h2 39 j (by decide) (by decide) (by decide)) m
  · exact rP_cong (fun j => h2 37 j (by decide) (by decide) (by decide)) (fun j => h2 38 j (by decide) (by decide) (by decide)) (fun j => h2 39 j (by decide) (by decide) (by decide)) n
/-- nothing has changed but what a reckoning writes -/
def rE (I J I' J' : zF) : Prop := (∀ i j, ¬ (i = 0 ∧ (j = 56 ∨ (59 ≤ j ∧ j ≤ 65) ∨ j = 112)) → I' i j = I i j) ∧ (∀ i j, i ≠ 77 → J' i j = J i j)
theorem rE.refl (I J : zF) : rE I J I J := ⟨fun _ _ _ => rfl, fun _ _ _ => rfl⟩
theorem rE.trans {I J I' J' I2 J2 : zF} (h : rE I J I' J') (h2 : rE I' J' I2 J2) : rE I J I2 J2 := ⟨fun i j k => (h2.1 i j k).trans (h.1 i j k), fun i j k => (h2.2 i j k).trans (h.2 i j k)⟩
theorem rE.rS {D : zD} {pg : zG} {I J I' J' : zF} (h : rE I J I' J') (hS : rS D pg I) : rS D pg I' := rS_cong hS (fun i j a b _ => h.1 i j (by omega)) (h.1 0 45 (by omega)) (h.1 0 48 (by omega))
section ZR1
variable {d : Nat} {I J : zF} {D : zD} {pg : zG} {P : Int → zF → zF → Prop} {P0 : zF → zF → Prop}
theorem sr_nameOf (hS : rS D pg I) {h k : Int} (hh : 0 ≤ h ∧ h < 2) (hk : 0 ≤ k ∧ k < D 0 h 0) (hP : P (D 1 h k) I J) : zr_i (d + 1) 210 [.inr (.inr (some 0)), .inl h, .inl k] I J P := by
  have hb := hS.ok.a0 h 0
  refine zr_ini (M := ax_m210) rfl (Nat.le_of_ble_eq_true rfl) (zq_nameOf_0 I J h k ?_)
  simp (disch := omega) only [zb_w, hS.nm hh hk]
  exact ⟨by omega, zr_Qi.of hP⟩
theorem sr_glyphOf (hS : rS D pg I) {h k : Int} (hh : 0 ≤ h ∧ h < 2) (hk : 0 ≤ k ∧ k < D 0 h 0) (hP : P (D 2 h k) I J) : zr_i (d + 1) 211 [.inr (.inr (some 0)), .inl h, .inl k] I J P := by
  have hb := hS.ok.a0 h 0
  refine zr_ini (M := ax_m211) rfl (Nat.le_of_ble_eq_true rfl) (zq_glyphOf_0 I J h k ?_)
  simp (disch := omega) only [zb_w, hS.gl hh hk]
  exact ⟨by omega, zr_Qi.of hP⟩
theorem sr_letterAt_l (hS : rS D pg I) {h x : Int} (hh : 0 ≤ h ∧ h < 2) (hx : n32 x) {Q : Option ax_v → ax_S → Prop} : ∀ (n : Nat) (k : Int), 0 ≤ k → k + n = D 0 h 0 → Q (some (.inl (pf_find (D 1 h) x n k))) (zr_S I J) → zb_W (d + 1) ax_m212 (2, [some (.inr (.inr (some 0))), some (.inl h), some (.inl x), some (.inl k)], [], zr_S I J) Q := by
  have hb := hS.ok.a0 h 0
  intro n
  induction n with
  | zero =>
    intro k h0 he hQ
    refine zq_letterAt_2 I J h x k ?_
    simp (disch := omega) only [zb_w, hS.cn hh]
    exact ⟨by omega, fun c => by omega, fun _ => hQ⟩
  | succ n ih =>
    intro k h0 he hQ
    have h1 := hS.ok.a1 h k
    unfold pf_find at hQ
    refine zq_letterAt_2 I J h x k ?_
    simp (disch := omega) only [zb_w, hS.cn hh]
    refine ⟨by omega, fun c => sr_nameOf hS hh ⟨h0, c⟩ ?_, fun c => by omega⟩
    rw [hx.w, zb_w (by omega) (by omega)]
    refine ⟨fun e => ?_, fun e => ?_⟩
    · rw [if_pos e] at hQ; exact hQ
    · rw [if_neg e] at hQ; exact ih (k + 1) (by omega) (by omega) hQ
theorem sr_letterAt (hS : rS D pg I) {h x : Int} (hh : 0 ≤ h ∧ h < 2) (hx : n32 x) (hP : P (pf_at D h x) I J) : zr_i (d + 2) 212 [.inr (.inr (some 0)), .inl h, .inl x] I J P := by
  have hb := hS.ok.a0 h 0
  exact zr_ini (M := ax_m212) rfl (Nat.le_of_ble_eq_true rfl) (zq_letterAt_0 I J h x (sr_letterAt_l hS hh hx (D 0 h 0).toNat 0 (by omega) (by omega) (zr_Qi.of hP)))
theorem sr_longOf (hS : rS D pg I) {w : Int} (hw : 0 ≤ w ∧ w < D 3 0 0) (hP : P (D 4 w 0) I J) : zr_i (d + 1) 213 [.inr (.inr (some 0)), .inl w] I J P := by
  have hb := hS.ok.a3 0 0
  refine zr_ini (M := ax_m213) rfl (Nat.le_of_ble_eq_true rfl) (zq_longOf_0 I J w ?_)
  simp (disch := omega) only [zb_w, hS.wl hw]
  exact ⟨by omega, zr_Qi.of hP⟩
theorem sr_letterOf (hS : rS D pg I) {w k : Int} (hw : 0 ≤ w ∧ w < D 3 0 0) (hk : 0 ≤ k ∧ k < D 4 w 0) (hP : P (D 5 w k) I J) : zr_i (d + 1) 214 [.inr (.inr (some 0)), .inl w, .inl k] I J P := by
  have hb := hS.ok.a3 0 0
  have hc := hS.ok.a4 w 0
  refine zr_ini (M := ax_m214) rfl (Nat.le_of_ble_eq_true rfl) (zq_letterOf_0 I J w k ?_)
  simp (disch := omega) only [zb_w, hS.wk hw hk]
  exact ⟨by omega, zr_Qi.of hP⟩
theorem sr_canPaint_l (hS : rS D pg I) {w h : Int} (hw : 0 ≤ w ∧ w < D 3 0 0) (hh : 0 ≤ h ∧ h < 2) {Q : Option ax_v → ax_S → Prop} : ∀ (n : Nat) (k : Int), 0 ≤ k → k + n = D 4 w 0 → Q (some (.inl (pf_can D w h n k))) (zr_S I J) → zb_W (d + 2) ax_m215 (2, [some (.inr (.inr (some 0))), some (.inl w), some (.inl h), some (.inl k)], [], zr_S I J) Q := by
  have hb := hS.ok.a4 w 0
  intro n
  induction n with
  | zero =>
    intro k h0 he hQ
    refine zq_canPaint_2 I J w h k (sr_longOf hS hw ?_)
    simp (disch := omega) only [zb_w]
    exact ⟨fun c => by omega, fun _ => hQ⟩
  | succ n ih =>
    intro k h0 he hQ
    have h5 := hS.ok.a5 w k
    unfold pf_can at hQ
    refine zq_canPaint_2 I J w h k (sr_longOf hS hw ?_)
    simp (disch := omega) only [zb_w]
    refine ⟨fun c => sr_letterOf hS hw ⟨h0, c⟩ (sr_letterAt hS hh ⟨by omega, by omega⟩ ?_), fun c => by omega⟩
    have ha := pf_at_in hS.ok h (D 5 w k)
    have h0' := hS.ok.a0 h 0
    rw [zb_w (x := pf_at D h (D 5 w k)) (by omega) (by omega)]
    refine ⟨fun e => ?_, fun e => ?_⟩
    · rw [if_pos e] at hQ; exact hQ
    · rw [if_neg e] at hQ; exact ih (k + 1) (by omega) (by omega) hQ
theorem sr_canPaint (hS : rS D pg I) {w h : Int} (hw : 0 ≤ w ∧ w < D 3 0 0) (hh : 0 ≤ h ∧ h < 2) (hP : P (pf_canPaint D w h) I J) : zr_i (d + 3) 215 [.inr (.inr (some 0)), .inl w, .inl h] I J P := by
  have hb := hS.ok.a4 w 0
  exact zr_ini (M := ax_m215) rfl (Nat.le_of_ble_eq_true rfl) (zq_canPaint_0 I J w h (sr_canPaint_l hS hw hh (D 4 w 0).toNat 0 (by omega) (by omega) (zr_Qi.of hP)))
theorem pf_can01 (D : zD) (w h : Int) : ∀ (n : Nat) (k : Int), pf_can D w h n k = 0 ∨ pf_can D w h n k = 1 := by
  intro n
  induction n with
  | zero => intro k; exact Or.inr rfl
  | succ n ih => intro k; unfold pf_can; split; exact Or.inl rfl; exact ih _
theorem pf_can_all {D : zD} {w h : Int} : ∀ (n : Nat) (k : Int), pf_can D w h n k = 1 → ∀ j, k ≤ j → j < k + n → pf_at D h (D 5 w j) ≠ -1 := by
  intro n
  induction n with
  | zero => intro k _ j h1 h2; omega
  | succ n ih =>
    intro k hc j h1 h2
    unfold pf_can at hc
    split at hc
    · cases hc
    · rename_i hne
      by_cases e : j = k
      · subst e; exact hne
      · exact ih (k + 1) hc j (by omega) (by omega)
theorem pf_canPaint_all {D : zD} {pg : zG} (ok : zD_ok D pg) {w h : Int} (hc : pf_canPaint D w h = 1) {k : Int} (hk : 0 ≤ k ∧ k < D 4 w 0) : pf_at D h (D 5 w k) ≠ -1 := by
  have := ok.a4 w 0
  exact pf_can_all _ _ hc k hk.1 (by omega)
theorem sr_wordMany (hS : rS D pg I) (hP : P (D 3 0 0) I J) : zr_i (d + 1) 203 [.inr (.inr (some 0))] I J P := by
  refine zr_ini (M := ax_m203) rfl (Nat.le_of_ble_eq_true rfl) (zq_wordMany_0 I J ?_)
  rw [hS.wn]
  exact zr_Qi.of hP
theorem sr_boardMany (hS : rS D pg I) (hP : P (D 6 0 0) I J) : zr_i (d + 1) 204 [.inr (.inr (some 0))] I J P := by
  refine zr_ini (M := ax_m204) rfl (Nat.le_of_ble_eq_true rfl) (zq_boardMany_0 I J ?_)
  rw [hS.bn]
  exact zr_Qi.of hP
theorem ic {a b : Prop} {da : Decidable a} {db : Decidable b} {x y : Int} (h : a ↔ b) : (if a then x else y) = (if b then x else y) := by
  by_cases k : a
  · rw [if_pos k, if_pos (h.mp k)]
  · rw [if_neg k, if_neg (fun q => k (h.mpr q))]
theorem i01 {c : Prop} {dc : Decidable c} : (if c then (1 : Int) else 0) = 0 ∨ (if c then (1 : Int) else 0) = 1 := by
  by_cases h : c
  · rw [if_pos h]; exact Or.inr rfl
  · rw [if_neg h]; exact Or.inl rfl
theorem sr_isWord (hS : rS D pg I) {w : Int} (hw : n64 w) (hP : P (if 0 ≤ w ∧ w < D 3 0 0 then 1 else 0) I J) : zr_i (d + 2) 206 [.inr (.inr (some 0)), .inr (.inl w)] I J P := by
  have hb := hS.ok.a3 0 0
  refine zr_ini (M := ax_m206) rfl (Nat.le_of_ble_eq_true rfl) (zq_isWord_0 I J w (sr_wordMany hS ?_))
  simp (disch := omega) only [zb_w]
  refine sr_isIn hw ⟨by decide, by decide⟩ ⟨by omega, by omega⟩ ⟨i01, ?_⟩
  rw [ic (show (0 ≤ w ∧ w ≤ D 3 0 0 - 1) ↔ (0 ≤ w ∧ w < D 3 0 0) by omega)]
  exact zr_Qi.of hP
theorem sr_isBoard (hS : rS D pg I) {b : Int} (hw : n32 b) (hP : P (if 0 ≤ b ∧ b < D 6 0 0 then 1 else 0) I J) : zr_i (d + 2) 207 [.inr (.inr (some 0)), .inl b] I J P := by
  have hb := hS.ok.a6 0 0
  refine zr_ini (M := ax_m207) rfl (Nat.le_of_ble_eq_true rfl) (zq_isBoard_0 I J b (sr_boardMany hS ?_))
  rw [hw.w]
  simp (disch := omega) only [zb_w]
  refine sr_isIn hw.n64 ⟨by decide, by decide⟩ ⟨by omega, by omega⟩ ⟨i01, ?_⟩
  rw [ic (show (0 ≤ b ∧ b ≤ D 6 0 0 - 1) ↔ (0 ≤ b ∧ b < D 6 0 0) by omega)]
  exact zr_Qi.of hP
theorem sr_isLetterOf (hS : rS D pg I) {h k : Int} (hh : n32 h) (hk : n32 k) (hP : P (if (0 ≤ h ∧ h < 2) ∧ (0 ≤ k ∧ k < D 0 h 0) then 1 else 0) I J) : zr_i (d + 3) 208 [.inr (.inr (some 0)), .inl h, .inl k] I J P := by
  have hb := hS.ok.a0 h 0
  refine zr_ini (M := ax_m208) rfl (Nat.le_of_ble_eq_true rfl) (zq_isLetterOf_0 I J h k (sr_isHand hh ?_))
  by_cases c : 0 ≤ h ∧ h ≤ 1
  · rw [if_pos c]
    refine ⟨fun e => absurd e (by decide), fun _ => ?_⟩
    have hh2 : 0 ≤ h ∧ h < 2 := by omega
    rw [hk.w]
    simp (disch := omega) only [zb_w, hS.cn hh2]
    refine ⟨by omega, sr_isIn hk.n64 ⟨by decide, by decide⟩ ⟨by omega, by omega⟩ ?_⟩
    by_cases c2 : 0 ≤ k ∧ k ≤ D 0 h 0 - 1
    · rw [if_pos c2]
      rw [if_pos ⟨hh2, by omega⟩] at hP
      exact ⟨fun e => absurd e (by decide), fun _ => zr_Qi.of hP⟩
    · rw [if_neg c2]
      rw [if_neg (fun q => c2 (by omega))] at hP
      exact ⟨fun _ => zr_Qi.of hP, fun e => absurd rfl e⟩
  · rw [if_neg c]
    rw [if_neg (fun q => c (by omega))] at hP
    exact ⟨fun _ => zr_Qi.of hP, fun e => absurd rfl e⟩
theorem sr_isGlyph {g : Int} (hg : n32 g) (hP : P (if 0 ≤ g ∧ g < 32768 then 1 else 0) I J) : zr_i (d + 2) 209 [.inr (.inr (some 0)), .inl g] I J P := by
  refine zr_ini (M := ax_m209) rfl (Nat.le_of_ble_eq_true rfl) (zq_isGlyph_0 I J g ?_)
  rw [hg.w]
  refine sr_isIn hg.n64 ⟨by decide, by decide⟩ ⟨by decide, by decide⟩ ⟨i01, ?_⟩
  rw [ic (show (0 ≤ g ∧ g ≤ 32767) ↔ (0 ≤ g ∧ g < 32768) by omega)]
  exact zr_Qi.of hP
theorem sr_bits_l {Q : Option ax_v → ax_S → Prop} : ∀ (n : Nat) (a x : Int), 0 ≤ x → x ≤ n → x < 32768 → Q (some (.inl (a + pf_pc n x))) (zr_S I J) → zb_W d ax_m220 (4, [none, some (.inl a), some (.inl x)], [], zr_S I J) Q := by
  intro n
  induction n with
  | zero =>
    intro a x h0 h1 h2 hQ
    refine zq_bits_4 I J a x ?_
    simp (disch := omega) only [zb_w]
    refine ⟨fun _ => ?_, fun c => by omega⟩
    unfold pf_pc at hQ
    rw [Int.add_zero] at hQ
    exact hQ
  | succ n ih =>
    intro a x h0 h1 h2 hQ
    refine zq_bits_4 I J a x ?_
    simp (disch := omega) only [zb_w]
    unfold pf_pc at hQ
    refine ⟨fun c => ?_, fun c => ?_⟩
    · rw [if_pos c, Int.add_zero] at hQ
      exact hQ
    · rw [if_neg c] at hQ
      have hp := and_pred (x := x) (by omega) (by omega)
      refine ih (a + 1) _ hp.1 (by omega) (by omega) ?_
      rw [show a + 1 + pf_pc n (ax_and x (x - 1)) = a + (pf_pc n (ax_and x (x - 1)) + 1) by omega]
      exact hQ
theorem sr_bits {x : Int} (hx : g15 x) (hP : P (pf_bits x) I J) : zr_i (d + 1) 220 [.inl x] I J P := by
  refine zr_ini (M := ax_m220) rfl (Nat.le_of_ble_eq_true rfl) (zq_bits_0 I J x (sr_bits_l 32767 0 x hx.1 (by have := hx.2; omega) hx.2 ?_))
  rw [Int.zero_add]
  exact zr_Qi.of hP
theorem pf_pc_in : ∀ (n : Nat) (x : Int), 0 ≤ pf_pc n x ∧ pf_pc n x ≤ n := by
  intro n
  induction n with
  | zero => intro x; exact ⟨Int.le_refl 0, Int.le_refl 0⟩
  | succ n ih =>
    intro x
    unfold pf_pc
    have := ih (ax_and x (x - 1))
    split <;> omega
theorem pf_bits_b (x : Int) : 0 ≤ pf_bits x ∧ pf_bits x ≤ 32767 := pf_pc_in 32767 x
theorem sr_inkOf_l (hS : rS D pg I) {w : Int} (hw : 0 ≤ w ∧ w < D 3 0 0) {Q : Option ax_v → ax_S → Prop} : ∀ (n : Nat) (k a : Int), 0 ≤ k → k + n = D 4 w 0 → Q (some (.inl (pf_inkL D w n k a))) (zr_S I J) → zb_W (d + 2) ax_m221 (4, [some (.inr (.inr (some 0))), some (.inl w), some (.inl a), some (.inl k)], [], zr_S I J) Q := by
  have hb := hS.ok.a4 w 0
  intro n
  induction n with
  | zero =>
    intro k a h0 he hQ
    refine zq_inkOf_4 I J w a k (sr_longOf hS hw ?_)
    simp (disch := omega) only [zb_w]
    exact ⟨fun c => by omega, fun _ => hQ⟩
  | succ n ih =>
    intro k a h0 he hQ
    have h5 := hS.ok.a5 w k
    unfold pf_inkL at hQ
    refine zq_inkOf_4 I J w a k (sr_longOf hS hw ?_)
    simp (disch := omega) only [zb_w]
    have hc := pf_canPaint_all hS.ok (hS.ok.2.1.2.2.2.2 w hw.1 hw.2) (k := k) ⟨h0, by omega⟩
    have ha := pf_at_in hS.ok 0 (D 5 w k)
    refine ⟨fun c => sr_letterOf hS hw ⟨h0, c⟩ (sr_letterAt hS ⟨by decide, by decide⟩ ⟨by omega, by omega⟩ (sr_glyphOf hS ⟨by decide, by decide⟩ (by omega) (sr_bits (hS.ok.a2 _ _) (ih (k + 1) _ (by omega) (by omega) ?_)))), fun c => by omega⟩
    unfold pf_pg at hQ
    rw [if_neg hc] at hQ
    exact hQ
theorem sr_inkOf (hS : rS D pg I) {w : Int} (hw : 0 ≤ w ∧ w < D 3 0 0) (hP : P (pf_ink D w) I J) : zr_i (d + 3) 221 [.inr (.inr (some 0)), .inl w] I J P := by
  have hb := hS.ok.a4 w 0
  exact zr_ini (M := ax_m221) rfl (Nat.le_of_ble_eq_true rfl) (zq_inkOf_0 I J w (sr_inkOf_l hS hw (D 4 w 0).toNat 0 0 (by omega) (by omega) (zr_Qi.of hP)))
end ZR1
