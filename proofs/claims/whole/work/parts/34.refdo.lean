/-! THE REFERENCE: acts and their undoing -/
def consU (W : zD) (U : Nat → zD) : Nat → zD
  | 0 => W
  | i + 1 => U i
/-- what can be undone: U i is the state i acts ago -/
def uR (D : zD) (U : Nat → zD) (u : Int) (I : zF) : Prop := I 0 78 = u ∧ (0 ≤ u ∧ u ≤ 20) ∧ (0 ≤ I 0 79 ∧ I 0 79 < 20) ∧ ∀ i : Nat, (i : Int) < u → wOk D (U i) ∧ rowR (U i) (fun j => I 50 ((154 * ((I 0 79 + 20 - i) % 20)).toNat + j))
theorem rowR_mv {W : zD} {f g : Nat → Int} (h : rowR W f) (hn : 0 ≤ W 4 0 0 ∧ W 4 0 0 ≤ 40) (e : ∀ j, j < 154 → g j = f j) : rowR W g := by
  obtain ⟨f1, f2, f3, f4, f5⟩ := h
  refine ⟨?_, fun x y z => ⟨?_, ?_⟩, fun x y a1 a2 a3 a4 => ?_, ?_, fun x c a1 a2 a3 a4 => ?_⟩
  · exact (e 0 (by decide)).trans f1
  · exact (e _ (by omega)).trans (f2 x y z).1
  · exact (e _ (by omega)).trans (f2 x y z).2
  · exact (e _ (by omega)).trans (f3 x y a1 a2 a3 a4)
  · exact (e 33 (by decide)).trans f4
  · exact (e _ (by omega)).trans (f5 x c a1 a2 a3 a4)
def cpk (f g : Nat → Int) (b k : Int) : Nat → Int := fun j => if b ≤ (j : Int) ∧ (j : Int) < b + k then g (j - b.toNat) else f j
theorem cpk_0 {f g : Nat → Int} {b : Int} : cpk f g b 0 = f := by
  funext j
  unfold cpk
  rw [if_neg (by omega)]
theorem cpk_step {f g : Nat → Int} {b k : Int} (hb : 0 ≤ b) (hk : 0 ≤ k) : sr (cpk f g b k) (b + k).toNat (g k.toNat) = cpk f g b (k + 1) := by
  funext j
  by_cases e : j = (b + k).toNat
  · subst e
    rw [sr_eq]
    unfold cpk
    rw [if_pos (by omega)]
    exact congrArg g (by omega)
  · rw [sr_ne e]
    unfold cpk
    by_cases q : b ≤ (j : Int) ∧ (j : Int) < b + k
    · rw [if_pos q, if_pos (by omega)]
    · rw [if_neg q, if_neg (by omega)]
theorem uR_cong {D : zD} {U : Nat → zD} {u : Int} {I I' : zF} (h : uR D U u I) (h5 : ∀ j, I' 50 j = I 50 j) (h8 : I' 0 78 = I 0 78) (h9 : I' 0 79 = I 0 79) : uR D U u I' := by
  obtain ⟨a, b, c, e⟩ := h
  refine ⟨by rw [h8]; exact a, b, by rw [h9]; exact c, fun i hi => ⟨(e i hi).1, ?_⟩⟩
  have : (fun j => I' 50 ((154 * ((I' 0 79 + 20 - i) % 20)).toNat + j)) = (fun j => I 50 ((154 * ((I 0 79 + 20 - i) % 20)).toNat + j)) := by
    funext j
    rw [h5, h9]
  rw [this]
  exact (e i hi).2
theorem rX.uR {D : zD} {U : Nat → zD} {u : Int} {I J I' J' : zF} (h : rX I J I' J') (hU : uR D U u I) : uR D U u I' := uR_cong hU (fun j => h.1 50 j (by omega) (by omega) (by omega)) (h.1 0 78 (by omega) (by omega) (by omega)) (h.1 0 79 (by omega) (by omega) (by omega))
def rK (I I' : zF) : Prop := ∀ i j, i ≠ 50 → ¬ (i = 0 ∧ (j = 78 ∨ j = 79)) → I' i j = I i j
theorem rK.rB {D : zD} {pg : zG} {W : zD} {I I' : zF} (h : rK I I') (hB : rB D pg W I) : rB D pg W I' := ⟨rS_cong hB.S (fun i j _ _ _ => h i j (by omega) (by omega)) (h 0 45 (by omega) (by omega)) (h 0 48 (by omega) (by omega)), hB.W, by rw [show I' 40 = I 40 from funext (fun j => h 40 j (by omega) (by omega))]; exact hB.2.2⟩
/-- a draw -/
def pf_next (s : Int) : Int := (1103515245 * s + 12345) % 2147483648
def s31 (s : Int) : Prop := 0 ≤ s ∧ s < 2147483648
theorem pf_next_in (s : Int) : s31 (pf_next s) := ⟨Int.emod_nonneg _ (by decide), Int.emod_lt_of_pos _ (by decide)⟩
def pf_hb1 (D : zD) (s : Int) : Int := pf_next s / 64 % D 6 0 0
def pf_hk (D W : zD) (s : Int) : Int := pf_next (pf_next s) / 64 % D 4 (W 1 (pf_hb1 D s) 0) 0
def pf_hi (s : Int) : Int := pf_next (pf_next (pf_next s)) / 64 % 15
def pf_hW (D W : zD) (s : Int) : zD := wu W 3 (pf_hb1 D s) (pf_hk D W s) (ax_and (W 3 (pf_hb1 D s) (pf_hk D W s)) (ax_xor (ax_shl 1 (pf_hi s)) (-1)))
def pf_hl (D W : zD) (s : Int) : Int := ax_and (ax_shr (W 3 (pf_hb1 D s) (pf_hk D W s)) (pf_hi s)) 1
def pf_cW (D : zD) (W : zD) (s : Int) : zD := if pf_next s / 64 % 100 < D 8 2 0 ∧ 0 < D 6 0 0 then pf_hW D W (pf_next s) else W
def pf_cS (D : zD) (s : Int) : Int := if pf_next s / 64 % 100 < D 8 2 0 ∧ 0 < D 6 0 0 then pf_next (pf_next (pf_next (pf_next s))) else pf_next s
def pf_cl (D : zD) (W : zD) (s : Int) : Int := if pf_next s / 64 % 100 < D 8 2 0 ∧ 0 < D 6 0 0 then pf_hl D W (pf_next s) else 0
def pf_chW (D : zD) (pg : zG) : Nat → zD → Int → zD
  | 0, W, _ => W
  | n + 1, W, s => pf_chW D pg n (pf_year D pg W (pf_cW D W s)) (pf_cS D s)
def pf_chS (D : zD) : Nat → Int → Int
  | 0, s => s
  | n + 1, s => pf_chS D n (pf_cS D s)
def pf_chL (D : zD) (pg : zG) : Nat → zD → Int → Int → Int
  | 0, _, _, l => l
  | n + 1, W, s, l => pf_chL D pg n (pf_year D pg W (pf_cW D W s)) (pf_cS D s) (l + pf_cl D W s)
theorem wOk_wu3 {D W : zD} (h : wOk D W) {b k v : Int} (hb : 0 ≤ b ∧ b < D 6 0 0) (hv : g15 v) : wOk D (wu W 3 b k v) := by
  obtain ⟨a, b', c, d, e, f⟩ := h
  refine ⟨?_, fun x y z => ?_, fun x y => ?_, ?_, fun x => ?_, fun x y z => ?_⟩
  · rw [wu_ne (by omega)]; exact a
  · rw [wu_ne (by omega), wu_ne (by omega)]; exact b' x y z
  · unfold wu
    split
    · exact hv
    · exact c x y
  · rw [wu_ne (by omega)]; exact d
  · rw [wu_ne (by omega), wu_ne (by omega), wu_ne (by omega)]; exact e x
  · rw [wu_ne (by omega), wu_ne (by omega)]
    have := f x y z
    exact ⟨this.1, this.2.1, fun k => by rw [wu_ne (by omega)]; exact this.2.2 k⟩
theorem pf_hb1_in {D : zD} {pg : zG} (ok : zD_ok D pg) (h : 0 < D 6 0 0) (s : Int) : 0 ≤ pf_hb1 D s ∧ pf_hb1 D s < D 6 0 0 := ⟨Int.emod_nonneg _ (by omega), Int.emod_lt_of_pos _ h⟩
theorem pf_hk_in {D W : zD} {pg : zG} (ok : zD_ok D pg) (hW : wOk D W) (h : 0 < D 6 0 0) (s : Int) : 0 ≤ pf_hk D W s ∧ pf_hk D W s < D 4 (W 1 (pf_hb1 D s) 0) 0 ∧ 1 ≤ D 4 (W 1 (pf_hb1 D s) 0) 0 := by
  have hw := hW.w (pf_hb1_in ok h s)
  have h4 := ok.2.1.2.1 _ hw.1 hw.2
  exact ⟨Int.emod_nonneg _ (by omega), Int.emod_lt_of_pos _ (by omega), h4⟩
theorem pf_hi_in (s : Int) : 0 ≤ pf_hi s ∧ pf_hi s < 15 := ⟨Int.emod_nonneg _ (by omega), Int.emod_lt_of_pos _ (by omega)⟩
theorem wOk_cW {D W : zD} {pg : zG} (ok : zD_ok D pg) (h : wOk D W) (s : Int) : wOk D (pf_cW D W s) := by
  unfold pf_cW
  split
  · rename_i q
    exact wOk_wu3 h (pf_hb1_in ok q.2 _) (g15_andn (h.g _ _) (g15_shl (pf_hi_in _)).g31)
  · exact h
theorem pf_cW_o {D W : zD} {s : Int} {i : Nat} (h : i ≠ 3) (a b : Int) : pf_cW D W s i a b = W i a b := by
  unfold pf_cW pf_hW
  split
  · exact wu_ne (fun q => h q.1)
  · rfl
section ZRA
variable {d : Nat} {I J : zF} {D : zD} {pg : zG} {W : zD} {P : Int → zF → zF → Prop} {P0 : zF → zF → Prop}
theorem sr_keeps_l {w : Int} (hw : 0 ≤ w ∧ w < 20) {f : Nat → Int} {Q : Option ax_v → ax_S → Prop} : ∀ (n : Nat) (k : Int) (I : zF), I 0 79 = w → I 50 = cpk f (I 40) (154 * w) k → 0 ≤ k → k + n = 154 → (∀ I' : zF, (∀ i, i ≠ 50 → I' i = I i) → I' 50 = cpk f (I 40) (154 * w) 154 → zb_W d ax_m266 (15, [some (.inr (.inr (some 0))), some (.inl 154)], [], zr_S I' J) Q) → zb_W d ax_m266 (15, [some (.inr (.inr (some 0))), some (.inl k)], [], zr_S I J) Q := by
  intro n
  induction n with
  | zero =>
    intro k I hI hf h0 he hQ
    have e : k = 154 := by omega
    subst e
    exact hQ I (fun _ _ => rfl) hf
  | succ n ih =>
    intro k I hI hf h0 he hQ
    refine zq_keeps_15 I J k ?_
    rw [hI]
    simp (disch := omega) only [zb_w]
    have e40 : (ax_u I 50 (154 * w + k).toNat (I 40 k.toNat)) 40 = I 40 := zu_oth (by decide)
    refine ⟨fun c => ⟨by omega, by omega, ih (k + 1) _ ?_ ?_ (by omega) (by omega) (fun I' h1 h2 => hQ I' (fun i q => ?_) ?_)⟩, fun c => by omega⟩
    · rw [zu_ne (by omega)]; exact hI
    · rw [zu_row, hf, e40, cpk_step (by omega) h0]
    · rw [h1 i q, zu_oth q]
    · rw [h2, e40]
theorem sr_keeps {U : Nat → zD} {u : Int} (hU : uR D U u I) (hW : wOk D W) (hr : rowR W (I 40)) (hP : ∀ I', rK I I' → uR D (consU W U) (if u < 20 then u + 1 else u) I' → P0 I' J) : zr_v (d + 1) 266 [.inr (.inr (some 0))] I J P0 := by
  obtain ⟨h8, hu, h9, hrow⟩ := hU
  have et : Int.tmod (I 0 79 + 1) 20 = (I 0 79 + 1) % 20 := Int.tmod_eq_emod_of_nonneg (by omega)
  refine zr_inv (M := ax_m266) rfl (Nat.le_of_ble_eq_true rfl) (zq_keeps_0 I J ?_)
  rw [zb_w (x := I 0 79 + 1) (by omega) (by omega), zb_w (x := 20) (by omega) (by omega), et]
  refine sr_keeps_l (w := (I 0 79 + 1) % 20) (by omega) (f := I 50) 154 0 _ zu_eq (by rw [cpk_0, zu_oth (by decide)]) (by decide) (by decide) (fun I1 h1 h2 => zq_keeps_15 I1 J 154 ⟨fun c => absurd c (by decide), fun _ => ?_⟩)
  rw [zu_oth (i' := 40) (by decide)] at h2
  have e8 : I1 0 78 = u := by rw [h1 0 (by decide), zu_ne (by omega)]; exact h8
  have e9 : I1 0 79 = (I 0 79 + 1) % 20 := by rw [h1 0 (by decide), zu_eq]
  have key : ∀ I2 : zF, (∀ i j, ¬ (i = 0 ∧ j = 78) → I2 i j = I1 i j) → I2 0 78 = (if u < 20 then u + 1 else u) → zr_Qv P0 none (zr_S I2 J) := by
    intro I2 g1 g2
    refine zr_Qv.of (hP I2 (fun i j q1 q2 => ?_) ⟨g2, by split <;> omega, by rw [g1 0 79 (by omega), e9]; omega, fun i hi => ?_⟩)
    · rw [g1 i j (by omega), h1 i q1, zu_ne (by omega)]
    · have e92 : I2 0 79 = (I 0 79 + 1) % 20 := by rw [g1 0 79 (by omega), e9]
      have e50 : ∀ j, I2 50 j = cpk (I 50) (I 40) (154 * ((I 0 79 + 1) % 20)) 154 j := fun j => by rw [g1 50 j (by omega), h2]
      have hi20 : (i : Int) < 20 := by split at hi <;> omega
      cases i with
      | zero =>
        refine ⟨hW, rowR_mv hr hW.n (fun j hj => ?_)⟩
        show I2 50 _ = I 40 j
        rw [e50, e92]
        unfold cpk
        rw [if_pos (by omega)]
        exact congrArg (I 40) (by omega)
      | succ i =>
        have hiu : (i : Int) < u := by split at hi <;> omega
        refine ⟨(hrow i hiu).1, rowR_mv (hrow i hiu).2 (hrow i hiu).1.n (fun j hj => ?_)⟩
        show I2 50 _ = I 50 _
        rw [e50, e92]
        unfold cpk
        rw [if_neg (by omega)]
        exact congrArg (I 50) (by omega)
  rw [e8]
  simp (disch := omega) only [zb_w]
  refine ⟨fun c => key _ (fun i j q => zu_ne (by omega)) ?_, fun c => key I1 (fun _ _ _ => rfl) ?_⟩
  · rw [zu_eq, if_pos c]
  · rw [e8, if_neg c]
theorem sr_undo_l {w : Int} (hw : 0 ≤ w ∧ w < 20) {f : Nat → Int} {Q : Option ax_v → ax_S → Prop} : ∀ (n : Nat) (k : Int) (I : zF), I 0 79 = w → I 40 = cpk f (fun j => I 50 ((154 * w).toNat + j)) 0 k → 0 ≤ k → k + n = 154 → (∀ I' : zF, (∀ i, i ≠ 40 → I' i = I i) → I' 40 = cpk f (fun j => I 50 ((154 * w).toNat + j)) 0 154 → zb_W d ax_m267 (21, [some (.inr (.inr (some 0))), some (.inl 154)], [], zr_S I' J) Q) → zb_W d ax_m267 (21, [some (.inr (.inr (some 0))), some (.inl k)], [], zr_S I J) Q := by
  intro n
  induction n with
  | zero =>
    intro k I hI hf h0 he hQ
    have e : k = 154 := by omega
    subst e
    exact hQ I (fun _ _ => rfl) hf
  | succ n ih =>
    intro k I hI hf h0 he hQ
    refine zq_undo_21 I J k ?_
    rw [hI]
    simp (disch := omega) only [zb_w]
    have e50 : ∀ v, (ax_u I 40 k.toNat v) 50 = I 50 := fun v => zu_oth (by decide)
    refine ⟨fun c => ⟨by omega, by omega, ih (k + 1) _ ?_ ?_ (by omega) (by omega) (fun I' h1 h2 => hQ I' (fun i q => ?_) ?_)⟩, fun c => by omega⟩
    · rw [zu_ne (by omega)]; exact hI
    · rw [zu_row, hf, e50, ← cpk_step (Int.le_refl 0) h0]
      have e1 : (0 + k).toNat = k.toNat := by omega
      have e2 : (154 * w + k).toNat = (154 * w).toNat + k.toNat := by omega
      rw [e1, e2]
    · rw [h1 i q, zu_oth q]
    · rw [h2, e50]
theorem sr_undo {U : Nat → zD} {u : Int} (hU : uR D U u I) (hS : rS D pg I) (hP0 : u = 0 → P 0 (ax_u I 2 4 (I 2 4 + 1)) J) (hP : ∀ I', 0 < u → (∀ i j, i ≠ 40 → ¬ (i = 0 ∧ (j = 78 ∨ j = 79)) → I' i j = I i j) → rB D pg (U 0) I' → uR D (fun i => U (i + 1)) (u - 1) I' → P 1 I' J) : zr_i (d + 1) 267 [.inr (.inr (some 0))] I J P := by
  obtain ⟨h8, hu, h9, hrow⟩ := hU
  refine zr_ini (M := ax_m267) rfl (Nat.le_of_ble_eq_true rfl) (zq_undo_0 I J ?_)
  rw [h8]
  simp (disch := omega) only [zb_w]
  refine ⟨fun c => zr_Qi.of (hP0 c), fun c => ?_⟩
  refine sr_undo_l h9 (f := I 40) 154 0 I rfl cpk_0.symm (by decide) (by decide) (fun I1 h1 h2 => zq_undo_21 I1 J 154 ⟨fun c => absurd c (by decide), fun _ => ?_⟩)
  have e8 : I1 0 78 = u := by rw [h1 0 (by decide)]; exact h8
  have e9 : I1 0 79 = I 0 79 := by rw [h1 0 (by decide)]
  have et : Int.tmod (I 0 79 + 20 - 1) 20 = (I 0 79 + 20 - 1) % 20 := Int.tmod_eq_emod_of_nonneg (by omega)
  rw [e9, zb_w (x := I 0 79 + 20 - 1) (by omega) (by omega), zb_w (x := 20) (by omega) (by omega), et, zu_ne (i := 0) (j := 79) (a := 0) (b := 78) (by omega), e8]
  have hr0 := hrow 0 (by omega)
  refine zr_Qi.of (hP _ (by omega) (fun i j q1 q2 => ?_) ⟨?_, hr0.1, ?_⟩ ⟨zu_eq, by omega, ?_, fun i hi => ?_⟩)
  · rw [zu_ne (by omega), zu_ne (by omega), h1 i q1]
  · refine rS_cong hS (fun i j q1 q2 _ => ?_) ?_ ?_
    · rw [zu_ne (by omega), zu_ne (by omega), h1 i (by omega)]
    · rw [zu_ne (by omega), zu_ne (by omega), h1 0 (by omega)]
    · rw [zu_ne (by omega), zu_ne (by omega), h1 0 (by omega)]
  · rw [zu_oth (by decide), zu_oth (by decide), h2]
    refine rowR_mv hr0.2 hr0.1.n (fun j hj => ?_)
    show _ = I 50 _
    unfold cpk
    rw [if_pos (by omega)]
    exact congrArg (I 50) (by omega)
  · rw [zu_ne (by omega), zu_eq]
    omega
  · refine ⟨(hrow (i + 1) (by omega)).1, ?_⟩
    have e : (fun j => (ax_u (ax_u I1 0 79 ((I 0 79 + 20 - 1) % 20)) 0 78 (u - 1)) 50 ((154 * (((ax_u (ax_u I1 0 79 ((I 0 79 + 20 - 1) % 20)) 0 78 (u - 1)) 0 79 + 20 - (i : Int)) % 20)).toNat + j)) = (fun j => I 50 ((154 * ((I 0 79 + 20 - ((i + 1 : Nat) : Int)) % 20)).toNat + j)) := by
      funext j
      rw [zu_ne (i := 0) (j := 78) (a := 50) (by omega), zu_ne (i := 0) (j := 79) (a := 50) (by omega), h1 50 (by decide), zu_ne (i := 0) (j := 78) (b := 79) (by omega), zu_eq]
      exact congrArg (I 50) (by omega)
    rw [e]
    exact (hrow (i + 1) (by omega)).2
theorem sr_refuses {c : Int} (hc : 0 ≤ c ∧ c < 6) (hP : P (-1) (ax_u I 2 c.toNat (I 2 c.toNat + 1)) J) : zr_i (d + 1) 268 [.inr (.inr (some 0)), .inl c] I J P := by
  refine zr_ini (M := ax_m268) rfl (Nat.le_of_ble_eq_true rfl) (zq_refuses_0 I J c ?_)
  rw [zb_w (x := c) (by omega) (by omega)]
  exact ⟨by omega, by omega, zr_Qi.of hP⟩
theorem sr_isRefused (hP : P 0 (ax_u I 2 2 (I 2 2 + 1)) J) : zr_i (d + 1) 274 [.inr (.inr (some 0))] I J P := zr_ini (M := ax_m274) rfl (Nat.le_of_ble_eq_true rfl) (zq_isRefused_0 I J (zr_Qi.of hP))
theorem sr_yearsGo_l {m : Int} (hm : n32 m) {Q : Option ax_v → ax_S → Prop} : ∀ (n : Nat) (k : Int) (W : zD) (I J : zF), rB D pg W I → I 0 66 = 0 → W 0 0 0 + n ≤ 999 → 0 ≤ k → k + n = m → (∀ I' J', rX I J I' J' → rB D pg (pf_yearsN D pg n W) I' → I' 0 67 = pf_yl D pg n W (I 0 67) → Q none (zr_S I' J')) → zb_W (d + 7) ax_m232 (2, [some (.inr (.inr (some 0))), some (.inl m), some (.inl k)], [], zr_S I J) Q := by
  have hm2 := hm.2
  intro n
  induction n with
  | zero =>
    intro k W I J hB h66 hy h0 he hQ
    refine zq_yearsGo_2 I J m k ?_
    rw [hm.w, zb_w (x := k) (by omega) (by omega)]
    exact ⟨fun c => by omega, fun _ => hQ I J (rX.refl I J) hB rfl⟩
  | succ n ih =>
    intro k W I J hB h66 hy h0 he hQ
    refine zq_yearsGo_2 I J m k ?_
    rw [hm.w, zb_w (x := k) (by omega) (by omega), h66]
    refine ⟨fun c => b0 (sr_laysSaid hB (fun I1 J1 hL hA => zq_yearsGo_18 I1 J1 m k (sr_yearGoes (hL.rB hB) (fun _ => rfl) hA (by rw [hL.1 0 66 (by omega) (by omega)]; exact h66) (by omega) (fun I2 J2 hF2 h67 hB2 => ?_)))), fun c => by omega⟩
    refine ih (k + 1) _ I2 J2 hB2 (by rw [hF2.1 0 66 (by omega) (by omega), hL.1 0 66 (by omega) (by omega)]; exact h66) (by rw [pf_year_y]; omega) (by omega) (by omega) (fun I' J' a b c => hQ I' J' ((hL.rX.trans hF2.rX).trans a) b ?_)
    rw [c, h67, hL.1 0 67 (by omega) (by omega)]
    rfl
theorem sr_years {U : Nat → zD} {u : Int} (hB : rB D pg W I) (hU : uR D U u I) (h66 : I 0 66 = 0) {n : Int} (hn : n32 n) (hP0 : ¬ ((1 ≤ n ∧ n ≤ 100) ∧ W 0 0 0 + n ≤ 999) → P (-1) (ax_u I 2 3 (I 2 3 + 1)) J) (hP : (1 ≤ n ∧ n ≤ 100) ∧ W 0 0 0 + n ≤ 999 → ∀ I' J' I2, rK I I2 → rX I2 J I' J' → rB D pg (pf_yearsN D pg n.toNat W) I' → uR D (consU W U) (if u < 20 then u + 1 else u) I' → P (pf_yl D pg n.toNat W 0) I' J') : zr_i (d + 9) 269 [.inr (.inr (some 0)), .inl n] I J P := by
  refine zr_ini (M := ax_m269) rfl (Nat.le_of_ble_eq_true rfl) (zq_years_0 I J n (sr_isAhead hB hn ⟨by decide, by decide⟩ ⟨by decide, by decide⟩ (by decide) (by decide) (bc (fun q => sr_keeps hU hB.W hB.2.2 (fun I1 hK hU1 => ?_)) (fun q => sr_refuses ⟨by decide, by decide⟩ (zr_Qi.of (hP0 q))))))
  have hB1 := hK.rB hB
  have hX : rX I1 J (ax_u I1 0 67 0) J := ⟨fun i j q1 q2 q3 => zu_ne (by omega), rfl⟩
  refine zr_inv (M := ax_m232) rfl (Nat.le_of_ble_eq_true rfl) (zq_yearsGo_0 _ J n (sr_yearsGo_l hn n.toNat 0 W _ J ⟨hX.rS hB1.S, hB.W, by rw [zu_oth (by decide)]; exact hB1.2.2⟩ (by rw [zu_ne (by omega), hK 0 66 (by omega) (by omega)]; exact h66) (by omega) (by decide) (by omega) (fun I' J' a b c => zr_Qv.of ?_)))
  rw [c, zu_eq]
  exact zr_Qi.of (hP q I' J' I1 hK (hX.trans a) b ((hX.trans a).uR hU1))
theorem sr_seed {s : Int} (hs : n32 s) (hP0 : s < 0 → P 0 (ax_u I 2 5 (I 2 5 + 1)) J) (hP : 0 ≤ s → P 1 I (ax_u J 0 80 s)) : zr_i (d + 1) 270 [.inr (.inr (some 0)), .inl s] I J P := by
  refine zr_ini (M := ax_m270) rfl (Nat.le_of_ble_eq_true rfl) (zq_seed_0 I J s ?_)
  rw [hs.w]
  exact ⟨fun c => zr_Qi.of (hP0 c), fun c => zr_Qi.of (hP (by have c' : ¬ s < 0 := c; omega))⟩
theorem sr_drawOf {s m : Int} (hJ : J 0 80 = s) (hs : s31 s) (hm : 0 < m ∧ m ≤ 1000) (hP : P (pf_next s / 64 % m) I (ax_u J 0 80 (pf_next s))) : zr_i (d + 1) 271 [.inr (.inr (some 0)), .inl m] I J P := by
  have h1 := hs.1
  have h2 := hs.2
  have hn := pf_next_in s
  have n1 := hn.1
  have n2 := hn.2
  have e1 : Int.tmod (1103515245 * s + 12345) 2147483648 = pf_next s := Int.tmod_eq_emod_of_nonneg (by omega)
  have e2 : Int.tdiv (pf_next s) 64 = pf_next s / 64 := Int.tdiv_eq_ediv_of_nonneg n1
  have e3 : Int.tmod (pf_next s / 64) m = pf_next s / 64 % m := Int.tmod_eq_emod_of_nonneg (by omega)
  refine zr_ini (M := ax_m271) rfl (Nat.le_of_ble_eq_true rfl) (zq_drawOf_0 I J m ?_)
  rw [hJ, n64.w (x := 1103515245 * s + 12345) ⟨by omega, by omega⟩, n64.w (x := 2147483648) ⟨by decide, by decide⟩, e1, zu_eq, n64.w (x := pf_next s) ⟨by omega, by omega⟩, n64.w (x := 64) ⟨by decide, by decide⟩, e2, zb_w (x := m) (by omega) (by omega), n64.w (x := m) ⟨by omega, by omega⟩, n64.w (x := pf_next s / 64) ⟨by omega, by omega⟩, e3]
  exact ⟨by omega, zr_Qi.of hP⟩
theorem sr_hails (hB : rB D pg W I) {s : Int} (hJ : J 0 80 = s) (hs : s31 s) (h6 : 0 < D 6 0 0) (hP : ∀ I' J', (∀ i j, i ≠ 40 → I' i j = I i j) → J' 0 80 = pf_next (pf_next (pf_next s)) → rB D pg (pf_hW D W s) I' → P (pf_hl D W s) I' J') : zr_i (d + 2) 272 [.inr (.inr (some 0))] I J P := by
  have h6' := hB.S.ok.a6 0 0
  have hb := pf_hb1_in hB.S.ok h6 s
  have hk := pf_hk_in hB.S.ok hB.W h6 s
  have h4 := hB.S.ok.a4 (W 1 (pf_hb1 D s) 0) 0
  refine zr_ini (M := ax_m272) rfl (Nat.le_of_ble_eq_true rfl) (zq_hails_0 I J (sr_boardMany hB.S (sr_drawOf hJ hs (by omega) (sr_wordOf hB hb (sr_longOf hB.S (hB.W.w hb) (sr_drawOf (m := D 4 (W 1 (pf_hb1 D s) 0) 0) zu_eq (pf_next_in _) (by omega) (sr_drawOf zu_eq (pf_next_in _) ⟨by decide, by decide⟩ (sr_glyphAt hB hb (k := pf_hk D W s) (by omega) (sr_glyphAt hB hb (k := pf_hk D W s) (by omega) ?_)))))))))
  have e1 : pf_next s / 64 % D 6 0 0 = pf_hb1 D s := rfl
  have e2 : pf_next (pf_next s) / 64 % D 4 (W 1 (pf_hb1 D s) 0) 0 = pf_hk D W s := rfl
  rw [e1, e2, zb_w (x := 3 + 8 * pf_hb1 D s + pf_hk D W s) (by omega) (by omega)]
  have hX : rX I J (ax_u I 40 (3 + 8 * pf_hb1 D s + pf_hk D W s).toNat (ax_and (W 3 (pf_hb1 D s) (pf_hk D W s)) (ax_xor (ax_shl 1 (pf_hi s)) (-1)))) J := ⟨fun i j q1 q2 q3 => zu_ne (by omega), rfl⟩
  refine ⟨by omega, zr_Qi.of (hP _ _ (fun i j q => zu_ne (by omega)) zu_eq ⟨hX.rS hB.S, wOk_wu3 hB.W hb (g15_andn (hB.W.g _ _) (g15_shl (pf_hi_in _)).g31), ?_⟩)⟩
  rw [zu_row]
  exact rowR_set3 hB.2.2 hB.W.n (by omega) (by omega)
theorem sr_chance_25 {m : Int} (hm : n32 m) {Q : Option ax_v → ax_S → Prop} : ∀ (n : Nat) (k l s : Int) (W : zD) (I J : zF), rB D pg W I → I 0 66 = 0 → J 0 80 = s → s31 s → W 0 0 0 + n ≤ 999 → 0 ≤ k → k + n = m → (∀ I' J', (rX I J I' (ax_u J' 0 80 s)) → J' 0 80 = pf_chS D n s → rB D pg (pf_chW D pg n W s) I' → Q (some (.inl (pf_chL D pg n W s l))) (zr_S I' J')) → zb_W (d + 8) ax_m273 (25, [some (.inr (.inr (some 0))), some (.inl m), some (.inl l), some (.inl k)], [], zr_S I J) Q := by
  have hm2 := hm.2
  intro n
  induction n with
  | zero =>
    intro k l s W I J hB h66 hJ hs hy h0 he hQ
    refine zq_chance_25 I J m l k ?_
    rw [hm.w, zb_w (x := k) (by omega) (by omega)]
    exact ⟨fun c => by omega, fun _ => hQ I J ⟨fun _ _ _ _ _ => rfl, by rw [zu_eq, hJ]⟩ hJ hB⟩
  | succ n ih =>
    intro k l s W I J hB h66 hJ hs hy h0 he hQ
    have h6 := hB.S.ok.a6 0 0
    have h8 := hB.S.ok.a8 2 0
    refine zq_chance_25 I J m l k ?_
    rw [hm.w, zb_w (x := k) (by omega) (by omega)]
    refine ⟨fun c => sr_laysSaid hB (fun I1 J1 hL hA => sr_drawOf (hL.2.trans hJ) hs (by omega) ?_), fun c => by omega⟩
    have hB1 := hL.rB hB
    have hd : 0 ≤ pf_next s / 64 % 100 ∧ pf_next s / 64 % 100 < 100 := by omega
    have h36 : I1 36 5 = D 8 2 0 := hB1.S.r5
    have hy66 : I1 0 66 = 0 := by rw [hL.1 0 66 (by omega) (by omega)]; exact h66
    have nxt : ∀ I2 J2 l2, (∀ i j, i ≠ 40 → I2 i j = I1 i j) → rB D pg (pf_cW D W s) I2 → J2 0 80 = pf_cS D s → l2 = l + pf_cl D W s → zb_W (d + 8) ax_m273 (63, [some (.inr (.inr (some 0))), some (.inl m), some (.inl l2), some (.inl k)], [], zr_S I2 J2) Q := by
      intro I2 J2 l2 hf2 hB2 hJ2 hl2
      subst hl2
      have hcy : pf_cW D W s 0 0 0 = W 0 0 0 := pf_cW_o (by decide) _ _
      refine zq_chance_63 I2 J2 m _ k (sr_yearGoes (W0 := W) hB2 (fun b => pf_cW_o (by decide) _ _) (by rw [show I2 42 = I1 42 from funext (fun j => hf2 42 j (by omega))]; exact hA) (by rw [hf2 0 66 (by omega)]; exact hy66) (by omega) (fun I3 J3 hF3 _ hB3 => ?_))
      have hs2 : s31 (pf_cS D s) := by unfold pf_cS; split; exact pf_next_in _; exact pf_next_in _
      refine ih (k + 1) _ (pf_cS D s) _ I3 J3 hB3 (by rw [hF3.1 0 66 (by omega) (by omega), hf2 0 66 (by omega)]; exact hy66) (by rw [hF3.2, hJ2]) hs2 (by rw [pf_year_y, hcy]; omega) (by omega) (by omega) (fun I' J' a b c => hQ I' J' ⟨fun i j q1 q2 q3 => ?_, by rw [zu_eq, hJ]⟩ b c)
      rw [a.1 i j q1 q2 q3, hF3.1 i j q1 (by omega), hf2 i j q1, hL.1 i j (by omega) (by omega)]
    rw [show (ax_w 5).toNat = 5 from rfl, h36]
    simp (disch := omega) only [zb_w]
    refine ⟨fun c1 => sr_boardMany hB1.S ?_, fun c1 => ?_⟩
    · simp (disch := omega) only [zb_w]
      refine ⟨fun c2 => sr_hails hB1 zu_eq (pf_next_in s) c2 (fun I2 J2 hf2 hJ2 hB2 => nxt I2 J2 _ hf2 ?_ ?_ ?_), fun c2 => nxt I1 _ l (fun _ _ _ => rfl) ?_ ?_ ?_⟩
      · unfold pf_cW; rw [if_pos ⟨c1, c2⟩]; exact hB2
      · unfold pf_cS; rw [if_pos ⟨c1, c2⟩]; exact hJ2
      · unfold pf_cl; rw [if_pos ⟨c1, c2⟩]
      · unfold pf_cW; rw [if_neg (fun q => c2 q.2)]; exact hB1
      · unfold pf_cS; rw [if_neg (fun q => c2 q.2)]; exact zu_eq
      · unfold pf_cl; rw [if_neg (fun q => c2 q.2)]; omega
    · refine nxt I1 _ l (fun _ _ _ => rfl) ?_ ?_ ?_
      · unfold pf_cW; rw [if_neg (fun q => c1 q.1)]; exact hB1
      · unfold pf_cS; rw [if_neg (fun q => c1 q.1)]; exact zu_eq
      · unfold pf_cl; rw [if_neg (fun q => c1 q.1)]; omega
theorem sr_chance {U : Nat → zD} {u s : Int} (hB : rB D pg W I) (hU : uR D U u I) (h66 : I 0 66 = 0) (hJ : J 0 80 = s) (hs : s31 s) {n : Int} (hn : n32 n) (hP0 : ¬ ((1 ≤ n ∧ n ≤ 100) ∧ W 0 0 0 + n ≤ 999) → P (-1) (ax_u I 2 3 (I 2 3 + 1)) J) (hP : (1 ≤ n ∧ n ≤ 100) ∧ W 0 0 0 + n ≤ 999 → ∀ I' J' I2, rK I I2 → rX I2 J I' (ax_u J' 0 80 s) → J' 0 80 = pf_chS D n.toNat s → rB D pg (pf_chW D pg n.toNat W s) I' → uR D (consU W U) (if u < 20 then u + 1 else u) I' → P (pf_chL D pg n.toNat W s 0) I' J') : zr_i (d + 9) 273 [.inr (.inr (some 0)), .inl n] I J P := by
  refine zr_ini (M := ax_m273) rfl (Nat.le_of_ble_eq_true rfl) (zq_chance_0 I J n (sr_isAhead hB hn ⟨by decide, by decide⟩ ⟨by decide, by decide⟩ (by decide) (by decide) (bc (fun q => sr_keeps hU hB.W hB.2.2 (fun I1 hK hU1 => ?_)) (fun q => sr_refuses ⟨by decide, by decide⟩ (zr_Qi.of (hP0 q))))))
  have hB1 := hK.rB hB
  exact sr_chance_25 hn n.toNat 0 0 s W I1 J hB1 (by rw [hK 0 66 (by omega) (by omega)]; exact h66) hJ hs (by omega) (by decide) (by omega) (fun I' J' a b c => zr_Qi.of (hP q I' J' I1 hK a b c (a.uR hU1)))
theorem sr_stroke {U : Nat → zD} {u : Int} (hB : rB D pg W I) (hU : uR D U u I) {b k i o : Int} (hb : n32 b) (hk : n32 k) (hi : n32 i) (ho : n32 o) (hP0 : ¬ (((0 ≤ b ∧ b < D 6 0 0) ∧ (0 ≤ k ∧ k < D 4 (W 1 b 0) 0)) ∧ (0 ≤ i ∧ i ≤ 14) ∧ (0 ≤ o ∧ o ≤ 1) ∧ ax_and (ax_shr (W 3 b k) i) 1 ≠ o) → P 0 (ax_u I 2 2 (I 2 2 + 1)) J) (hP : (((0 ≤ b ∧ b < D 6 0 0) ∧ (0 ≤ k ∧ k < D 4 (W 1 b 0) 0)) ∧ (0 ≤ i ∧ i ≤ 14) ∧ (0 ≤ o ∧ o ≤ 1) ∧ ax_and (ax_shr (W 3 b k) i) 1 ≠ o) → ∀ I' I2, rK I I2 → (∀ a c, a ≠ 40 → I' a c = I2 a c) → rB D pg (wu W 3 b k (ax_xor (W 3 b k) (ax_shl 1 i))) I' → uR D (consU W U) (if u < 20 then u + 1 else u) I' → P 1 I' J) : zr_i (d + 4) 275 [.inr (.inr (some 0)), .inl b, .inl k, .inl i, .inl o] I J P := by
  have ref : ¬ (((0 ≤ b ∧ b < D 6 0 0) ∧ (0 ≤ k ∧ k < D 4 (W 1 b 0) 0)) ∧ (0 ≤ i ∧ i ≤ 14) ∧ (0 ≤ o ∧ o ≤ 1) ∧ ax_and (ax_shr (W 3 b k) i) 1 ≠ o) → zr_i (d + 3) 274 [.inr (.inr (some 0))] I J (fun r9 I6 J7 => ((r9 : Int) = 0 ∨ (r9 : Int) = 1) ∧ zr_Qi P (some (.inl r9)) (zr_S I6 J7)) := fun q => sr_isRefused ⟨Or.inl rfl, zr_Qi.of (hP0 q)⟩
  refine zr_ini (M := ax_m275) rfl (Nat.le_of_ble_eq_true rfl) (zq_stroke_0 I J b k i o (sr_isPlace hB hb hk (bc (fun q => ?_) (fun q => ref (fun r => q r.1)))))
  rw [hi.w, ho.w]
  refine sr_isIn hi.n64 ⟨by decide, by decide⟩ ⟨by decide, by decide⟩ (bc (fun q2 => ?_) (fun q2 => ref (fun r => q2 r.2.1)))
  refine sr_isIn ho.n64 ⟨by decide, by decide⟩ ⟨by decide, by decide⟩ (bc (fun q3 => ?_) (fun q3 => ref (fun r => q3 r.2.2.1)))
  have h4 := hB.S.ok.a4 (W 1 b 0) 0
  have h6 := hB.S.ok.a6 0 0
  have hbt := bit01' (W 3 b k) i
  refine sr_glyphAt hB q.1 (by omega) ?_
  simp (disch := omega) only [zb_w]
  refine ⟨fun e => ref (fun r => r.2.2.2 e), fun e => sr_keeps hU hB.W hB.2.2 (fun I1 hK hU1 => ⟨by omega, by omega, ?_⟩)⟩
  have hB1 := hK.rB hB
  rw [hB1.b3 (by omega) (by omega)]
  have hX : ∀ v, rX I1 J (ax_u I1 40 (3 + 8 * b + k).toNat v) J := fun v => ⟨fun i j q1 q2 q3 => zu_ne (by omega), rfl⟩
  refine zr_Qi.of (hP ⟨q, q2, q3, e⟩ _ I1 hK (fun a c q => zu_ne (by omega)) ⟨(hX _).rS hB1.S, wOk_wu3 hB.W q.1 (g15_xor (hB.W.g _ _) (g15_shl ⟨q2.1, by omega⟩)), ?_⟩ ((hX _).uR hU1))
  rw [zu_row]
  exact rowR_set3 hB1.2.2 hB.W.n (by omega) (by omega)
/-- a board painted anew -/
def pf_pa (D W : zD) (b w h : Int) : zD := fun i a c => if a = b ∧ i = 1 ∧ c = 0 then w else if a = b ∧ i = 2 ∧ c = 0 then h else if a = b ∧ i = 3 then pf_pg D w h c else W i a c
def pf_paTo (D W : zD) (b w h K : Int) : zD := fun i a c => if a = b ∧ i = 1 ∧ c = 0 then w else if a = b ∧ i = 2 ∧ c = 0 then h else if a = b ∧ i = 3 ∧ c < K then pf_pg D w h c else W i a c
theorem rowR_pa1 {W : zD} {f : Nat → Int} (h : rowR W f) (D : zD) (ok : 0 ≤ W 4 0 0 ∧ W 4 0 0 ≤ 40) {b w hd : Int} (hb : 0 ≤ b ∧ b < 4) : rowR (pf_paTo D W b w hd 0) (sr (sr f (1 + 8 * b).toNat w) (2 + 8 * b).toNat hd) := by
  obtain ⟨h1, h2, h3, h4, h5⟩ := h
  have o : ∀ (i : Nat) (a c : Int), i ≠ 1 → i ≠ 2 → i ≠ 3 → pf_paTo D W b w hd 0 i a c = W i a c := by
    intro i a c q1 q2 q3
    unfold pf_paTo
    rw [if_neg (fun q => q1 q.2.1), if_neg (fun q => q2 q.2.1), if_neg (fun q => q3 q.2.1)]
  refine ⟨?_, fun x y z => ⟨?_, ?_⟩, fun x y a1 a2 a3 a4 => ?_, ?_, fun x c a1 a2 a3 a4 => ?_⟩
  · rw [sr_ne (by omega), sr_ne (by omega), o 0 _ _ (by decide) (by decide) (by decide)]; exact h1
  · by_cases e : x = b
    · subst e
      rw [sr_ne (by omega), sr_eq]
      unfold pf_paTo
      rw [if_pos ⟨rfl, rfl, rfl⟩]
    · rw [sr_ne (by omega), sr_ne (by omega)]
      unfold pf_paTo
      rw [if_neg (fun q => e q.1), if_neg (fun q => e q.1), if_neg (fun q => e q.1)]
      exact (h2 x y z).1
  · by_cases e : x = b
    · subst e
      rw [sr_eq]
      unfold pf_paTo
      rw [if_neg (fun q => absurd q.2.1 (by decide)), if_pos ⟨rfl, rfl, rfl⟩]
    · rw [sr_ne (by omega), sr_ne (by omega)]
      unfold pf_paTo
      rw [if_neg (fun q => e q.1), if_neg (fun q => e q.1), if_neg (fun q => e q.1)]
      exact (h2 x y z).2
  · rw [sr_ne (by omega), sr_ne (by omega)]
    unfold pf_paTo
    rw [if_neg (fun q => absurd q.2.1 (by decide)), if_neg (fun q => absurd q.2.1 (by decide)), if_neg (by omega)]
    exact h3 x y a1 a2 a3 a4
  · rw [sr_ne (by omega), sr_ne (by omega), o 4 _ _ (by decide) (by decide) (by decide)]; exact h4
  · rw [o 4 _ _ (by decide) (by decide) (by decide)] at a2
    rw [sr_ne (by omega), sr_ne (by omega), o 5 _ _ (by decide) (by decide) (by decide)]; exact h5 x c a1 a2 a3 a4
theorem pf_paTo_step {D W : zD} {b w h k : Int} : pf_paTo D W b w h (k + 1) = wu (pf_paTo D W b w h k) 3 b k (pf_pg D w h k) := by
  funext i a c
  by_cases e : i = 3 ∧ a = b ∧ c = k
  · obtain ⟨rfl, rfl, rfl⟩ := e
    rw [wu_eq]
    unfold pf_paTo
    rw [if_neg (fun q => absurd q.2.1 (by decide)), if_neg (fun q => absurd q.2.1 (by decide)), if_pos ⟨rfl, rfl, by omega⟩]
  · rw [wu_ne e]
    unfold pf_paTo
    by_cases q : a = b ∧ i = 3 ∧ c < k
    · rw [if_pos (c := a = b ∧ i = 3 ∧ c < k + 1) ⟨q.1, q.2.1, by omega⟩, if_pos q]
    · rw [if_neg (c := a = b ∧ i = 3 ∧ c < k + 1) (by omega), if_neg q]
end ZRA
