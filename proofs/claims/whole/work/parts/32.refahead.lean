/-! THE REFERENCE: years ahead, what a word becomes, what a board has been, mending -/
def pf_yearsT (D : zD) (pg : zG) : Nat → zD → zD
  | 0, W => W
  | n + 1, W => pf_yearsT D pg n (pf_yearT D pg W)
def pf_yearsN (D : zD) (pg : zG) : Nat → zD → zD
  | 0, W => W
  | n + 1, W => pf_yearsN D pg n (pf_year D pg W W)
def pf_yl (D : zD) (pg : zG) : Nat → zD → Int → Int
  | 0, _, l => l
  | n + 1, W, l => pf_yl D pg n (pf_year D pg W W) (pf_lostB D pg W (D 6 0 0).toNat 0 l)
theorem pf_yearT_o {D : zD} {pg : zG} {W : zD} {i : Nat} (h : i ≠ 0) (h2 : i ≠ 3) (a b : Int) : pf_yearT D pg W i a b = W i a b := by
  unfold pf_yearT
  rw [wu_ne (fun q => h q.1), pf_rain_o h2]
theorem pf_yearT_y {D : zD} {pg : zG} {W : zD} : pf_yearT D pg W 0 0 0 = W 0 0 0 + 1 := wu_eq
theorem pf_year_y {D : zD} {pg : zG} {W W0 : zD} : pf_year D pg W0 W 0 0 0 = W 0 0 0 + 1 := wu_eq
theorem pf_yearsT_o {D : zD} {pg : zG} {i : Nat} (h : i ≠ 0) (h2 : i ≠ 3) : ∀ (n : Nat) (W : zD) (a b : Int), pf_yearsT D pg n W i a b = W i a b := by
  intro n
  induction n with
  | zero => intro W a b; rfl
  | succ n ih => intro W a b; unfold pf_yearsT; rw [ih, pf_yearT_o h h2]
theorem wOk_yearsT {D : zD} {pg : zG} : ∀ (n : Nat) (W : zD), wOk D W → W 0 0 0 + n ≤ 999 → wOk D (pf_yearsT D pg n W) := by
  intro n
  induction n with
  | zero => intro W h _; exact h
  | succ n ih => intro W h hy; exact ih _ (wOk_yearT h (by omega)) (by rw [pf_yearT_y]; omega)
section ZR8
variable {d : Nat} {I J : zF} {D : zD} {pg : zG} {W : zD} {P : Int → zF → zF → Prop} {P0 : zF → zF → Prop}
theorem sr_yearsGoT_l {I0 J0 : zF} {m : Int} (hm : n32 m) (h66 : I0 0 66 = 1) {Q : Option ax_v → ax_S → Prop} : ∀ (n : Nat) (k : Int) (W : zD) (I J : zF), rR I0 J0 I J → rB D pg W I → W 0 0 0 + n ≤ 999 → 0 ≤ k → k + n = m → (∀ I' J', rR I0 J0 I' J' → rB D pg (pf_yearsT D pg n W) I' → Q none (zr_S I' J')) → zb_W (d + 7) ax_m232 (2, [some (.inr (.inr (some 0))), some (.inl m), some (.inl k)], [], zr_S I J) Q := by
  have hm2 := hm.2
  intro n
  induction n with
  | zero =>
    intro k W I J hF hB hy h0 he hQ
    refine zq_yearsGo_2 I J m k ?_
    rw [hm.w, zb_w (x := k) (by omega) (by omega)]
    exact ⟨fun c => by omega, fun _ => hQ I J hF hB⟩
  | succ n ih =>
    intro k W I J hF hB hy h0 he hQ
    have h661 : I 0 66 = 1 := by rw [hF.1 0 66 (by omega) (by omega)]; exact h66
    refine zq_yearsGo_2 I J m k ?_
    rw [hm.w, zb_w (x := k) (by omega) (by omega), h661]
    exact ⟨fun c => b1 (zq_yearsGo_18 I J m k (sr_yearGoesT hB h661 (by omega) (fun I2 J2 hF2 hB2 => ih (k + 1) _ I2 J2 (hF.trans hF2) hB2 (by rw [pf_yearT_y]; omega) (by omega) (by omega) hQ))), fun c => by omega⟩
theorem sr_yearsGoT (hB : rB D pg W I) (h66 : I 0 66 = 1) {m : Int} (hm : 0 ≤ m ∧ m ≤ 999) (hy : W 0 0 0 + m ≤ 999) (hP : ∀ I' J', rR I J I' J' → rB D pg (pf_yearsT D pg m.toNat W) I' → P0 I' J') : zr_v (d + 8) 232 [.inr (.inr (some 0)), .inl m] I J P0 :=
  zr_inv (M := ax_m232) rfl (Nat.le_of_ble_eq_true rfl) (zq_yearsGo_0 I J m (sr_yearsGoT_l (lt32 (by omega)) h66 m.toNat 0 W I J (rR.refl I J) hB (by omega) (by decide) (by omega) (fun I' J' a b => zr_Qv.of (hP I' J' a b))))
theorem sr_putsAside_l {Q : Option ax_v → ax_S → Prop} : ∀ (n : Nat) (k : Int) (I : zF), 0 ≤ k → k + n = 33 → (∀ j : Nat, (j : Int) < k → I 41 j = I 40 j) → (∀ I' : zF, (∀ i, i ≠ 41 → I' i = I i) → (∀ j, j < 33 → I' 41 j = I 40 j) → Q none (zr_S I' J)) → zb_W d ax_m233 (7, [some (.inr (.inr (some 0))), some (.inl k)], [], zr_S I J) Q := by
  intro n
  induction n with
  | zero =>
    intro k I h0 he hi hQ
    refine zq_putsAside_7 I J k ?_
    simp (disch := omega) only [zb_w]
    exact ⟨fun c => by omega, fun _ => hQ I (fun _ _ => rfl) (fun j q => hi j (by omega))⟩
  | succ n ih =>
    intro k I h0 he hi hQ
    refine zq_putsAside_7 I J k ?_
    simp (disch := omega) only [zb_w]
    refine ⟨fun c => ⟨by omega, by omega, ih (k + 1) _ (by omega) (by omega) (fun j q => ?_) (fun I' hI h41 => hQ I' (fun i q => ?_) (fun j q => ?_))⟩, fun c => by omega⟩
    · rw [zu_ne (i := 41) (a := 40) (by omega)]
      by_cases e : j = k.toNat
      · subst e; rw [zu_eq]
      · rw [zu_ne (by omega)]; exact hi j (by omega)
    · rw [hI i q, zu_oth q]
    · rw [h41 j q, zu_ne (by omega)]
theorem sr_putsAside (hP : ∀ I' : zF, I' 0 66 = 1 → (∀ i j, i ≠ 41 → ¬ (i = 0 ∧ j = 66) → I' i j = I i j) → (∀ j, j < 33 → I' 41 j = I 40 j) → P0 I' J) : zr_v (d + 1) 233 [.inr (.inr (some 0))] I J P0 := by
  refine zr_inv (M := ax_m233) rfl (Nat.le_of_ble_eq_true rfl) (zq_putsAside_0 I J (sr_putsAside_l 33 0 _ (by decide) (by decide) (fun j q => by omega) (fun I' hI h41 => zr_Qv.of (hP I' ?_ (fun i j q1 q2 => ?_) (fun j q => ?_)))))
  · rw [hI 0 (by decide), zu_eq]
  · rw [hI i q1, zu_ne (by omega)]
  · rw [h41 j q, zu_ne (by omega)]
theorem sr_takesBack_l {Q : Option ax_v → ax_S → Prop} : ∀ (n : Nat) (k : Int) (I : zF), 0 ≤ k → k + n = 33 → (∀ I' : zF, (∀ i, i ≠ 40 → I' i = I i) → (∀ j, 33 ≤ j → I' 40 j = I 40 j) → (∀ j : Nat, k ≤ (j : Int) → j < 33 → I' 40 j = I 41 j) → (∀ j : Nat, (j : Int) < k → I' 40 j = I 40 j) → Q none (zr_S (ax_u I' 0 66 0) J)) → zb_W d ax_m234 (2, [some (.inr (.inr (some 0))), some (.inl k)], [], zr_S I J) Q := by
  intro n
  induction n with
  | zero =>
    intro k I h0 he hQ
    refine zq_takesBack_2 I J k ?_
    simp (disch := omega) only [zb_w]
    exact ⟨fun c => by omega, fun _ => hQ I (fun _ _ => rfl) (fun _ _ => rfl) (fun j q1 q2 => by omega) (fun _ _ => rfl)⟩
  | succ n ih =>
    intro k I h0 he hQ
    refine zq_takesBack_2 I J k ?_
    simp (disch := omega) only [zb_w]
    refine ⟨fun c => ⟨by omega, by omega, ih (k + 1) _ (by omega) (by omega) (fun I' hI a b c => hQ I' (fun i q => ?_) (fun j q => ?_) (fun j q1 q2 => ?_) (fun j q => ?_))⟩, fun c => by omega⟩
    · rw [hI i q, zu_oth q]
    · rw [a j q, zu_ne (by omega)]
    · by_cases e : j = k.toNat
      · rw [c j (by omega), e, zu_eq]
      · rw [b j (by omega) q2, zu_ne (by omega)]
    · rw [c j (by omega), zu_ne (by omega)]
theorem sr_takesBack {W2 : zD} {f : Nat → Int} (hW : wOk D W) (hf : rowR W f) (h41 : ∀ j, j < 33 → I 41 j = f j) (hB : rB D pg W2 I) (h4 : W2 4 0 0 = W 4 0 0) (h5 : ∀ k c, W2 5 k c = W 5 k c) (hP : ∀ I' : zF, I' 0 66 = 0 → (∀ i j, i ≠ 40 → ¬ (i = 0 ∧ j = 66) → I' i j = I i j) → rB D pg W I' → P0 I' J) : zr_v (d + 1) 234 [.inr (.inr (some 0))] I J P0 := by
  refine zr_inv (M := ax_m234) rfl (Nat.le_of_ble_eq_true rfl) (zq_takesBack_0 I J (sr_takesBack_l 33 0 I (by decide) (by decide) (fun I' hI a b _ => zr_Qv.of (hP _ zu_eq (fun i j q1 q2 => ?_) ⟨?_, hW, ?_⟩))))
  · rw [zu_ne (by omega), hI i q1]
  · refine rS_cong hB.S (fun i j q1 q2 _ => ?_) ?_ ?_
    · rw [zu_ne (by omega), hI i (by omega)]
    · rw [zu_ne (by omega), hI 0 (by omega)]
    · rw [zu_ne (by omega), hI 0 (by omega)]
  · rw [zu_oth (by decide)]
    have hn := hW.n
    obtain ⟨f1, f2, f3, f4, f5⟩ := hf
    have lo : ∀ j, j < 33 → I' 40 j = f j := fun j q => by rw [b j (by omega) q]; exact h41 j q
    refine ⟨?_, fun x y z => ⟨?_, ?_⟩, fun x y a1 a2 a3 a4 => ?_, ?_, fun x c a1 a2 a3 a4 => ?_⟩
    · rw [lo 0 (by decide)]; exact f1
    · rw [lo _ (by omega)]; exact (f2 x y z).1
    · rw [lo _ (by omega)]; exact (f2 x y z).2
    · rw [lo _ (by omega)]; exact f3 x y a1 a2 a3 a4
    · rw [a 33 (by decide), hB.n, h4]
    · rw [a _ (by omega), hB.k ⟨a1, by omega⟩ ⟨a3, a4⟩, h5]
def an_says (D : zD) (pg : zG) (W : zD) (b how n k : Int) : Int :=
  if (0 ≤ b ∧ b < D 6 0 0) ∧ (0 ≤ k ∧ k < D 4 (W 1 b 0) 0) then (if 0 ≤ how ∧ how ≤ 3 then (if (0 ≤ n ∧ n ≤ 60) ∧ W 0 0 0 + n ≤ 999 then pf_read D pg (W 2 b 0) (pf_seen (pf_yearsT D pg n.toNat W 3 b (if how = 1 ∨ how = 3 then D 4 (W 1 b 0) 0 - 1 - k else k)) how) else -1) else -1) else -1
theorem sr_says_x {b how n k : Int} {I : zF} {J : zF} (hB : rB D pg W I) (h66 : I 0 66 = 0) (hb : 0 ≤ b ∧ b < D 6 0 0) (hk : 0 ≤ k ∧ k < 6) (hh : n32 how) (hn : 0 ≤ n ∧ n ≤ 60) (hy : W 0 0 0 + n ≤ 999) {Q : Option ax_v → ax_S → Prop} (hQ : ∀ I' J', rX I J I' J' → rB D pg W I' → Q (some (.inl (pf_read D pg (W 2 b 0) (pf_seen (pf_yearsT D pg n.toNat W 3 b k) how)))) (zr_S I' J')) : zr_v (d + 8) 233 [.inr (.inr (some 0))] I J (fun I18 J19 => zr_v (d + 8) 232 [.inr (.inr (some 0)), .inl n] I18 J19 (fun I21 J22 => zr_i (d + 8) 217 [.inr (.inr (some 0)), .inl b] I21 J22 (fun r27 I24 J25 => zr_i (d + 8) 218 [.inr (.inr (some 0)), .inl b, .inl k] I24 J25 (fun r31 I28 J29 => zr_i (d + 8) 222 [.inl r31, .inl how] I28 J29 (fun r35 I32 J33 => zr_i (d + 8) 225 [.inr (.inr (some 0)), .inl r27, .inl r35] I32 J33 (fun r39 I36 J37 => zr_v (d + 8) 234 [.inr (.inr (some 0))] I36 J37 (fun I40 J41 => Q (some (.inl r39)) (zr_S I40 J41)))))))) := by
  refine sr_putsAside (fun I1 e66 hf1 h41 => ?_)
  have hB1 : rB D pg W I1 := ⟨rS_cong hB.S (fun i j _ _ _ => hf1 i j (by omega) (by omega)) (hf1 0 45 (by omega) (by omega)) (hf1 0 48 (by omega) (by omega)), hB.W, by rw [show I1 40 = I 40 from funext (fun j => hf1 40 j (by omega) (by omega))]; exact hB.2.2⟩
  refine sr_yearsGoT hB1 e66 (by omega) hy (fun I2 J2 hF2 hB2 => ?_)
  have eh : pf_yearsT D pg n.toNat W 2 b 0 = W 2 b 0 := pf_yearsT_o (by decide) (by decide) _ _ _ _
  refine sr_handOf hB2 hb (sr_glyphAt hB2 hb hk (sr_seenBy (hB2.W.g b k) hh ?_))
  rw [eh]
  refine sr_readAs hB2.S (hB.W.h hb) (pf_seen_15 _ _) (fun I3 J3 hE3 => ?_)
  have hB3 := hE3.rB hB2
  have h413 : ∀ j, j < 33 → I3 41 j = I 40 j := fun j q => by rw [hE3.1 41 j (by omega), hF2.1 41 j (by omega) (by omega)]; exact h41 j q
  refine sr_takesBack hB.W hB.2.2 h413 hB3 (pf_yearsT_o (by decide) (by decide) _ _ _ _) (fun _ _ => pf_yearsT_o (by decide) (by decide) _ _ _ _) (fun I4 e66' hf4 hB4 => hQ I4 J3 ⟨fun i j q1 q2 q3 => ?_, ?_⟩ hB4)
  · by_cases e : i = 0 ∧ j = 66
    · obtain ⟨rfl, rfl⟩ := e
      rw [e66', h66]
    · rw [hf4 i j q1 e, hE3.1 i j (by omega), hF2.1 i j q1 (by omega), hf1 i j (by omega) e]
  · rw [hE3.2 0 80 (by decide), hF2.2]
theorem sr_says (hB : rB D pg W I) (h66 : I 0 66 = 0) {b how n k : Int} (hb : n32 b) (hh : n32 how) (hn : n32 n) (hk : n32 k) (hP : ∀ I' J', rX I J I' J' → rB D pg W I' → P (an_says D pg W b how n k) I' J') : zr_i (d + 9) 247 [.inr (.inr (some 0)), .inl b, .inl how, .inl n, .inl k] I J P := by
  unfold an_says at hP
  have hP0 := hP I J (rX.refl I J) hB
  refine zr_ini (M := ax_m247) rfl (Nat.le_of_ble_eq_true rfl) (zq_says_0 I J b how n k (sr_isPlace hB hb hk (bc (fun q => ?_) (fun q => zr_Qi.of (by rwa [if_neg q] at hP0)))))
  rw [if_pos q] at hP hP0
  rw [hh.w]
  refine sr_isIn hh.n64 ⟨by decide, by decide⟩ ⟨by decide, by decide⟩ (bc (fun q2 => ?_) (fun q2 => zr_Qi.of (by rwa [if_neg q2] at hP0)))
  rw [if_pos q2] at hP hP0
  refine sr_isAhead hB hn ⟨by decide, by decide⟩ ⟨by decide, by decide⟩ (by decide) (by decide) (bc (fun q3 => ?_) (fun q3 => zr_Qi.of (by rwa [if_neg q3] at hP0)))
  rw [if_pos q3] at hP
  have h4 := hB.S.ok.a4 (W 1 b 0) 0
  have back : (how = 1 ∨ how = 3) → zb_W (d + 8) ax_m247 (45, [some (.inr (.inr (some 0))), some (.inl b), some (.inl how), some (.inl n), some (.inl k), none, none], [], zr_S I J) (zr_Qi P) := by
    intro e
    rw [if_pos e] at hP
    exact zq_says_45 I J b how n k (sr_wordOf hB q.1 (sr_longOf hB.S (hB.W.w q.1) (sr_says_x hB h66 q.1 (by omega) hh q3.1 q3.2 (fun I' J' a b => zr_Qi.of (hP I' J' a b)))))
  simp (disch := omega) only [zb_w]
  refine ⟨fun e => back (Or.inl e), fun e => ⟨fun e2 => back (Or.inr e2), fun e2 => ?_⟩⟩
  rw [if_neg (by omega)] at hP
  exact sr_says_x hB h66 q.1 (by omega) hh q3.1 q3.2 (fun I' J' a b => zr_Qi.of (hP I' J' a b))
/-! becomes -/
def pf_sm (D : zD) (sd : Int → Int) (w : Int) : Nat → Int → Int
  | 0, _ => 1
  | n + 1, k => if D 5 w k = sd k then pf_sm D sd w n (k + 1) else 0
def pf_fw (D : zD) (sd : Int → Int) (m : Int) : Nat → Int → Int
  | 0, _ => -1
  | n + 1, w => if D 4 w 0 = m ∧ pf_sm D sd w m.toNat 0 = 1 then w else pf_fw D sd m n (w + 1)
theorem pf_sm01 (D : zD) (sd : Int → Int) (w : Int) : ∀ (n : Nat) (k : Int), pf_sm D sd w n k = 0 ∨ pf_sm D sd w n k = 1 := by
  intro n
  induction n with
  | zero => intro k; exact Or.inr rfl
  | succ n ih => intro k; unfold pf_sm; split; exact ih _; exact Or.inl rfl
def pf_sdw (D : zD) (pg : zG) (w h how k : Int) : Int := pf_read D pg h (pf_seen (pf_pg D w h (if how = 1 ∨ how = 3 then D 4 w 0 - 1 - k else k)) how)
def an_becomes (D : zD) (pg : zG) (w h how : Int) : Int :=
  if 0 ≤ w ∧ w < D 3 0 0 then (if 0 ≤ h ∧ h ≤ 1 then (if 0 ≤ how ∧ how ≤ 3 then (if pf_canPaint D w h = 1 then pf_fw D (pf_sdw D pg w h how) (D 4 w 0) (D 3 0 0).toNat 0 else -1) else -1) else -1) else -1
theorem sr_isSaid_l (hS : rS D pg I) {w m : Int} {sd : Int → Int} (hw : 0 ≤ w ∧ w < D 3 0 0) (hm : m = D 4 w 0) (hsd : ∀ k, 0 ≤ k → k < m → I 43 k.toNat = sd k ∧ 0 ≤ sd k ∧ sd k ≤ 26) {Q : Option ax_v → ax_S → Prop} : ∀ (n : Nat) (k : Int), 0 ≤ k → k + n = m → Q (some (.inl (pf_sm D sd w n k))) (zr_S I J) → zb_W (d + 1) ax_m248 (13, [some (.inr (.inr (some 0))), some (.inl w), some (.inl m), some (.inl k)], [], zr_S I J) Q := by
  have h4 := hS.ok.a4 w 0
  intro n
  induction n with
  | zero =>
    intro k h0 he hQ
    refine zq_isSaid_13 I J w m k ?_
    simp (disch := omega) only [zb_w]
    exact ⟨fun c => by omega, fun _ => hQ⟩
  | succ n ih =>
    intro k h0 he hQ
    have h5 := hS.ok.a5 w k
    obtain ⟨s1, s2⟩ := hsd k h0 (by omega)
    unfold pf_sm at hQ
    refine zq_isSaid_13 I J w m k ?_
    simp (disch := omega) only [zb_w]
    refine ⟨fun c => sr_letterOf hS hw (by omega) ⟨by omega, ?_⟩, fun c => by omega⟩
    rw [s1]
    simp (disch := omega) only [zb_w]
    refine ⟨fun e => ?_, fun e => ?_⟩
    · rw [if_pos e] at hQ; exact ih (k + 1) (by omega) (by omega) hQ
    · rw [if_neg e] at hQ; exact hQ
theorem sr_isSaid (hS : rS D pg I) {w m : Int} {sd : Int → Int} (hw : 0 ≤ w ∧ w < D 3 0 0) (hm : 0 ≤ m ∧ m ≤ 6) (hsd : ∀ k, 0 ≤ k → k < m → I 43 k.toNat = sd k ∧ 0 ≤ sd k ∧ sd k ≤ 26) (hP : P (if D 4 w 0 = m ∧ pf_sm D sd w m.toNat 0 = 1 then 1 else 0) I J) : zr_i (d + 2) 248 [.inr (.inr (some 0)), .inl w, .inl m] I J P := by
  have h4 := hS.ok.a4 w 0
  refine zr_ini (M := ax_m248) rfl (Nat.le_of_ble_eq_true rfl) (zq_isSaid_0 I J w m (sr_longOf hS hw ?_))
  simp (disch := omega) only [zb_w]
  refine ⟨fun e => sr_isSaid_l hS hw e.symm hsd m.toNat 0 (by decide) (by omega) (zr_Qi.of ?_), fun e => zr_Qi.of ?_⟩
  · rcases pf_sm01 D sd w m.toNat 0 with q | q
    · rw [q]; rwa [if_neg (by omega)] at hP
    · rw [q]; rwa [if_pos ⟨e, q⟩] at hP
  · rwa [if_neg (fun r => e r.1)] at hP
theorem sr_becomes_123 (hS : rS D pg I) {m : Int} {sd : Int → Int} (hm : 0 ≤ m ∧ m ≤ 6) (hsd : ∀ k, 0 ≤ k → k < m → I 43 k.toNat = sd k ∧ 0 ≤ sd k ∧ sd k ≤ 26) {Q : Option ax_v → ax_S → Prop} : ∀ (n : Nat) (w : Int), 0 ≤ w → w + n = D 3 0 0 → Q (some (.inl (pf_fw D sd m n w))) (zr_S I J) → zb_W (d + 2) ax_m249 (123, [some (.inr (.inr (some 0))), none, none, none, some (.inl m), some (.inl w), none], [], zr_S I J) Q := by
  have h3 := hS.ok.a3 0 0
  intro n
  induction n with
  | zero =>
    intro w h0 he hQ
    refine zq_becomes_123 I J m w (sr_wordMany hS ?_)
    simp (disch := omega) only [zb_w]
    exact ⟨fun c => by omega, fun _ => hQ⟩
  | succ n ih =>
    intro w h0 he hQ
    unfold pf_fw at hQ
    refine zq_becomes_123 I J m w (sr_wordMany hS ?_)
    rw [zb_w (x := w) (by omega) (by omega), zb_w (x := D 3 0 0) (by omega) (by omega)]
    refine ⟨fun c => sr_isSaid hS ⟨h0, c⟩ hm hsd (bc (fun e => ?_) (fun e => ?_)), fun c => by omega⟩
    · rw [if_pos e] at hQ; exact hQ
    · rw [if_neg e] at hQ; exact ih (w + 1) (by omega) (by omega) hQ
/-- the frame of becomes: as rE, and cell 43 -/
theorem sr_becomes_50 {I0 J0 : zF} (hS0 : rS D pg I0) {w h how m : Int} (hw : 0 ≤ w ∧ w < D 3 0 0) (hh : 0 ≤ h ∧ h < 2) (hhow : 0 ≤ how ∧ how ≤ 3) (hc : pf_canPaint D w h = 1) (hm : m = D 4 w 0) {Q : Option ax_v → ax_S → Prop} : ∀ (n : Nat) (k : Int) (I J : zF), rX I0 J0 I J → I 40 = I0 40 → (∀ j, 0 ≤ j → j < k → I 43 j.toNat = pf_sdw D pg w h how j) → 0 ≤ k → k + n = m → (∀ I' J', rX I0 J0 I' J' → I' 40 = I0 40 → (∀ j, 0 ≤ j → j < m → I' 43 j.toNat = pf_sdw D pg w h how j) → zb_W (d + 6) ax_m249 (123, [some (.inr (.inr (some 0))), none, none, none, some (.inl m), some (.inl 0), none], [], zr_S I' J') Q) → zb_W (d + 6) ax_m249 (50, [some (.inr (.inr (some 0))), some (.inl w), some (.inl h), some (.inl how), some (.inl m), some (.inl k), none], [], zr_S I J) Q := by
  have h4 := hS0.ok.a4 w 0
  intro n
  induction n with
  | zero =>
    intro k I J hF h40 hi h0 he hQ
    refine zq_becomes_50 I J w h how m k ?_
    simp (disch := omega) only [zb_w]
    exact ⟨fun c => by omega, fun _ => hQ I J hF h40 (fun j q1 q2 => hi j q1 (by omega))⟩
  | succ n ih =>
    intro k I J hF h40 hi h0 he hQ
    have hS := hF.rS hS0
    have go : ∀ p, 0 ≤ p ∧ p < D 4 w 0 → p = (if how = 1 ∨ how = 3 then D 4 w 0 - 1 - k else k) → zr_i (d + 6) 214 [.inr (.inr (some 0)), .inl w, .inl p] I J (fun r7 I4 J5 => zr_i (d + 6) 212 [.inr (.inr (some 0)), .inl h, .inl r7] I4 J5 (fun r11 I8 J9 => zr_i (d + 6) 211 [.inr (.inr (some 0)), .inl h, .inl r11] I8 J9 (fun r15 I12 J13 => zr_i (d + 6) 222 [.inl r15, .inl how] I12 J13 (fun r19 I16 J17 => zr_i (d + 6) 225 [.inr (.inr (some 0)), .inl h, .inl r19] I16 J17 (fun r23 I20 J21 => (0 ≤ k ∧ k < ((6 : Nat) : Int)) ∧ zb_W (d + 6) ax_m249 (50, [some (.inr (.inr (some 0))), some (.inl w), some (.inl h), some (.inl how), some (.inl m), some (.inl (k + 1)), none], [], zr_S (ax_u I20 43 k.toNat r23) J21) Q))))) := by
      intro p hp he2
      have h5 := hS.ok.a5 w p
      have ha := pf_at_in hS.ok h (D 5 w p)
      have hne := pf_canPaint_all hS.ok hc hp
      refine sr_letterOf hS hw hp (sr_letterAt hS hh ⟨by omega, by omega⟩ (sr_glyphOf hS hh (by omega) (sr_seenBy (hS.ok.a2 _ _) ⟨by omega, by omega⟩ (sr_readAs hS hh (pf_seen_15 _ _) (fun I2 J2 hE => ⟨by omega, ?_⟩)))))
      refine ih (k + 1) _ _ ⟨fun i j q1 q2 q3 => ?_, ?_⟩ ?_ (fun j q1 q2 => ?_) (by omega) (by omega) hQ
      · rw [zu_ne (by omega), hE.1 i j (by omega)]; exact hF.1 i j q1 q2 q3
      · rw [hE.2 0 80 (by decide)]; exact hF.2
      · rw [zu_oth (by decide), hE.n40]; exact h40
      · by_cases e : j = k
        · subst e
          rw [zu_eq]
          unfold pf_sdw pf_pg
          rw [← he2, if_neg hne]
        · rw [zu_ne (by omega), hE.1 43 _ (by omega)]; exact hi j q1 (by omega)
    refine zq_becomes_50 I J w h how m k ?_
    simp (disch := omega) only [zb_w]
    have back : (how = 1 ∨ how = 3) → zb_W (d + 6) ax_m249 (67, [some (.inr (.inr (some 0))), some (.inl w), some (.inl h), some (.inl how), some (.inl m), some (.inl k), none], [], zr_S I J) Q := by
      intro e
      refine zq_becomes_67 I J w h how m k ?_
      simp (disch := omega) only [zb_w]
      exact go (m - 1 - k) (by omega) (by rw [if_pos e, hm])
    exact ⟨fun c => ⟨fun e => back (Or.inl e), fun e => ⟨fun e2 => back (Or.inr e2), fun e2 => go k (by omega) (by rw [if_neg (by omega)])⟩⟩, fun c => by omega⟩
theorem pf_sdw_in (ok : zD_ok D pg) (w h how k : Int) : 0 ≤ pf_sdw D pg w h how k ∧ pf_sdw D pg w h how k ≤ 26 := pf_read_in ok _ _
theorem sr_becomes (hB : rB D pg W I) {w h how : Int} (hw : n32 w) (hh : n32 h) (hn : n32 how) (hP : ∀ I' J', rX I J I' J' → rB D pg W I' → P (an_becomes D pg w h how) I' J') : zr_i (d + 7) 249 [.inr (.inr (some 0)), .inl w, .inl h, .inl how] I J P := by
  unfold an_becomes at hP
  have hP0 := hP I J (rX.refl I J) hB
  refine zr_ini (M := ax_m249) rfl (Nat.le_of_ble_eq_true rfl) (zq_becomes_0 I J w h how ?_)
  rw [hw.w, hn.w]
  refine sr_isWord hB.S hw.n64 (bc (fun q => ?_) (fun q => zr_Qi.of (by rwa [if_neg q] at hP0)))
  rw [if_pos q] at hP hP0
  refine sr_isHand hh (bc (fun q2 => ?_) (fun q2 => zr_Qi.of (by rwa [if_neg q2] at hP0)))
  rw [if_pos q2] at hP hP0
  refine sr_isIn hn.n64 ⟨by decide, by decide⟩ ⟨by decide, by decide⟩ (bc (fun q3 => ?_) (fun q3 => zr_Qi.of (by rwa [if_neg q3] at hP0)))
  rw [if_pos q3] at hP hP0
  refine sr_canPaint hB.S q (by omega) (b01 (pf_can01 D w h _ _) (fun e => ?_) (fun e => zr_Qi.of (by have e' : pf_canPaint D w h = 0 := e; rwa [if_neg (by omega)] at hP0)))
  have h4 := hB.S.ok.a4 w 0
  rw [if_pos e] at hP
  refine sr_longOf hB.S q (sr_becomes_50 hB.S q (by omega) q3 e rfl (D 4 w 0).toNat 0 I J (rX.refl I J) rfl (fun j _ _ => by omega) (by decide) (by omega) (fun I' J' hF h40 hsd => ?_))
  have h3 := hB.S.ok.a3 0 0
  refine sr_becomes_123 (hF.rS hB.S) h4 (fun k k0 k1 => ⟨hsd k k0 k1, pf_sdw_in hB.S.ok _ _ _ _⟩) (D 3 0 0).toNat 0 (by decide) (by omega) (zr_Qi.of (hP I' J' hF ⟨hF.rS hB.S, hB.W, by rw [h40]; exact hB.2.2⟩))
end ZR8
