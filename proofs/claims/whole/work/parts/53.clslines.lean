/-! THE CLASS: lines -/
def kOk (hs : Nat) (I : zF) (c : Int) (T : zT) : Prop := I (53 + 29 * hs) c.toNat = T.1 * 256 + T.2.1 ∧ (T.2.2.1 ≠ -1 → I (54 + 29 * hs) c.toNat = T.2.2.1 ∧ I (55 + 29 * hs) c.toNat = T.2.2.2)
def kRel (hs : Nat) (I : zF) (c : Int) (T : zT) : Prop := I (53 + 29 * hs) c.toNat = (if T.2.2.1 = -1 then 1000000000 else T.1 * 256 + T.2.1) ∧ (T.2.2.1 ≠ -1 → I (54 + 29 * hs) c.toNat = T.2.2.1 ∧ I (55 + 29 * hs) c.toNat = T.2.2.2)
/-- nothing has changed but the table's cell c and what a reckoning writes -/
def cK (hs : Nat) (c : Int) (I I' : zF) : Prop := ∀ i j, i ≠ 44 + 29 * hs → i ≠ 47 + 29 * hs → i ≠ 60 + 29 * hs → i ≠ 61 + 29 * hs → ¬ ((53 + 29 * hs ≤ i ∧ i ≤ 55 + 29 * hs) ∧ j = c.toNat) → I' i j = I i j
/-- nothing has changed but the lines' cells and what a reckoning writes -/
def cF (hs : Nat) (I I' : zF) : Prop := ∀ i j, i ≠ 44 + 29 * hs → i ≠ 47 + 29 * hs → i ≠ 60 + 29 * hs → i ≠ 61 + 29 * hs → ¬ (48 + 29 * hs ≤ i ∧ i ≤ 57 + 29 * hs) → I' i j = I i j
theorem cK.trans {hs : Nat} {c : Int} {I I' I2 : zF} (h : cK hs c I I') (h2 : cK hs c I' I2) : cK hs c I I2 := fun i j a b c e f => (h2 i j a b c e f).trans (h i j a b c e f)
theorem cE.K {hs : Nat} {I I' : zF} (c : Int) (h : cE hs I I') : cK hs c I I' := fun i j a b c e _ => h i j a b c e
theorem cK.F {hs : Nat} {c : Int} {I I' : zF} (h : cK hs c I I') : cF hs I I' := fun i j a b c e f => h i j a b c e (by omega)
theorem cF.refl (hs : Nat) (I : zF) : cF hs I I := fun _ _ _ _ _ _ _ => rfl
theorem cF.trans {hs : Nat} {I I' I2 : zF} (h : cF hs I I') (h2 : cF hs I' I2) : cF hs I I2 := fun i j a b c e f => (h2 i j a b c e f).trans (h i j a b c e f)
theorem cF.S {D : zD} {pg : zG} {hs : Nat} {I I' : zF} (h : cF hs I I') (hS : cS D pg hs I) : cS D pg hs I' := cS_cong hS (fun i j q => by unfold cLk at q; exact h i j (by omega) (by omega) (by omega) (by omega) (by omega)) (h _ _ (by omega) (by omega) (by omega) (by omega) (by omega)) (fun j => h _ _ (by omega) (by omega) (by omega) (by omega) (by omega)) (h _ _ (by omega) (by omega) (by omega) (by omega) (by omega)) (fun j => h _ _ (by omega) (by omega) (by omega) (by omega) (by omega))
theorem cK.k {hs : Nat} {c c2 : Int} {I I' : zF} (h : cK hs c I I') (hc : c2.toNat ≠ c.toNat) {T : zT} (ht : kOk hs I c2 T) : kOk hs I' c2 T := by
  unfold kOk at *
  rw [h _ _ (by omega) (by omega) (by omega) (by omega) (by omega), h _ _ (by omega) (by omega) (by omega) (by omega) (by omega), h _ _ (by omega) (by omega) (by omega) (by omega) (by omega)]
  exact ht
theorem cE.kr {hs : Nat} {c : Int} {I I' : zF} (h : cE hs I I') {T : zT} (ht : kRel hs I c T) : kRel hs I' c T := by
  unfold kRel at *
  rw [h _ _ (by omega) (by omega) (by omega) (by omega), h _ _ (by omega) (by omega) (by omega) (by omega), h _ _ (by omega) (by omega) (by omega) (by omega)]
  exact ht
theorem pf_cs_split {D : zD} {pg : zG} {h x y a t : Int} {N1 N2 N3 : zT} : ∀ (m n : Nat) (b : Int) (c : zT), pf_cs D pg h x y a t N1 N2 N3 (m + n) b c = pf_cs D pg h x y a t N1 N2 N3 n (b + m) (pf_cs D pg h x y a t N1 N2 N3 m b c) := by
  intro m
  induction m with
  | zero => intro n b c; rw [Nat.zero_add, show b + ((0 : Nat) : Int) = b by omega]; rfl
  | succ m ih =>
    intro n b c
    rw [show m + 1 + n = (m + n) + 1 by omega]
    show pf_cs D pg h x y a t N1 N2 N3 (m + n) (b + 1) _ = _
    rw [ih, show b + 1 + (m : Int) = b + ((m + 1 : Nat) : Int) by omega]
    rfl
theorem pf_cs_skip {D : zD} {pg : zG} {h x y a t : Int} {N1 N2 N3 : zT} (hxy : x = -1 ∨ y = -1) : ∀ (m : Nat) (b : Int) (c : zT), b + m ≤ 4 → pf_cs D pg h x y a t N1 N2 N3 m b c = c := by
  intro m
  induction m with
  | zero => intro b c _; rfl
  | succ m ih =>
    intro b c hb
    unfold pf_cs
    rw [ih _ _ (by omega)]
    unfold pf_st
    rw [if_pos (by omega)]
section ZCB
variable {d hf pf hs : Nat} {I J : zF} {D : zD} {pg : zG} {W : zD} {P : Int → zF → zF → Prop} {P0 : zF → zF → Prop}
theorem sc_offer (eh : hs = 0 ∨ hs = 1) {c nx dv b g : Int} {T N : zT} (hc : 0 ≤ c ∧ c ≤ 48) (hn : c < nx ∧ nx ≤ 48) (hr : kRel hs I c T) (hN : I (53 + 29 * hs) nx.toNat = N.1 * 256 + N.2.1) (bT : zTb 13 T) (bN : zTb 12 N) (hd : 0 ≤ dv ∧ dv ≤ 200) (hb : 0 ≤ b ∧ b ≤ 5) (hg : g15 g) (hP : ∀ I', cK hs c I I' → kRel hs I' c (pf_of T (dv + N.1) (pf_bits g + N.2.1) b g) → P0 I' J) : zc_v (d + 2) 42 [.inr (.inr (some (48 + 29 * hs))), .inl c, .inl nx, .inl dv, .inl b, .inl g] hf pf I J P0 := by
  have hbits := pf_bits_15 hg
  have t1 := bT.1
  have t2 := bT.2.1
  have n1 := bN.1
  have n2 := bN.2.1
  refine zc_inv (M := ax_m42) rfl (Nat.le_of_ble_eq_true rfl) (zk_LineFinder_offer_0 hf pf I J c nx dv b g hs eh ?_)
  rw [zb_w (x := nx) (by omega) (by omega), hN, zb_w (x := c) (by omega) (by omega), show ax_w 0 = 0 from rfl, show ax_w 49 = 49 from rfl]
  refine ⟨fun q => by omega, fun _ => ⟨fun _ => ⟨fun _ => ⟨by omega, sc_bitCount hg ⟨by omega, ?_⟩⟩, fun q => by omega⟩, fun q => by omega⟩⟩
  rw [hr.1, zb_w (x := N.1 * 256 + N.2.1 + dv * 256 + pf_bits g) (by omega) (by omega)]
  have ew : ax_w (if T.2.2.1 = -1 then 1000000000 else T.1 * 256 + T.2.1) = (if T.2.2.1 = -1 then 1000000000 else T.1 * 256 + T.2.1) := by split <;> exact zb_w (by omega) (by omega)
  rw [ew]
  unfold pf_of at hP
  refine ⟨fun e => ⟨by omega, by omega, by omega, zc_Qv.of (hP _ (fun i j q1 q2 q3 q4 q5 => ?_) ?_)⟩, fun e => zc_Qv.of (hP I (fun _ _ _ _ _ _ _ => rfl) ?_)⟩
  · rw [zu_ne (by omega), zu_ne (by omega), zu_ne (by omega)]
  · have hcond : T.2.2.1 = -1 ∨ dv + N.1 < T.1 ∨ (dv + N.1 = T.1 ∧ pf_bits g + N.2.1 < T.2.1) := by
      by_cases q : T.2.2.1 = -1
      · exact Or.inl q
      · rw [if_neg q] at e
        omega
    rw [if_pos hcond]
    refine ⟨?_, fun _ => ⟨?_, ?_⟩⟩
    · rw [zu_ne (by omega), zu_ne (by omega), zu_eq]
      show _ = (if b = -1 then 1000000000 else (dv + N.1) * 256 + (pf_bits g + N.2.1))
      rw [if_neg (by omega)]
      omega
    · rw [zu_ne (by omega), zu_eq]
    · rw [zu_eq]
  · have hcond : ¬ (T.2.2.1 = -1 ∨ dv + N.1 < T.1 ∨ (dv + N.1 = T.1 ∧ pf_bits g + N.2.1 < T.2.1)) := by
      intro q
      by_cases q0 : T.2.2.1 = -1
      · rw [if_pos q0] at e
        omega
      · rw [if_neg q0] at e
        omega
    rw [if_neg hcond]
    exact hr
theorem sc_glyphForBoth {b a t : Int} (hb : 0 ≤ b ∧ b < 4) (hP : P (pf_gby b a t) I J) : zc_i (d + 1) 41 [.inl b, .inl a, .inl t] hf pf I J P := by
  unfold pf_gby at hP
  refine zc_ini (M := ax_m41) rfl (Nat.le_of_ble_eq_true rfl) (zk_LineFinder_glyphForBoth_0 hf pf I J b a t ?_)
  rw [zb_w (x := b) (by omega) (by omega)]
  refine ⟨fun e => zc_Qi.of ?_, fun e => ⟨fun e1 => zc_Qi.of ?_, fun e1 => ⟨fun e2 => zc_Qi.of ?_, fun e2 => zc_Qi.of ?_⟩⟩⟩
  · rwa [if_pos (by omega)] at hP
  · rwa [if_neg (by omega), if_pos (by omega)] at hP
  · rwa [if_neg (by omega), if_neg (by omega), if_pos (by omega)] at hP
  · rwa [if_neg (by omega), if_neg (by omega), if_neg (by omega)] at hP
theorem sc_offerBoth_32 {I0 : zF} (eh : hs = 0 ∨ hs = 1) (hS0 : cS D pg hs I0) {h i j x y a t : Int} {N1 N2 N3 : zT} (hh : 0 ≤ h ∧ h < 2) (hi : 0 ≤ i ∧ i < 6) (hj : 0 ≤ j ∧ j < 6) (hx : 0 ≤ x ∧ x < D 0 h 0) (hy : 0 ≤ y ∧ y < D 0 h 0) (ha : g15 a) (ht : g15 t) (e12 : I0 (48 + 29 * hs) 12 = h) (e49 : I0 (49 + 29 * hs) i.toNat = x) (e50 : I0 (50 + 29 * hs) j.toNat = y) (e51 : I0 (51 + 29 * hs) i.toNat = a) (e52 : I0 (52 + 29 * hs) j.toNat = t) (hN : I0 (53 + 29 * hs) (i * 7 + j + 7 + 1).toNat = N1.1 * 256 + N1.2.1) (b1' : zTb 12 N1) (b2' : zTb 12 N2) (b3' : zTb 12 N3) {Q : Option ax_v → ax_S → Prop} : ∀ (n : Nat) (b : Int) (c : zT) (I : zF), cK hs (i * 7 + j) I0 I → kRel hs I (i * 7 + j) c → 0 ≤ b → b + n = 4 → zTb 13 c → (∀ I', cK hs (i * 7 + j) I0 I' → kRel hs I' (i * 7 + j) (pf_cs D pg h x y a t N1 N2 N3 n b c) → Q none (zc_S hf pf I' J)) → zb_W (d + 4) ax_m40 (32, [some (.inr (.inr (some (48 + 29 * hs)))), some (.inr (.inr (some ((40 + 29 * hs))))), some (.inl i), some (.inl j), some (.inl (i * 7 + j)), some (.inl b), none, none, none], [], zc_S hf pf I J) Q := by
  have h8 := hS0.ok.a8 0 0
  intro n
  induction n with
  | zero =>
    intro b c I hK hc h0 he hcb hQ
    have e : b = 4 := by omega
    subst e
    exact zk_LineFinder_offerBoth_32 hf pf I J i j _ 4 hs eh ⟨fun q => absurd q (by decide), fun _ => hQ I hK hc⟩
  | succ n ih =>
    intro b c I hK hc h0 he hcb hQ
    have hS := hK.F.S hS0
    have hg := pf_gby_15 (b := b) ha ht
    have hst := pf_st_b (D := D) (pg := pg) hS0.ok (h := h) (x := x) (y := y) (b := b) (B := 12) ha ht (by omega) b1' b2' b3' hcb
    unfold pf_cs at hQ
    have en : pf_nn D pg h x y a t b = pf_bd D pg h x y (pf_gby b a t) := by unfold pf_nn; rw [if_pos (by omega)]
    have et : pf_tt b N1 N2 N3 = N1 := by unfold pf_tt; rw [if_pos (by omega)]
    have d1 := pf_doubt_in hS0.ok h x (pf_gby b a t)
    have d2 := pf_doubt_in hS0.ok h y (pf_seen (pf_gby b a t) 1)
    have gI : ∀ I1, cK hs (i * 7 + j) I0 I1 → ∀ k q, (48 + 29 * hs ≤ k ∧ k ≤ 52 + 29 * hs) → I1 k q = I0 k q := fun I1 h1 k q r => h1 k q (by omega) (by omega) (by omega) (by omega) (by omega)
    refine zk_LineFinder_offerBoth_32 hf pf I J i j _ b hs eh ?_
    rw [zb_w (x := b) (by omega) (by omega), zb_w (x := i) (by omega) (by omega), zb_w (x := j) (by omega) (by omega), gI I hK (51 + 29 * hs) _ (by omega), gI I hK (52 + 29 * hs) _ (by omega), e51, e52]
    refine ⟨fun _ => ⟨by omega, by omega, sc_glyphForBoth (by omega) ⟨by omega, ?_⟩⟩, fun q => absurd (show b < 4 by omega) q⟩
    rw [gI I hK (48 + 29 * hs) _ (by omega), gI I hK (49 + 29 * hs) _ (by omega), e12, e49]
    refine sc_doubtOf eh hS hh hx hg (fun I1 hE1 => ⟨by omega, sc_turned hg ⟨by decide, by decide⟩ ?_⟩)
    have hK1 := hK.trans (hE1.K (i * 7 + j))
    rw [gI I1 hK1 (48 + 29 * hs) _ (by omega), gI I1 hK1 (50 + 29 * hs) _ (by omega), e12, e50]
    refine sc_doubtOf eh (hK1.F.S hS0) hh hy (pf_seen_15 _ _) (fun I2 hE2 => ?_)
    have hK2 := hK1.trans (hE2.K (i * 7 + j))
    have hS2 := hK2.F.S hS0
    have hc2 := hE2.kr (hE1.kr hc)
    rw [hS2.L.rl.1, zb_w (x := D 8 0 0) (by omega) (by omega), zb_w (x := pf_doubt D pg h x (pf_gby b a t)) (by omega) (by omega), zb_w (x := pf_doubt D pg h y (pf_seen (pf_gby b a t) 1)) (by omega) (by omega)]
    have skip : pf_bd D pg h x y (pf_gby b a t) = -1 → zb_W (d + 4) ax_m40 (137, [some (.inr (.inr (some (48 + 29 * hs)))), some (.inr (.inr (some ((40 + 29 * hs))))), some (.inl i), some (.inl j), some (.inl (i * 7 + j)), some (.inl b), none, none, none], [], zc_S hf pf I2 J) Q := by
      intro e
      have es : pf_st D pg h x y a t N1 N2 N3 b c = c := by unfold pf_st; rw [en, if_pos (Or.inr (Or.inr e))]
      rw [es] at hQ
      exact zk_LineFinder_offerBoth_137 hf pf I2 J i j _ b hs (ih (b + 1) c I2 hK2 hc2 (by omega) (by omega) hcb hQ)
    refine ⟨fun q => skip (by unfold pf_bd; rw [if_pos (Or.inl q)]), fun q => ⟨fun q2 => skip (by unfold pf_bd; rw [if_pos (Or.inr q2)]), fun q2 => ?_⟩⟩
    have eb : pf_bd D pg h x y (pf_gby b a t) = pf_doubt D pg h x (pf_gby b a t) + pf_doubt D pg h y (pf_seen (pf_gby b a t) 1) := by unfold pf_bd; rw [if_neg (by omega)]
    have es : pf_st D pg h x y a t N1 N2 N3 b c = pf_of c (pf_doubt D pg h x (pf_gby b a t) + pf_doubt D pg h y (pf_seen (pf_gby b a t) 1) + N1.1) (pf_bits (pf_gby b a t) + N1.2.1) b (pf_gby b a t) := by
      unfold pf_st
      rw [en, et, if_neg (by omega), eb]
    have hN2 : I2 (53 + 29 * hs) (i * 7 + j + 7 + 1).toNat = N1.1 * 256 + N1.2.1 := by rw [hK2 _ _ (by omega) (by omega) (by omega) (by omega) (by omega)]; exact hN
    refine sc_offer eh (by omega) (by omega) hc2 hN2 hcb b1' (by omega) (by omega) hg (fun I3 hK3 hc3 => ?_)
    rw [es] at hQ hst
    exact zk_LineFinder_offerBoth_137 hf pf I3 J i j _ b hs (ih (b + 1) _ I3 (hK2.trans hK3) hc3 (by omega) (by omega) hst hQ)
def kAll (D : zD) (pg : zG) (o t h : Int) (hs : Nat) (I : zF) (i j : Int) : Prop := ∀ a c : Int, 0 ≤ a → a ≤ D 4 o 0 → 0 ≤ c → c ≤ D 4 t 0 → (i < a ∨ (a = i ∧ j < c)) → kOk hs I (a * 7 + c) (pf_L D pg o t h a c)
/-- the words' letters and glyphs are laid down -/
def kW (D : zD) (o t h : Int) (hs : Nat) (I : zF) : Prop := I (48 + 29 * hs) 12 = h ∧ (∀ i, 0 ≤ i → i < D 4 o 0 → I (49 + 29 * hs) i.toNat = lx D o h i ∧ I (51 + 29 * hs) i.toNat = gx D o h i) ∧ (∀ j, 0 ≤ j → j < D 4 t 0 → I (50 + 29 * hs) j.toNat = ly D t h j ∧ I (52 + 29 * hs) j.toNat = gy D t h j)
theorem cK.w5 {D : zD} {o t h : Int} {hs : Nat} {c : Int} {I I' : zF} (hK : cK hs c I I') (hw : kW D o t h hs I) : kW D o t h hs I' := by
  have g : ∀ k q, (48 + 29 * hs ≤ k ∧ k ≤ 52 + 29 * hs) → I' k q = I k q := fun k q r => hK k q (by omega) (by omega) (by omega) (by omega) (by omega)
  unfold kW at *
  rw [g _ _ (by omega)]
  refine ⟨hw.1, fun i a b => ?_, fun j a b => ?_⟩
  · rw [g _ _ (by omega), g _ _ (by omega)]; exact hw.2.1 i a b
  · rw [g _ _ (by omega), g _ _ (by omega)]; exact hw.2.2 j a b
theorem sc_cell {I0 : zF} (eh : hs = 0 ∨ hs = 1) (hS0 : cS D pg hs I0) {o t h i j : Int} (hh : 0 ≤ h ∧ h < 2) (co : pf_canPaint D o h = 1) (ct : pf_canPaint D t h = 1) (hi : 0 ≤ i ∧ i ≤ D 4 o 0) (hj : 0 ≤ j ∧ j ≤ D 4 t 0) (hne : i < D 4 o 0 ∨ j < D 4 t 0) (hw : kW D o t h hs I0) (hA : kAll D pg o t h hs I0 i j) {Q : Option ax_v → ax_S → Prop} {T : zT} {I : zF} (hK : cK hs (i * 7 + j) I0 I) (hT : T = pf_cs D pg h (lx D o h i) (ly D t h j) (gx D o h i) (gy D t h j) (pf_L D pg o t h (i + 1) (j + 1)) (pf_L D pg o t h (i + 1) j) (pf_L D pg o t h i (j + 1)) 4 0 z0) (bT : zTb 13 T) (hr : kRel hs I (i * 7 + j) T) (hQ : ∀ I', cK hs (i * 7 + j) I0 I' → kOk hs I' (i * 7 + j) (pf_L D pg o t h i j) → zb_W (d + 4) ax_m39 (319, [some (.inr (.inr (some (48 + 29 * hs)))), some (.inr (.inr (some ((39 + 29 * hs))))), none, none, none, some (.inl (D 4 o 0)), some (.inl (D 4 t 0)), some (.inl i), some (.inl j), none], [], zc_S hf pf I' J) Q) : zb_W (d + 4) ax_m39 (260, [some (.inr (.inr (some (48 + 29 * hs)))), some (.inr (.inr (some ((39 + 29 * hs))))), none, none, none, some (.inl (D 4 o 0)), some (.inl (D 4 t 0)), some (.inl i), some (.inl j), some (.inl (i * 7 + j))], [], zc_S hf pf I J) Q := by
  have m4 := hS0.ok.a4 o 0
  have n4 := hS0.ok.a4 t 0
  have h8 := hS0.ok.a8 1 0
  have hgx := gx_15 hS0.ok o h i
  have hgy := gy_15 (D := D) t h j
  have L1 := pf_L_b hS0.ok o t h (i + 1) (j + 1) (by omega) (by omega)
  have L2 := pf_L_b hS0.ok o t h (i + 1) j (by omega) (by omega)
  have L3 := pf_L_b hS0.ok o t h i (j + 1) (by omega) (by omega)
  have fin : pf_L D pg o t h i j = pf_st D pg h (lx D o h i) (ly D t h j) (gx D o h i) (gy D t h j) (pf_L D pg o t h (i + 1) (j + 1)) (pf_L D pg o t h (i + 1) j) (pf_L D pg o t h i (j + 1)) 5 (pf_st D pg h (lx D o h i) (ly D t h j) (gx D o h i) (gy D t h j) (pf_L D pg o t h (i + 1) (j + 1)) (pf_L D pg o t h (i + 1) j) (pf_L D pg o t h i (j + 1)) 4 T) := by
    rw [pf_L_eq hi.2 hj.2 hne, hT]
    unfold pf_ce
    rw [show (6 : Nat) = 4 + 2 from rfl, pf_cs_split]
    rfl
  have hcc := pf_L_c hS0.ok co ct hi hj hne
  have s4 := pf_st_b (D := D) (pg := pg) hS0.ok (h := h) (x := lx D o h i) (y := ly D t h j) (b := 4) (B := 12) hgx hgy (by decide) L1 L2 L3 bT
  revert fin s4
  generalize eT4 : pf_st D pg h (lx D o h i) (ly D t h j) (gx D o h i) (gy D t h j) (pf_L D pg o t h (i + 1) (j + 1)) (pf_L D pg o t h (i + 1) j) (pf_L D pg o t h i (j + 1)) 4 T = T4
  intro fin s4
  have n5 : pf_nn D pg h (lx D o h i) (ly D t h j) (gx D o h i) (gy D t h j) 5 = D 8 1 0 := by unfold pf_nn; rw [if_neg (by decide)]
  have n4' : pf_nn D pg h (lx D o h i) (ly D t h j) (gx D o h i) (gy D t h j) 4 = D 8 1 0 := by unfold pf_nn; rw [if_neg (by decide)]
  have step2 : ∀ I1, cK hs (i * 7 + j) I0 I1 → kRel hs I1 (i * 7 + j) T4 → zb_W (d + 4) ax_m39 (290, [some (.inr (.inr (some (48 + 29 * hs)))), some (.inr (.inr (some ((39 + 29 * hs))))), none, none, none, some (.inl (D 4 o 0)), some (.inl (D 4 t 0)), some (.inl i), some (.inl j), some (.inl (i * 7 + j))], [], zc_S hf pf I1 J) Q := by
    intro I1 hK1 hr1
    have done : ∀ I2 T5, cK hs (i * 7 + j) I0 I2 → kRel hs I2 (i * 7 + j) T5 → pf_L D pg o t h i j = T5 → zb_W (d + 4) ax_m39 (319, [some (.inr (.inr (some (48 + 29 * hs)))), some (.inr (.inr (some ((39 + 29 * hs))))), none, none, none, some (.inl (D 4 o 0)), some (.inl (D 4 t 0)), some (.inl i), some (.inl j), none], [], zc_S hf pf I2 J) Q := by
      intro I2 T5 hK2 hr2 e
      subst e
      refine hQ I2 hK2 ⟨?_, hr2.2⟩
      have := hr2.1
      rw [if_neg (by omega)] at this
      exact this
    have hS1 := hK1.F.S hS0
    have hw1 := hK1.w5 hw
    refine zk_LineFinder_find_290 hf pf I1 J _ _ i j _ hs eh ?_
    rw [zb_w (x := j) (by omega) (by omega), zb_w (x := D 4 t 0) (by omega) (by omega)]
    refine ⟨fun c => ⟨by omega, ?_⟩, fun c => done I1 T4 hK1 hr1 ?_⟩
    · rw [hS1.L.rl.2.1, (hw1.2.2 j hj.1 c).2]
      have hy := ly_ne hS0.ok ct ⟨hj.1, c⟩
      have hk1 := hK1.k (c2 := i * 7 + j + 1) (by omega) (T := pf_L D pg o t h i (j + 1)) (by rw [show i * 7 + j + 1 = i * 7 + (j + 1) by omega]; exact hA i (j + 1) hi.1 hi.2 (by omega) (by omega) (by omega))
      refine sc_offer eh (by omega) (by omega) hr1 hk1.1 s4 L3 (by omega) (by decide) hgy (fun I2 hK2 hr2 => done I2 _ (hK1.trans hK2) hr2 ?_)
      rw [fin]
      unfold pf_st
      rw [n5, if_neg (by omega)]
      rfl
    · rw [fin]
      unfold pf_st
      rw [if_pos (Or.inr (Or.inl ⟨by decide, ly_m (by omega)⟩))]
  have hS1 := hK.F.S hS0
  have hw1 := hK.w5 hw
  refine zk_LineFinder_find_260 hf pf I J _ _ i j _ hs eh ?_
  rw [zb_w (x := i) (by omega) (by omega), zb_w (x := D 4 o 0) (by omega) (by omega)]
  refine ⟨fun c => ⟨by omega, ?_⟩, fun c => step2 I hK ?_⟩
  · rw [hS1.L.rl.2.1, (hw1.2.1 i hi.1 c).2]
    have hx := lx_ne hS0.ok co ⟨hi.1, c⟩
    have hk1 := hK.k (c2 := i * 7 + j + 7) (by omega) (T := pf_L D pg o t h (i + 1) j) (by rw [show i * 7 + j + 7 = (i + 1) * 7 + j by omega]; exact hA (i + 1) j (by omega) (by omega) hj.1 hj.2 (by omega))
    refine sc_offer eh (by omega) (by omega) hr hk1.1 bT L2 (by omega) (by decide) hgx (fun I2 hK2 hr2 => step2 I2 (hK.trans hK2) ?_)
    rw [← eT4]
    unfold pf_st
    rw [n4', if_neg (by omega)]
    exact hr2
  · rw [← eT4]
    unfold pf_st
    rw [if_pos (Or.inl ⟨by decide, lx_m (by omega)⟩)]
    exact hr
end ZCB
