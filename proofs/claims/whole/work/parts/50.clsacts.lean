/-! THE CLASS: years ahead, acts, the tape -/
def pf_wn (pg : zG) (p : Int) : Nat → Int → Int → Int
  | 0, _, g => g
  | n + 1, y, g => pf_wn pg p n (y + 1) (pf_wash pg g p y)
theorem pf_wn_15 {pg : zG} {p : Int} : ∀ (n : Nat) (y g : Int), g15 g → g15 (pf_wn pg p n y g) := by
  intro n
  induction n with
  | zero => intro y g h; exact h
  | succ n ih => intro y g h; exact ih _ _ (pf_wash_15 h)
theorem pf_wn_snoc {pg : zG} {p : Int} : ∀ (n : Nat) (y g : Int), pf_wn pg p (n + 1) y g = pf_wash pg (pf_wn pg p n y g) p (y + n) := by
  intro n
  induction n with
  | zero =>
    intro y g
    show pf_wash pg g p y = pf_wash pg g p (y + ((0 : Nat) : Int))
    rw [show y + ((0 : Nat) : Int) = y by omega]
  | succ n ih =>
    intro y g
    have e : pf_wn pg p (n + 1 + 1) y g = pf_wn pg p (n + 1) (y + 1) (pf_wash pg g p y) := rfl
    have e2 : pf_wn pg p (n + 1) y g = pf_wn pg p n (y + 1) (pf_wash pg g p y) := rfl
    rw [e, ih, e2, show y + 1 + (n : Int) = y + ((n + 1 : Nat) : Int) by omega]
theorem pf_yearsT_snoc {D : zD} {pg : zG} : ∀ (n : Nat) (W : zD), pf_yearsT D pg (n + 1) W = pf_yearT D pg (pf_yearsT D pg n W) := by
  intro n
  induction n with
  | zero => intro W; rfl
  | succ n ih =>
    intro W
    have e : pf_yearsT D pg (n + 1 + 1) W = pf_yearsT D pg (n + 1) (pf_yearT D pg W) := rfl
    have e2 : pf_yearsT D pg (n + 1) W = pf_yearsT D pg n (pf_yearT D pg W) := rfl
    rw [e, ih, e2]
theorem pf_yearsT_y {D : zD} {pg : zG} : ∀ (n : Nat) (W : zD), pf_yearsT D pg n W 0 0 0 = W 0 0 0 + n := by
  intro n
  induction n with
  | zero => intro W; show W 0 0 0 = _; omega
  | succ n ih => intro W; unfold pf_yearsT; rw [ih, pf_yearT_y]; omega
theorem pf_yearT_3 {D : zD} {pg : zG} {W : zD} {b k : Int} (hb : 0 ≤ b ∧ b < D 6 0 0) (hk : 0 ≤ k ∧ k < D 4 (W 1 b 0) 0) : pf_yearT D pg W 3 b k = pf_wash pg (W 3 b k) k (W 0 0 0) := by
  unfold pf_yearT
  rw [wu_ne (by omega)]
  unfold pf_rain pf_rainTo
  rw [if_pos (by omega)]
theorem pf_yearsT_3 {D : zD} {pg : zG} {b k : Int} (hb : 0 ≤ b ∧ b < D 6 0 0) : ∀ (n : Nat) (W : zD), (0 ≤ k ∧ k < D 4 (W 1 b 0) 0) → pf_yearsT D pg n W 3 b k = pf_wn pg k n (W 0 0 0) (W 3 b k) := by
  intro n
  induction n with
  | zero => intro W _; rfl
  | succ n ih =>
    intro W hk
    unfold pf_yearsT pf_wn
    rw [ih _ (by rw [pf_yearT_o (by decide) (by decide)]; exact hk), pf_yearT_y, pf_yearT_3 hb hk]
/-- the place says its letter behind n years -/
def pf_F (D : zD) (pg : zG) (W : zD) (b : Int) (n : Nat) (p : Int) : Prop := pf_read D pg (W 2 b 0) (pf_wn pg p n (W 0 0 0) (W 3 b p)) = D 5 (W 1 b 0) p
def pf_FA (D : zD) (pg : zG) (W : zD) (b : Int) (n : Nat) : Prop := ∀ p, 0 ≤ p → p < D 4 (W 1 b 0) 0 → pf_F D pg W b n p
theorem pf_ds_iff {D : zD} {pg : zG} {V : zD} {b : Int} : ∀ (n : Nat) (k : Int), pf_ds D pg V b n k = 1 ↔ ∀ j, k ≤ j → j < k + n → pf_said D pg V b j = D 5 (V 1 b 0) j := by
  intro n
  induction n with
  | zero => intro k; exact ⟨fun _ j a b => by omega, fun _ => rfl⟩
  | succ n ih =>
    intro k
    unfold pf_ds
    by_cases q : pf_said D pg V b k = D 5 (V 1 b 0) k
    · rw [if_pos q, ih]
      refine ⟨fun h j a c => ?_, fun h j a c => h j (by omega) (by omega)⟩
      by_cases e : j = k
      · rw [e]; exact q
      · exact h j (by omega) (by omega)
    · rw [if_neg q]
      exact ⟨fun h => absurd h (by decide), fun h => absurd (h k (Int.le_refl _) (by omega)) q⟩
theorem pf_says_F {D : zD} {pg : zG} (ok : zD_ok D pg) {W : zD} {b : Int} (hb : 0 ≤ b ∧ b < D 6 0 0) (n : Nat) : pf_says D pg (pf_yearsT D pg n W) b = 1 ↔ pf_FA D pg W b n := by
  have h4 := ok.a4 (W 1 b 0) 0
  have e1 : pf_yearsT D pg n W 1 b 0 = W 1 b 0 := pf_yearsT_o (by decide) (by decide) _ _ _ _
  have e2 : pf_yearsT D pg n W 2 b 0 = W 2 b 0 := pf_yearsT_o (by decide) (by decide) _ _ _ _
  unfold pf_says
  rw [e1, pf_ds_iff]
  unfold pf_FA pf_F
  refine ⟨fun h p p0 p1 => ?_, fun h p p0 p1 => ?_⟩
  · have := h p p0 (by omega)
    unfold pf_said at this
    rw [e1, e2, pf_yearsT_3 hb n W ⟨p0, p1⟩] at this
    exact this
  · unfold pf_said
    rw [e1, e2, pf_yearsT_3 hb n W ⟨p0, by omega⟩]
    exact h p p0 (by omega)
theorem pf_la_F {D : zD} {pg : zG} (ok : zD_ok D pg) {W : zD} {b : Int} (hb : 0 ≤ b ∧ b < D 6 0 0) : ∀ (m n : Nat), n + m = 60 → W 0 0 0 + n ≤ 999 → (∀ j, j ≤ n → pf_FA D pg W b j) → ∃ r : Nat, pf_la D pg b m n (pf_yearsT D pg n W) = (r : Int) ∧ r ≤ 60 ∧ W 0 0 0 + r ≤ 999 ∧ (∀ j, j ≤ r → pf_FA D pg W b j) ∧ (r < 60 → W 0 0 0 + r < 999 → ¬ pf_FA D pg W b (r + 1)) := by
  intro m
  induction m with
  | zero =>
    intro n hn hy hF
    exact ⟨n, rfl, by omega, hy, hF, fun q => by omega⟩
  | succ m ih =>
    intro n hn hy hF
    unfold pf_la
    rw [pf_yearsT_y, ← pf_yearsT_snoc]
    by_cases q : W 0 0 0 + (n : Int) < 999
    · rw [if_pos q]
      by_cases q2 : pf_says D pg (pf_yearsT D pg (n + 1) W) b = 1
      · rw [if_pos q2]
        have := ih (n + 1) (by omega) (by omega) (fun j hj => ?_)
        · exact this
        · by_cases e : j = n + 1
          · rw [e]; exact (pf_says_F ok hb (n + 1)).mp q2
          · exact hF j (by omega)
      · rw [if_neg q2]
        exact ⟨n, rfl, by omega, hy, hF, fun _ _ h => q2 ((pf_says_F ok hb (n + 1)).mpr h)⟩
    · rw [if_neg q]
      exact ⟨n, rfl, by omega, hy, hF, fun _ h => absurd h q⟩
theorem land31 {x : Int} (h0 : 0 ≤ x) (h1 : x < 9223372036854775808) : ax_land x 2147483647 = x % 2147483648 := by
  obtain ⟨a, rfl⟩ := Int.eq_ofNat_of_zero_le h0
  unfold ax_land
  have e1 : (Int64.ofInt (a : Int)).toBitVec.toNat = a := by
    rw [Int64.toBitVec_ofInt, BitVec.ofInt_natCast, BitVec.toNat_ofNat]
    omega
  have e2 : (Int64.ofInt (a : Int) &&& Int64.ofInt 2147483647).toBitVec.toNat = a % 2147483648 := by
    rw [Int64.toBitVec_and, BitVec.toNat_and, e1]
    exact Nat.and_two_pow_sub_one_eq_mod a 31
  show (Int64.ofInt (a : Int) &&& Int64.ofInt 2147483647).toBitVec.toInt = _
  rw [BitVec.toInt_eq_toNat_of_lt (by rw [e2]; omega), e2]
  omega
theorem pf_lostK_l {pg : zG} {W : zD} {b : Int} : ∀ (n : Nat) (k l : Int), pf_lostK pg W b n k l = l + pf_lostK pg W b n k 0 := by
  intro n
  induction n with
  | zero => intro k l; show l = l + 0; omega
  | succ n ih => intro k l; unfold pf_lostK; rw [ih, ih (k + 1) (0 + _)]; omega
theorem pf_lostB_l {D : zD} {pg : zG} {W : zD} : ∀ (n : Nat) (b l : Int), pf_lostB D pg W n b l = l + pf_lostB D pg W n b 0 := by
  intro n
  induction n with
  | zero => intro b l; show l = l + 0; omega
  | succ n ih => intro b l; unfold pf_lostB; rw [ih, ih (b + 1) (pf_lostK pg W b _ 0 0), pf_lostK_l _ 0 l]; omega
/-! bytes -/
def sb (x : Int) : Int := if x < 128 then x else x - 256
theorem i2b_eq (y : Int) : ax_i2b y = Int.bmod y 256 := by
  unfold ax_i2b
  rw [Int8.toInt_toInt32, Int32.toInt_toInt8, Int32.toInt_ofInt]
  exact Int.bmod_bmod_of_dvd (by decide)
theorem and255_eq (y : Int) : ax_and y 255 = y % 256 := by
  have h := and255 y
  unfold ax_and at h ⊢
  have e : (Int32.ofInt y &&& Int32.ofInt 255).toBitVec.toNat = (y % 4294967296).toNat % 256 := by
    rw [Int32.toBitVec_and, BitVec.toNat_and, Int32.toBitVec_ofInt, BitVec.toNat_ofInt]
    exact Nat.and_two_pow_sub_one_eq_mod _ 8
  have e2 : (Int32.ofInt y &&& Int32.ofInt 255).toInt = (((y % 4294967296).toNat % 256 : Nat) : Int) := bo_ti e (by omega)
  rw [e2]
  omega
theorem i2b_sb (y : Int) : ax_i2b (ax_i2b y) = sb (ax_and y 255) := by
  rw [i2b_eq, i2b_eq, and255_eq, Int.bmod_bmod]
  have e : Int.bmod y 256 = if y % 256 < 128 then y % 256 else y % 256 - 256 := by
    show (if y % 256 < ((256 : Int) + 1) / 2 then y % 256 else y % 256 - 256) = _
    rw [show ((256 : Int) + 1) / 2 = 128 from rfl]
  rw [e]
  rfl
theorem sb_and {x : Int} (h : 0 ≤ x ∧ x ≤ 255) : ax_and (sb x) 255 = x := by
  rw [and255_eq]
  unfold sb
  split <;> omega
/-- the tape in the class -/
def tC (T : Nat → Int) (n : Int) (I : zF) : Prop := I 1 1 = n ∧ (0 ≤ n ∧ n ≤ 1600) ∧ ∀ j : Nat, (j : Int) < n → I 2 j = sb (T j) ∧ 0 ≤ T j ∧ T j ≤ 255
section ZC8
variable {d hf pf : Nat} {I J : zF} {D : zD} {pg : zG} {W : zD} {T : Nat → Int} {n : Int} {P : Int → zF → zF → Prop} {P0 : zF → zF → Prop}
theorem sc_says_70 {I0 : zF} (eh : hf = 0 ∨ hf = 1) (hB0 : cB D pg W hf I0) {b how m p : Int} (hb : 0 ≤ b ∧ b < D 6 0 0) (hw : n32 how) (hp : 0 ≤ p ∧ p < 6) (hm : 0 ≤ m ∧ m ≤ 60) {Q : Option ax_v → ax_S → Prop} : ∀ (k : Nat) (i g : Int) (I : zF), cE hf I0 I → g15 g → 0 ≤ i → i + k = m → (∀ I', cE hf I0 I' → Q (some (.inl (pf_read D pg (W 2 b 0) (pf_seen (pf_wn pg p k (W 0 0 0 + i) g) how)))) (zc_S hf pf I' J)) → zb_W (d + 5) ax_m140 (70, [some (.inr (.inr (some 0))), some (.inl b), some (.inl how), some (.inl m), none, some (.inl p), some (.inl g), some (.inl i)], [], zc_S hf pf I J) Q := by
  have h6 := hB0.S.ok.a6 0 0
  have hy := hB0.W.y
  intro k
  induction k with
  | zero =>
    intro i g I hE hg h0 he hQ
    have hB := hE.B eh hB0
    refine zk_Top_says_70 hf pf I J b how m p g i eh ?_
    rw [zb_w (x := i) (by omega) (by omega), zb_w (x := m) (by omega) (by omega)]
    exact ⟨fun c => by omega, fun _ => sc_handOf hB.2.2 (by omega) (sc_turned hg hw (sc_readingOf eh hB.S (hB.W.h hb) (pf_seen_15 _ _) (fun I2 hE2 => hQ I2 (hE.trans hE2))))⟩
  | succ k ih =>
    intro i g I hE hg h0 he hQ
    have hB := hE.B eh hB0
    refine zk_Top_says_70 hf pf I J b how m p g i eh ?_
    rw [zb_w (x := i) (by omega) (by omega), zb_w (x := m) (by omega) (by omega)]
    refine ⟨fun _ => sc_yearNow hB.y (sc_washed eh hB.S hg hp (by omega) (fun I2 hE2 => ih (i + 1) _ I2 (hE.trans hE2) (pf_wash_15 hg) (by omega) (by omega) (fun I' a => ?_))), fun c => by omega⟩
    have := hQ I' a
    unfold pf_wn at this
    rw [show W 0 0 0 + i + 1 = W 0 0 0 + (i + 1) by omega] at this
    exact this
theorem sc_says (eh : hf = 0 ∨ hf = 1) (hB : cB D pg W hf I) {b how m k : Int} (hb : n32 b) (hh : n32 how) (hm : n32 m) (hk : n32 k) (hP : ∀ I', cE hf I I' → P (an_says D pg W b how m k) I' J) : zc_i (d + 6) 140 [.inr (.inr (some 0)), .inl b, .inl how, .inl m, .inl k] hf pf I J P := by
  have h6 := hB.S.ok.a6 0 0
  have h4 := hB.S.ok.a4 (W 1 b 0) 0
  have hy := hB.W.y
  unfold an_says at hP
  have hP0 := hP I (cE.refl hf I)
  refine zc_ini (M := ax_m140) rfl (Nat.le_of_ble_eq_true rfl) (zk_Top_says_0 hf pf I J b how m k (sc_holdsPlace eh hB hb hk (bc (fun q => sc_isView hh (bc (fun q2 => ?_) (fun q2 => zc_Qi.of (by rwa [if_pos q, if_neg q2] at hP0)))) (fun q => zc_Qi.of (by rwa [if_neg q] at hP0)))))
  rw [if_pos q, if_pos q2] at hP hP0
  rw [hm.w, show ax_w 0 = 0 from rfl]
  refine ⟨fun c => zc_Qi.of (by rwa [if_neg (by omega)] at hP0), fun c => sc_yearsAhead hB ?_⟩
  have ea : ax_w (if 999 - W 0 0 0 < 60 then 999 - W 0 0 0 else 60) = (if 999 - W 0 0 0 < 60 then 999 - W 0 0 0 else 60) := by split <;> exact zb_w (by omega) (by omega)
  rw [ea]
  refine ⟨fun c2 => zc_Qi.of ?_, fun c2 => ?_⟩
  · rw [if_neg (by split at c2 <;> omega)] at hP0; exact hP0
  · rw [if_pos (by split at c2 <;> omega)] at hP
    have hm2 : 0 ≤ m ∧ m ≤ 60 := by split at c2 <;> omega
    have fin : ∀ p, 0 ≤ p ∧ p < D 4 (W 1 b 0) 0 → p = (if how = 1 ∨ how = 3 then D 4 (W 1 b 0) 0 - 1 - k else k) → zb_W (d + 5) ax_m140 (70, [some (.inr (.inr (some 0))), some (.inl b), some (.inl how), some (.inl m), none, some (.inl p), some (.inl (W 3 b p)), some (.inl 0)], [], zc_S hf pf I J) (zc_Qi hf pf P) := by
      intro p hp e
      refine sc_says_70 eh hB q.1 hh (by omega) hm2 m.toNat 0 _ I (cE.refl hf I) (hB.W.g b p) (by decide) (by omega) (fun I' a => zc_Qi.of ?_)
      have := hP I' a
      rw [← e, pf_yearsT_3 q.1 _ _ hp] at this
      rw [Int.add_zero]
      exact this
    refine sc_readsBackwards hh (bc (fun e => sc_placesOf eh hB q.1 (sc_glyphAt hB.2.2 (by omega) (by omega) (fin _ (by omega) (by rw [if_pos e])))) (fun e => sc_glyphAt hB.2.2 (by omega) (by omega) (fin _ q.2 (by rw [if_neg e]))))
theorem sc_yop_63 {I0 : zF} (eh : hf = 0 ∨ hf = 1) (hB0 : cB D pg W hf I0) {b p m : Int} (hb : 0 ≤ b ∧ b < D 6 0 0) (hp : 0 ≤ p ∧ p < D 4 (W 1 b 0) 0) (hm : 0 ≤ m ∧ m ≤ 60 ∧ W 0 0 0 + m ≤ 999) {Q : Option ax_v → ax_S → Prop} : ∀ (k i : Nat) (I : zF), cE hf I0 I → i + k = m → (∀ j, j ≤ i → pf_F D pg W b j p) → (∀ I' (r : Nat), cE hf I0 I' → (r : Int) ≤ m → (∀ j, j ≤ r → pf_F D pg W b j p) → ((r : Int) < m → ¬ pf_F D pg W b (r + 1) p) → Q (some (.inl (r : Int))) (zc_S hf pf I' J)) → zb_W (d + 5) ax_m171 (63, [some (.inr (.inr (some 0))), none, some (.inl p), some (.inl m), some (.inl (D 5 (W 1 b 0) p)), some (.inl (W 2 b 0)), some (.inl (pf_wn pg p i (W 0 0 0) (W 3 b p))), some (.inl i), none], [], zc_S hf pf I J) Q := by
  have h4 := hB0.S.ok.a4 (W 1 b 0) 0
  have h5 := hB0.S.ok.a5 (W 1 b 0) p
  have hy := hB0.W.y
  intro k
  induction k with
  | zero =>
    intro i I hE he hF hQ
    refine zk_Top_yearsOfPlace_63 hf pf I J p m _ _ _ (i : Int) eh ?_
    rw [zb_w (x := (i : Int)) (by omega) (by omega), zb_w (x := m) (by omega) (by omega)]
    refine ⟨fun c => by omega, fun _ => ?_⟩
    have := hQ I i hE (by omega) hF (fun c => by omega)
    rw [show (i : Int) = m by omega] at this
    exact this
  | succ k ih =>
    intro i I hE he hF hQ
    have hB := hE.B eh hB0
    have hg := pf_wn_15 (pg := pg) (p := p) i (W 0 0 0) _ (hB0.W.g b p)
    have hg2 := pf_wash_15 (pg := pg) (place := p) (year := W 0 0 0 + (i : Int)) hg
    refine zk_Top_yearsOfPlace_63 hf pf I J p m _ _ _ (i : Int) eh ?_
    rw [zb_w (x := (i : Int)) (by omega) (by omega), zb_w (x := m) (by omega) (by omega)]
    refine ⟨fun _ => sc_yearNow hB.y (sc_washed eh hB.S hg (by omega) (by omega) (fun I2 hE2 => ?_)), fun c => by omega⟩
    have esn := pf_wn_snoc (pg := pg) (p := p) i (W 0 0 0) (W 3 b p)
    rw [← esn] at hg2 ⊢
    have hE3 := hE.trans hE2
    have go : ∀ I3, cE hf I0 I3 → pf_F D pg W b (i + 1) p → zb_W (d + 5) ax_m171 (120, [some (.inr (.inr (some 0))), none, some (.inl p), some (.inl m), some (.inl (D 5 (W 1 b 0) p)), some (.inl (W 2 b 0)), none, some (.inl i), some (.inl (pf_wn pg p (i + 1) (W 0 0 0) (W 3 b p)))], [], zc_S hf pf I3 J) Q := by
      intro I3 hE4 hF1
      refine zk_Top_yearsOfPlace_120 hf pf I3 J p m _ _ (i : Int) _ ?_
      have := ih (i + 1) I3 hE4 (by omega) (fun j hj => ?_) hQ
      · rw [show (i : Int) + 1 = ((i + 1 : Nat) : Int) by omega]; exact this
      · by_cases e : j = i + 1
        · rw [e]; exact hF1
        · exact hF j (by omega)
    rw [hg.w, hg2.w]
    refine ⟨fun e => go I2 hE3 ?_, fun e => sc_readingOf eh (hE3.S hB0.S) (hB0.W.h hb) hg2 (fun I4 hE4 => ?_)⟩
    · have := hF i (Nat.le_refl _)
      unfold pf_F at this ⊢
      rw [e]; exact this
    · have hr := pf_read_in hB0.S.ok (W 2 b 0) (pf_wn pg p (i + 1) (W 0 0 0) (W 3 b p))
      rw [zb_w (x := pf_read D pg (W 2 b 0) (pf_wn pg p (i + 1) (W 0 0 0) (W 3 b p))) (by omega) (by omega), zb_w (x := D 5 (W 1 b 0) p) (by omega) (by omega)]
      exact ⟨fun e2 => go I4 (hE3.trans hE4) e2, fun e2 => hQ I4 i (hE3.trans hE4) (by omega) hF (fun _ => e2)⟩
theorem sc_yearsOfPlace (eh : hf = 0 ∨ hf = 1) (hB : cB D pg W hf I) {b p m : Int} (hb : 0 ≤ b ∧ b < D 6 0 0) (hp : 0 ≤ p ∧ p < D 4 (W 1 b 0) 0) (hm : 0 ≤ m ∧ m ≤ 60 ∧ W 0 0 0 + m ≤ 999) (hP0 : ∀ I', cE hf I I' → ¬ pf_F D pg W b 0 p → P (-1) I' J) (hP : ∀ I' (r : Nat), cE hf I I' → (r : Int) ≤ m → (∀ j, j ≤ r → pf_F D pg W b j p) → ((r : Int) < m → ¬ pf_F D pg W b (r + 1) p) → P (r : Int) I' J) : zc_i (d + 6) 171 [.inr (.inr (some 0)), .inl b, .inl p, .inl m] hf pf I J P := by
  have h6 := hB.S.ok.a6 0 0
  have h4 := hB.S.ok.a4 (W 1 b 0) 0
  have h5 := hB.S.ok.a5 (W 1 b 0) p
  have hr := pf_read_in hB.S.ok (W 2 b 0) (W 3 b p)
  refine zc_ini (M := ax_m171) rfl (Nat.le_of_ble_eq_true rfl) (zk_Top_yearsOfPlace_0 hf pf I J b p m eh (sc_wordOf hB.2.2 (by omega) (sc_letterAt eh hB.S.ok hB.S.L (hB.W.w hb) (by omega) (sc_handOf hB.2.2 (by omega) (sc_glyphAt hB.2.2 (by omega) (by omega) (sc_readingOf eh hB.S (hB.W.h hb) (hB.W.g b p) (fun I2 hE2 => ?_)))))))
  rw [zb_w (x := pf_read D pg (W 2 b 0) (W 3 b p)) (by omega) (by omega), zb_w (x := D 5 (W 1 b 0) p) (by omega) (by omega)]
  refine ⟨fun e => ?_, fun e => zc_Qi.of (hP0 I2 hE2 e)⟩
  exact sc_yop_63 eh hB hb hp hm m.toNat 0 I2 hE2 (by omega) (fun j hj => by rw [show j = 0 by omega]; exact e) (fun I' r a b c d => zc_Qi.of (hP I' r a b c d))
theorem sc_lasts_17 {I0 : zF} (eh : hf = 0 ∨ hf = 1) (hB0 : cB D pg W hf I0) {b M : Int} (hb : 0 ≤ b ∧ b < D 6 0 0) (hM : 0 ≤ M ∧ M ≤ 60 ∧ W 0 0 0 + M ≤ 999) {Q : Option ax_v → ax_S → Prop} : ∀ (k : Nat) (p l : Int) (I : zF), cE hf I0 I → 0 ≤ p → p + k = D 4 (W 1 b 0) 0 → ((l = -1 ∧ ¬ pf_FA D pg W b 0) ∨ ∃ r : Nat, l = (r : Int) ∧ (r : Int) ≤ M ∧ (∀ j, j ≤ r → ∀ q, 0 ≤ q → q < p → pf_F D pg W b j q) ∧ ((r : Int) < M → ¬ pf_FA D pg W b (r + 1))) → (∀ I' l', cE hf I0 I' → ((l' = -1 ∧ ¬ pf_FA D pg W b 0) ∨ ∃ r : Nat, l' = (r : Int) ∧ (r : Int) ≤ M ∧ (∀ j, j ≤ r → pf_FA D pg W b j) ∧ ((r : Int) < M → ¬ pf_FA D pg W b (r + 1))) → Q (some (.inl l')) (zc_S hf pf I' J)) → zb_W (d + 6) ax_m147 (17, [some (.inr (.inr (some 0))), some (.inl b), some (.inl l), some (.inl p)], [], zc_S hf pf I J) Q := by
  have h4 := hB0.S.ok.a4 (W 1 b 0) 0
  intro k
  induction k with
  | zero =>
    intro p l I hE h0 he hi hQ
    have hB := hE.B eh hB0
    refine zk_Top_lasts_17 hf pf I J b l p (sc_placesOf eh hB hb ?_)
    rw [zb_w (x := p) (by omega) (by omega), zb_w (x := D 4 (W 1 b 0) 0) (by omega) (by omega)]
    refine ⟨fun c => by omega, fun _ => hQ I l hE ?_⟩
    rcases hi with q | ⟨r, q1, q2, q3, q4⟩
    · exact Or.inl q
    · exact Or.inr ⟨r, q1, q2, fun j hj x x0 x1 => q3 j hj x x0 (by omega), q4⟩
  | succ k ih =>
    intro p l I hE h0 he hi hQ
    have hB := hE.B eh hB0
    refine zk_Top_lasts_17 hf pf I J b l p (sc_placesOf eh hB hb ?_)
    rw [zb_w (x := p) (by omega) (by omega), zb_w (x := D 4 (W 1 b 0) 0) (by omega) (by omega), show ax_w (-1) = -1 from rfl]
    refine ⟨fun _ => ?_, fun c => by omega⟩
    rcases hi with ⟨q1, q2⟩ | ⟨r, q1, q2, q3, q4⟩
    · subst q1
      exact ⟨fun _ => hQ I (-1) hE (Or.inl ⟨rfl, q2⟩), fun e => absurd rfl e⟩
    · subst q1
      rw [zb_w (x := (r : Int)) (by omega) (by omega)]
      refine ⟨fun e => by omega, fun _ => sc_yearsOfPlace eh hB hb ⟨h0, by omega⟩ (by omega) (fun I2 hE2 hn => ?_) (fun I2 r2 hE2 g1 g2 g3 => ?_)⟩
      · refine ih (p + 1) (-1) I2 (hE.trans hE2) (by omega) (by omega) (Or.inl ⟨rfl, fun h => hn (h p h0 (by omega))⟩) hQ
      · refine ih (p + 1) _ I2 (hE.trans hE2) (by omega) (by omega) (Or.inr ⟨r2, rfl, by omega, fun j hj x x0 x1 => ?_, fun c => ?_⟩) hQ
        · by_cases e : x = p
          · rw [e]; exact g2 j hj
          · exact q3 j (by omega) x x0 (by omega)
        · by_cases e : (r2 : Int) < (r : Int)
          · exact fun h => g3 e (h p h0 (by omega))
          · have : r2 = r := by omega
            rw [this]
            exact q4 (by omega)
theorem sc_lasts (eh : hf = 0 ∨ hf = 1) (hB : cB D pg W hf I) {b : Int} (hb : n32 b) (hP : ∀ I', cE hf I I' → P (an_lasts D pg W b) I' J) : zc_i (d + 7) 147 [.inr (.inr (some 0)), .inl b] hf pf I J P := by
  have hy := hB.W.y
  unfold an_lasts at hP
  have hP0 := hP I (cE.refl hf I)
  refine zc_ini (M := ax_m147) rfl (Nat.le_of_ble_eq_true rfl) (zk_Top_lasts_0 hf pf I J b (sc_holdsBoard eh hB hb (bc (fun q => ?_) (fun q => zc_Qi.of (by rwa [if_neg q] at hP0)))))
  rw [if_pos q] at hP
  have h4 := hB.S.ok.a4 (W 1 b 0) 0
  refine sc_yearsAhead hB (sc_lasts_17 eh hB (M := if 999 - W 0 0 0 < 60 then 999 - W 0 0 0 else 60) q (by split <;> omega) (D 4 (W 1 b 0) 0).toNat 0 _ I (cE.refl hf I) (by decide) (by omega) (Or.inr ⟨(if 999 - W 0 0 0 < 60 then 999 - W 0 0 0 else 60).toNat, by split <;> omega, by split <;> omega, fun j _ x x0 x1 => by omega, fun c => by split at c <;> omega⟩) (fun I' l' hE hl => zc_Qi.of ?_))
  have hPI := hP I' hE
  have hs0 := pf_says_F hB.S.ok (W := W) q 0
  have e0 : pf_yearsT D pg 0 W = W := rfl
  rw [e0] at hs0
  rcases hl with ⟨q1, q2⟩ | ⟨r, q1, q2, q3, q4⟩
  · rw [if_neg (fun h => q2 (hs0.mp h))] at hPI
    rw [q1]; exact hPI
  · rw [if_pos (hs0.mpr (q3 0 (Nat.zero_le _)))] at hPI
    obtain ⟨r', e1, e2, e3, e4, e5⟩ := pf_la_F hB.S.ok (W := W) q 60 0 (by decide) (by omega) (fun j hj => by rw [show j = 0 by omega]; exact q3 0 (Nat.zero_le _))
    have e1' : pf_la D pg b 60 0 W = (r' : Int) := e1
    rw [e1'] at hPI
    have : r = r' := by
      by_cases c : r < r'
      · exact absurd (e4 (r + 1) (by omega)) (q4 (by split <;> omega))
      · by_cases c2 : r' < r
        · exact absurd (q3 (r' + 1) (by omega)) (e5 (by split at q2 <;> omega) (by split at q2 <;> omega))
        · omega
    rw [q1, this]
    exact hPI
end ZC8
