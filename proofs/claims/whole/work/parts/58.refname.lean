/-! THE REFERENCE: numbers and names -/
theorem wd_ne1 (T : Nat → Int) (n : Int) (s : zs) : wd T n s ≠ 1 := by
  intro h
  rcases wf_in (isW T n s) wAll with ⟨a, _⟩ | ⟨k, a, b, _⟩
  · unfold wd at h; omega
  · unfold wd at h
    have : k = 1 := by omega
    rw [this] at a
    exact absurd a (by decide)
abbrev own (T : Nat → Int) (n : Int) (s : zs) : Prop := 0 ≤ wd T n s ∧ wd T n s ≤ 28
def lnv (T : Nat → Int) : Nat → Int → Int → Int
  | 0, _, a => a
  | m + 1, q, a => lnv T m (q + 1) (10 * a + T q.toNat - 48)
/-- a number up to most: a fault, or what is behind it and its value -/
def pNum (T : Nat → Int) (n : Int) (s : zs) (most : Int) : Sum (Int × Int) (zs × Int) :=
  if (s.1 < n ∧ fN (T s.1.toNat) = true) ∧ s.1 ≠ s.2 then (if 4 < rn T n fN s.1 - s.1 then .inl (1, s.1 + 4) else if most < lnv T (rn T n fN s.1 - s.1).toNat s.1 0 then .inl (2, s.1) else .inr (aW T n (rn T n fN s.1), lnv T (rn T n fN s.1 - s.1).toNat s.1 0)) else .inl (1, s.1)
/-- a name up to most letters -/
def pName (T : Nat → Int) (n : Int) (s : zs) (most : Int) : Sum (Int × Int) zs :=
  if (s.1 < n ∧ fL (T s.1.toNat) = true) ∧ s.1 ≠ s.2 ∧ ¬ own T n s then (if most < rn T n fL s.1 - s.1 then .inl (1, s.1 + most) else .inr (aWd T n s)) else .inl (1, s.1)
def rYn (I I' : zF) : Prop := ∀ i j, ¬ (i = 0 ∧ (j = 2 ∨ j = 4 ∨ j = 5 ∨ j = 6 ∨ j = 10 ∨ j = 39 ∨ j = 40)) → i ≠ 31 → I' i j = I i j
theorem rY.n {I I' : zF} (h : rY I I') : rYn I I' := fun i j a _ => h i j (by omega)
theorem rYn.trans {I I' I2 : zF} (h : rYn I I') (h2 : rYn I' I2) : rYn I I2 := fun i j a b => (h2 i j a b).trans (h i j a b)
theorem rYn.W {I I' : zF} (h : rYn I I') (hW : rW I) : rW I' := rW_cong hW (fun i j a b _ _ => h i j (by omega) b)
section ZRB
variable {d : Nat} {I J : zF} {T : Nat → Int} {n : Int} {s : zs} {P : Int → zF → zF → Prop} {P0 : zF → zF → Prop}
theorem sr_isOwnHere (hL : rTx T n s I) (hP : ∀ I', rY I I' → rTx T n s I' → I' 0 2 = s.1 → P (if own T n s then 1 else 0) I' J) : zr_i (d + 3) 189 [.inr (.inr (some 0))] I J P := by
  have fin : ∀ I1 (y : rY I I1) (h : rTx T n s I1) (e : I1 0 2 = s.1) (ks : Nat) (hk : ks ≤ 28) (c : wd T n s = (ks : Int)), zr_Qi P (some (.inl 1)) (zr_S I1 J) := by
    intro I1 y h e ks hk c
    have := hP I1 y h e
    rw [if_pos (by unfold own; omega)] at this
    exact zr_Qi.of this
  have f294 : ∀ I1 (y : rY I I1) (h : rTx T n s I1) (e : I1 0 2 = s.1) (ks : Nat) (hk : ks ≤ 28) (c : wd T n s = (ks : Int)), zb_W (d + 2) ax_m189 (294, [some (.inr (.inr (some 0))), none], [], zr_S I1 J) (zr_Qi P) := fun I1 y h e ks hk c => zq_isOwnHere_294 I1 J (b1 (fin I1 y h e ks hk c))
  have f218 : ∀ I1 (y : rY I I1) (h : rTx T n s I1) (e : I1 0 2 = s.1) (ks : Nat) (hk : ks ≤ 28) (c : wd T n s = (ks : Int)), zb_W (d + 2) ax_m189 (218, [some (.inr (.inr (some 0))), none], [], zr_S I1 J) (zr_Qi P) := fun I1 y h e ks hk c => zq_isOwnHere_218 I1 J (b1 (f294 I1 y h e ks hk c))
  have f142 : ∀ I1 (y : rY I I1) (h : rTx T n s I1) (e : I1 0 2 = s.1) (ks : Nat) (hk : ks ≤ 28) (c : wd T n s = (ks : Int)), zb_W (d + 2) ax_m189 (142, [some (.inr (.inr (some 0))), none], [], zr_S I1 J) (zr_Qi P) := fun I1 y h e ks hk c => zq_isOwnHere_142 I1 J (b1 (f218 I1 y h e ks hk c))
  have f66 : ∀ I1 (y : rY I I1) (h : rTx T n s I1) (e : I1 0 2 = s.1) (ks : Nat) (hk : ks ≤ 28) (c : wd T n s = (ks : Int)), zb_W (d + 2) ax_m189 (66, [some (.inr (.inr (some 0))), none], [], zr_S I1 J) (zr_Qi P) := fun I1 y h e ks hk c => zq_isOwnHere_66 I1 J (b1 (f142 I1 y h e ks hk c))
  have none : ∀ I1 (y : rY I I1) (h : rTx T n s I1) (e : I1 0 2 = s.1) (c3 : ¬ wd T n s = ((0 : Nat) : Int)) (c4 : ¬ wd T n s = ((2 : Nat) : Int)) (c5 : ¬ wd T n s = ((3 : Nat) : Int)) (c6 : ¬ wd T n s = ((4 : Nat) : Int)) (c7 : ¬ wd T n s = ((5 : Nat) : Int)) (c8 : ¬ wd T n s = ((6 : Nat) : Int)) (c9 : ¬ wd T n s = ((21 : Nat) : Int)) (c10 : ¬ wd T n s = ((28 : Nat) : Int)) (c11 : ¬ wd T n s = ((27 : Nat) : Int)) (c12 : ¬ wd T n s = ((11 : Nat) : Int)) (c13 : ¬ wd T n s = ((12 : Nat) : Int)) (c14 : ¬ wd T n s = ((13 : Nat) : Int)) (c15 : ¬ wd T n s = ((14 : Nat) : Int)) (c16 : ¬ wd T n s = ((15 : Nat) : Int)) (c17 : ¬ wd T n s = ((16 : Nat) : Int)) (c18 : ¬ wd T n s = ((17 : Nat) : Int)) (c19 : ¬ wd T n s = ((18 : Nat) : Int)) (c20 : ¬ wd T n s = ((19 : Nat) : Int)) (c21 : ¬ wd T n s = ((20 : Nat) : Int)) (c22 : ¬ wd T n s = ((9 : Nat) : Int)) (c23 : ¬ wd T n s = ((10 : Nat) : Int)) (c24 : ¬ wd T n s = ((25 : Nat) : Int)) (c25 : ¬ wd T n s = ((24 : Nat) : Int)) (c26 : ¬ wd T n s = ((23 : Nat) : Int)) (c27 : ¬ wd T n s = ((22 : Nat) : Int)) (c28 : ¬ wd T n s = ((7 : Nat) : Int)) (c29 : ¬ wd T n s = ((8 : Nat) : Int)) (c30 : ¬ wd T n s = ((26 : Nat) : Int)), zr_Qi P (some (.inl 0)) (zr_S I1 J) := by
    intro I1 y h e c3 c4 c5 c6 c7 c8 c9 c10 c11 c12 c13 c14 c15 c16 c17 c18 c19 c20 c21 c22 c23 c24 c25 c26 c27 c28 c29 c30
    have := hP I1 y h e
    have r1 := wd_in T n s
    have r2 := wd_ne1 T n s
    rw [if_neg (by unfold own; omega)] at this
    exact zr_Qi.of this
  exact zr_ini (M := ax_m189) rfl (Nat.le_of_ble_eq_true rfl) (zq_isOwnHere_0 I J (sr_isHere (w := 3) (ks := 0) (by decide) hL (fun I3 u3 h3 e3 => have y3 := u3; bc (fun c3 => f66 I3 y3 h3 e3 _ (by decide) c3) (fun c3 => sr_isHere (w := 4) (ks := 2) (by decide) h3 (fun I4 u4 h4 e4 => have y4 := (y3.trans u4); bc (fun c4 => f66 I4 y4 h4 e4 _ (by decide) c4) (fun c4 => sr_isHere (w := 5) (ks := 3) (by decide) h4 (fun I5 u5 h5 e5 => have y5 := (y4.trans u5); bc (fun c5 => f66 I5 y5 h5 e5 _ (by decide) c5) (fun c5 => sr_isHere (w := 6) (ks := 4) (by decide) h5 (fun I6 u6 h6 e6 => have y6 := (y5.trans u6); bc (fun c6 => f66 I6 y6 h6 e6 _ (by decide) c6) (fun c6 => sr_isHere (w := 7) (ks := 5) (by decide) h6 (fun I7 u7 h7 e7 => have y7 := (y6.trans u7); bc (fun c7 => f66 I7 y7 h7 e7 _ (by decide) c7) (fun c7 => sr_isHere (w := 8) (ks := 6) (by decide) h7 (fun I8 u8 h8 e8 => have y8 := (y7.trans u8); bc (fun c8 => f66 I8 y8 h8 e8 _ (by decide) c8) (fun c8 => b0 (sr_isHere (w := 9) (ks := 21) (by decide) h8 (fun I9 u9 h9 e9 => have y9 := (y8.trans u9); bc (fun c9 => f142 I9 y9 h9 e9 _ (by decide) c9) (fun c9 => sr_isHere (w := 10) (ks := 28) (by decide) h9 (fun I10 u10 h10 e10 => have y10 := (y9.trans u10); bc (fun c10 => f142 I10 y10 h10 e10 _ (by decide) c10) (fun c10 => sr_isHere (w := 11) (ks := 27) (by decide) h10 (fun I11 u11 h11 e11 => have y11 := (y10.trans u11); bc (fun c11 => f142 I11 y11 h11 e11 _ (by decide) c11) (fun c11 => sr_isHere (w := 12) (ks := 11) (by decide) h11 (fun I12 u12 h12 e12 => have y12 := (y11.trans u12); bc (fun c12 => f142 I12 y12 h12 e12 _ (by decide) c12) (fun c12 => sr_isHere (w := 13) (ks := 12) (by decide) h12 (fun I13 u13 h13 e13 => have y13 := (y12.trans u13); bc (fun c13 => f142 I13 y13 h13 e13 _ (by decide) c13) (fun c13 => sr_isHere (w := 14) (ks := 13) (by decide) h13 (fun I14 u14 h14 e14 => have y14 := (y13.trans u14); bc (fun c14 => f142 I14 y14 h14 e14 _ (by decide) c14) (fun c14 => b0 (sr_isHere (w := 15) (ks := 14) (by decide) h14 (fun I15 u15 h15 e15 => have y15 := (y14.trans u15); bc (fun c15 => f218 I15 y15 h15 e15 _ (by decide) c15) (fun c15 => sr_isHere (w := 16) (ks := 15) (by decide) h15 (fun I16 u16 h16 e16 => have y16 := (y15.trans u16); bc (fun c16 => f218 I16 y16 h16 e16 _ (by decide) c16) (fun c16 => sr_isHere (w := 17) (ks := 16) (by decide) h16 (fun I17 u17 h17 e17 => have y17 := (y16.trans u17); bc (fun c17 => f218 I17 y17 h17 e17 _ (by decide) c17) (fun c17 => sr_isHere (w := 18) (ks := 17) (by decide) h17 (fun I18 u18 h18 e18 => have y18 := (y17.trans u18); bc (fun c18 => f218 I18 y18 h18 e18 _ (by decide) c18) (fun c18 => sr_isHere (w := 19) (ks := 18) (by decide) h18 (fun I19 u19 h19 e19 => have y19 := (y18.trans u19); bc (fun c19 => f218 I19 y19 h19 e19 _ (by decide) c19) (fun c19 => sr_isHere (w := 20) (ks := 19) (by decide) h19 (fun I20 u20 h20 e20 => have y20 := (y19.trans u20); bc (fun c20 => f218 I20 y20 h20 e20 _ (by decide) c20) (fun c20 => b0 (sr_isHere (w := 21) (ks := 20) (by decide) h20 (fun I21 u21 h21 e21 => have y21 := (y20.trans u21); bc (fun c21 => f294 I21 y21 h21 e21 _ (by decide) c21) (fun c21 => sr_isHere (w := 22) (ks := 9) (by decide) h21 (fun I22 u22 h22 e22 => have y22 := (y21.trans u22); bc (fun c22 => f294 I22 y22 h22 e22 _ (by decide) c22) (fun c22 => sr_isHere (w := 23) (ks := 10) (by decide) h22 (fun I23 u23 h23 e23 => have y23 := (y22.trans u23); bc (fun c23 => f294 I23 y23 h23 e23 _ (by decide) c23) (fun c23 => sr_isHere (w := 24) (ks := 25) (by decide) h23 (fun I24 u24 h24 e24 => have y24 := (y23.trans u24); bc (fun c24 => f294 I24 y24 h24 e24 _ (by decide) c24) (fun c24 => sr_isHere (w := 25) (ks := 24) (by decide) h24 (fun I25 u25 h25 e25 => have y25 := (y24.trans u25); bc (fun c25 => f294 I25 y25 h25 e25 _ (by decide) c25) (fun c25 => sr_isHere (w := 26) (ks := 23) (by decide) h25 (fun I26 u26 h26 e26 => have y26 := (y25.trans u26); bc (fun c26 => f294 I26 y26 h26 e26 _ (by decide) c26) (fun c26 => b0 (sr_isHere (w := 27) (ks := 22) (by decide) h26 (fun I27 u27 h27 e27 => have y27 := (y26.trans u27); bc (fun c27 => fin I27 y27 h27 e27 _ (by decide) c27) (fun c27 => sr_isHere (w := 28) (ks := 7) (by decide) h27 (fun I28 u28 h28 e28 => have y28 := (y27.trans u28); bc (fun c28 => fin I28 y28 h28 e28 _ (by decide) c28) (fun c28 => sr_isHere (w := 29) (ks := 8) (by decide) h28 (fun I29 u29 h29 e29 => have y29 := (y28.trans u29); bc (fun c29 => fin I29 y29 h29 e29 _ (by decide) c29) (fun c29 => sr_isHere (w := 30) (ks := 26) (by decide) h29 (fun I30 u30 h30 e30 => have y30 := (y29.trans u30); bc (fun c30 => fin I30 y30 h30 e30 _ (by decide) c30) (fun c30 => none I30 (y29.trans u30) h30 e30 c3 c4 c5 c6 c7 c8 c9 c10 c11 c12 c13 c14 c15 c16 c17 c18 c19 c20 c21 c22 c23 c24 c25 c26 c27 c28 c29 c30))))))))))))))))))))))))))))))))))))))))))))))))))))))))))))))
theorem sr_number_49 {I0 : zF} (h0 : rTx T n s I0) {most : Int} (hm : 0 ≤ most ∧ most ≤ 9999) (hd : (s.1 < n ∧ fN (T s.1.toNat) = true) ∧ s.1 ≠ s.2) {Q : Option ax_v → ax_S → Prop} (hQ0 : ∀ k q, pNum T n s most = .inl (k, q) → ∀ r I', 0 ≤ r ∧ r ≤ 9999 → rY I0 I' → rBad k q I' → Q (some (.inl r)) (zr_S I' J)) (hQ1 : ∀ s' v, pNum T n s most = .inr (s', v) → ∀ I', 0 ≤ v ∧ v ≤ 9999 → rY I0 I' → rTx T n s' I' → I' 0 10 = s.1 → Q (some (.inl v)) (zr_S I' J)) : ∀ (m : Nat) (q a : Int) (I : zF), rY I0 I → I 0 2 = q → (I 0 5 = 0 ∧ I 0 6 = -1) → s.1 + 4 - q = m → s.1 ≤ q → rn T n fN q = rn T n fN s.1 → (rn T n fN s.1 - s.1 ≤ 4 → lnv T (rn T n fN q - q).toNat q a = lnv T (rn T n fN s.1 - s.1).toNat s.1 0) → ((m = 4 ∧ a = 0) ∨ (m = 3 ∧ 0 ≤ a ∧ a ≤ 9) ∨ (m = 2 ∧ 0 ≤ a ∧ a ≤ 99) ∨ (m = 1 ∧ 0 ≤ a ∧ a ≤ 999) ∨ (m = 0 ∧ 0 ≤ a ∧ a ≤ 9999)) → zb_W (d + 2) ax_m188 (49, [some (.inr (.inr (some 0))), some (.inl 0), some (.inl most), some (.inl s.1), some (.inl a)], [], zr_S I J) Q := by
  have hn := h0.ok.n
  have hsp := h0.ok.1
  have hs2 := h0.ok.2.1
  have hre := rn_n (T := T) (f := fN) hsp.2
  have stop : ∀ (q a : Int) (I : zF), rY I0 I → I 0 2 = q → (I 0 5 = 0 ∧ I 0 6 = -1) → s.1 ≤ q → q ≤ s.1 + 4 → rn T n fN q = rn T n fN s.1 → ¬ (q < n ∧ fN (T q.toNat) = true) → (rn T n fN s.1 - s.1 ≤ 4 → lnv T (rn T n fN q - q).toNat q a = lnv T (rn T n fN s.1 - s.1).toNat s.1 0) → 0 ≤ a ∧ a ≤ 9999 → zb_W (d + 2) ax_m188 (129, [some (.inr (.inr (some 0))), some (.inl 0), some (.inl most), some (.inl s.1), some (.inl a)], [], zr_S I J) Q := by
    intro q a I hY h2 h5 hq hq4 he hc hv ha
    have eq : rn T n fN q = q := rn_out hc
    have hv' : lnv T (rn T n fN s.1 - s.1).toNat s.1 0 = a := by
      rw [← hv (by omega), eq, show (q - q).toNat = 0 by omega]
      rfl
    refine zq_number_129 I J 0 most s.1 a ?_
    rw [zb_w (x := a) (by omega) (by omega), zb_w (x := most) (by omega) (by omega), show ax_w 0 = 0 from rfl]
    refine sr_isIn ⟨by omega, by omega⟩ ⟨by decide, by decide⟩ ⟨by omega, by omega⟩ (bc (fun c => ?_) (fun c => ?_))
    · have hp : pNum T n s most = .inr (aW T n (rn T n fN s.1), a) := by
        unfold pNum
        rw [if_pos hd, if_neg (by omega), hv', if_neg (by omega)]
      refine hQ1 _ _ hp _ ha ((hY.u (by omega)).u (by omega)) (h0.to ((hY.u (by omega)).u (by omega)) (aW_ok h0.ok ⟨rn_le _ _ _ _, hre⟩) ?_ ?_ ?_ ?_) zu_eq
      · rw [zu_ne (by omega), zu_ne (by omega), h2, ← he, eq]
        exact ⟨by omega, rn_le T n fB q, rfl⟩
      · rw [zu_ne (by omega), zu_eq, h2, ← he, eq]; rfl
      · rw [zu_ne (by omega), zu_ne (by omega)]; exact h5.1
      · rw [zu_ne (by omega), zu_ne (by omega)]; exact h5.2
    · have hp : pNum T n s most = .inl (2, s.1) := by
        unfold pNum
        rw [if_pos hd, if_neg (by omega), hv', if_pos (by omega)]
      rw [show (ax_u (ax_u I 0 4 (I 0 2)) 0 10 s.1) 0 10 = s.1 from zu_eq]
      exact sr_fail (by rw [zu_ne (by omega), zu_ne (by omega)]; exact h5.1) (by decide) (fun I2 hY2 _ hb => hQ0 _ _ hp a I2 ha (((hY.u (by omega)).u (by omega)).trans hY2) hb)
  intro m
  induction m with
  | zero =>
    intro q a I hY h2 h5 hq hsq he hv ha
    have hnI : I 0 3 = n := by rw [hY 0 3 (by omega)]; exact h0.n
    have e4 : q = s.1 + 4 := by omega
    refine zq_number_49 I J 0 most s.1 a ?_
    rw [hnI, h2, zb_w (x := q) (by omega) (by omega), zb_w (x := n) (by omega) (by omega)]
    refine ⟨fun c => ⟨by omega, ?_⟩, fun c => stop q a I hY h2 h5 hsq (by omega) he (fun r => c r.1) hv (by omega)⟩
    have hb := h0.ok.b (q := q) (by omega) c
    rw [show I 1 q.toNat = T q.toNat by rw [hY 1 _ (by omega)]; exact h0.t (by omega) c]
    refine sr_isDigit ⟨by omega, by omega⟩ (bc (fun c2 => ?_) (fun c2 => stop q a I hY h2 h5 hsq (by omega) he (fun r => c2 r.2) hv (by omega)))
    have hp : pNum T n s most = .inl (1, s.1 + 4) := by
      unfold pNum
      have := rn_in c c2
      have := rn_le T n fN (q + 1)
      rw [if_pos hd, if_pos (by omega)]
    rw [h2, zb_w (x := q - s.1) (by omega) (by omega)]
    refine ⟨fun _ => ?_, fun c3 => absurd (show q - s.1 = 4 by omega) c3⟩
    rw [e4]
    exact sr_fail h5.1 (by decide) (fun I2 hY2 _ hb => hQ0 _ _ hp 0 I2 (by decide) (hY.trans hY2) hb)
  | succ m ih =>
    intro q a I hY h2 h5 hq hsq he hv ha
    have hnI : I 0 3 = n := by rw [hY 0 3 (by omega)]; exact h0.n
    refine zq_number_49 I J 0 most s.1 a ?_
    rw [hnI, h2, zb_w (x := q) (by omega) (by omega), zb_w (x := n) (by omega) (by omega)]
    refine ⟨fun c => ⟨by omega, ?_⟩, fun c => stop q a I hY h2 h5 hsq (by omega) he (fun r => c r.1) hv (by omega)⟩
    have hb := h0.ok.b (q := q) (by omega) c
    have ht : I 1 q.toNat = T q.toNat := by rw [hY 1 _ (by omega)]; exact h0.t (by omega) c
    rw [ht]
    refine sr_isDigit ⟨by omega, by omega⟩ (bc (fun c2 => ?_) (fun c2 => stop q a I hY h2 h5 hsq (by omega) he (fun r => c2 r.2) hv (by omega)))
    have e1 := rn_in c c2
    have l1 := rn_le T n fN (q + 1)
    have hdg : 48 ≤ T q.toNat ∧ T q.toNat ≤ 57 := of_decide_eq_true c2
    rw [h2, zb_w (x := q - s.1) (by omega) (by omega), zb_w (x := q) (by omega) (by omega), ht]
    refine ⟨fun c3 => absurd (show q - s.1 = 4 from c3) (by omega), fun _ => ⟨by omega, ih (q + 1) _ _ (hY.u (by omega)) zu_eq ⟨by rw [zu_ne (by omega)]; exact h5.1, by rw [zu_ne (by omega)]; exact h5.2⟩ (by omega) (by omega) (by omega) (fun r => ?_) (by omega)⟩⟩
    rw [← hv r, e1, show (rn T n fN (q + 1) - q).toNat = (rn T n fN (q + 1) - (q + 1)).toNat + 1 by omega]
    rfl
theorem sr_number {most : Int} (hL : rTx T n s I) (hm : 0 ≤ most ∧ most ≤ 9999) (hP0 : ∀ k q, pNum T n s most = .inl (k, q) → ∀ r I', 0 ≤ r ∧ r ≤ 9999 → rY I I' → rBad k q I' → P r I' J) (hP1 : ∀ s' v, pNum T n s most = .inr (s', v) → ∀ I', 0 ≤ v ∧ v ≤ 9999 → rY I I' → rTx T n s' I' → I' 0 10 = s.1 → P v I' J) : zr_i (d + 3) 188 [.inr (.inr (some 0)), .inl 0, .inl most] I J P := by
  have hn := hL.ok.n
  have hsp := hL.ok.1
  have hs2 := hL.ok.2.1
  have hc := lc_in hL.ok hsp.1
  refine zr_ini (M := ax_m188) rfl (Nat.le_of_ble_eq_true rfl) (zq_number_0 I J 0 most ⟨fun _ => sr_look hL (fun I1 hY1 hL1 e1 => sr_isDigit ⟨by omega, by omega⟩ (bc (fun c => ?_) (fun c => ?_))), fun q => absurd (by rw [hL.e]) q⟩)
  · have lt : s.1 < n ∧ fN (T s.1.toNat) = true := by
      by_cases q : s.1 < n
      · refine ⟨q, ?_⟩
        unfold lc at c
        rwa [if_pos q] at c
      · unfold lc at c
        rw [if_neg q] at c
        exact absurd c (by decide)
    rw [e1, hL1.g, zb_w (x := s.1) (by omega) (by omega), zb_w (x := s.2) (by omega) (by omega)]
    refine ⟨fun q => ?_, fun q => ?_⟩
    · have hp : pNum T n s most = .inl (1, s.1) := by unfold pNum; rw [if_neg (fun r => r.2 q)]
      exact sr_fail hL1.e (by decide) (fun I2 hY2 _ hb => zr_Qi.of (hP0 _ _ hp 0 I2 (by decide) (hY1.trans hY2) hb))
    · exact sr_number_49 hL1 hm ⟨lt, q⟩ (fun k q e r I' a b c => zr_Qi.of (hP0 k q e r I' a (hY1.trans b) c)) (fun s' v e I' a b c f => zr_Qi.of (hP1 s' v e I' a (hY1.trans b) c f)) 4 s.1 0 I1 (rY.refl _) e1 ⟨hL1.e, hL1.e6⟩ (by omega) (Int.le_refl _) rfl (fun _ => rfl) (Or.inl ⟨rfl, rfl⟩)
  · have hp : pNum T n s most = .inl (1, s.1) := by
      unfold pNum
      rw [if_neg (fun r => c ?_)]
      unfold lc
      rw [if_pos r.1.1]
      exact r.1.2
    rw [e1]
    exact sr_fail hL1.e (by decide) (fun I2 hY2 _ hb => zr_Qi.of (hP0 _ _ hp 0 I2 (by decide) (hY1.trans hY2) hb))
theorem sr_number_b {a most : Int} {k q : Int} (hB : rBad k q I) (hP : P 0 I J) : zr_i (d + 1) 188 [.inr (.inr (some 0)), .inl a, .inl most] I J P := zr_ini (M := ax_m188) rfl (Nat.le_of_ble_eq_true rfl) (zq_number_0 I J a most ⟨fun e => absurd e hB.ne1, fun _ => zr_Qi.of hP⟩)
theorem rTx.ton {s' : zs} {I' : zF} (h : rTx T n s I) (hY : rYn I I') (hs : sOk T n s') (hp : 0 ≤ I' 0 2 ∧ I' 0 2 ≤ s'.1 ∧ rn T n fB (I' 0 2) = s'.1) (hg : I' 0 4 = s'.2) (he : I' 0 5 = 0) (h6 : I' 0 6 = -1) : rTx T n s' I' := ⟨hs, by rw [hY 0 3 (by omega) (by omega)]; exact h.n, fun j hj => by rw [hY 1 j (by omega) (by omega)]; exact h.2.2.1 j hj, hp, hg, he, hY.W h.W, h6⟩
theorem sr_name_59 {I0 : zF} (h0 : rTx T n s I0) {most : Int} (hm : 1 ≤ most ∧ most ≤ 6) (hd : (s.1 < n ∧ fL (T s.1.toNat) = true) ∧ s.1 ≠ s.2 ∧ ¬ own T n s) {Q : Option ax_v → ax_S → Prop} (hQ0 : ∀ k q, pName T n s most = .inl (k, q) → ∀ I', rYn I0 I' → rBad k q I' → Q none (zr_S I' J)) (hQ1 : ∀ s', pName T n s most = .inr s' → ∀ I', rYn I0 I' → rTx T n s' I' → I' 0 39 = s.1 → I' 0 40 = rn T n fL s.1 - s.1 → (∀ i : Int, 0 ≤ i → i < rn T n fL s.1 - s.1 → I' 31 i.toNat = T (s.1 + i).toNat - 96) → Q none (zr_S I' J)) : ∀ (m : Nat) (c : Int) (I : zF), rYn I0 I → I 0 2 = s.1 + c → I 0 40 = c → I 0 39 = s.1 → (I 0 5 = 0 ∧ I 0 6 = -1) → (∀ i : Int, 0 ≤ i → i < c → I 31 i.toNat = T (s.1 + i).toNat - 96) → c + m = most → 0 ≤ c → rn T n fL (s.1 + c) = rn T n fL s.1 → zb_W (d + 1) ax_m190 (59, [some (.inr (.inr (some 0))), some (.inl most)], [], zr_S I J) Q := by
  have hn := h0.ok.n
  have hsp := h0.ok.1
  have hs2 := h0.ok.2.1
  have hre := rn_n (T := T) (f := fL) hsp.2
  have stop : ∀ (c : Int) (I : zF), rYn I0 I → I 0 2 = s.1 + c → I 0 40 = c → I 0 39 = s.1 → (I 0 5 = 0 ∧ I 0 6 = -1) → (∀ i : Int, 0 ≤ i → i < c → I 31 i.toNat = T (s.1 + i).toNat - 96) → 0 ≤ c → c ≤ most → rn T n fL (s.1 + c) = rn T n fL s.1 → ¬ (s.1 + c < n ∧ fL (T (s.1 + c).toNat) = true) → Q none (zr_S (ax_u I 0 4 (I 0 2)) J) := by
    intro c I hY h2 h40 h39 h5 hl h0c hcm he hc
    have eq : rn T n fL (s.1 + c) = s.1 + c := rn_out hc
    have hp : pName T n s most = .inr (aWd T n s) := by
      unfold pName
      rw [if_pos hd, if_neg (by omega)]
    have hY2 : rYn I0 (ax_u I 0 4 (I 0 2)) := hY.trans (fun i j a b => zu_ne (by omega))
    refine hQ1 _ hp _ hY2 (h0.ton hY2 (aWd_ok h0.ok) ?_ ?_ ?_ ?_) ?_ ?_ (fun i a b => ?_)
    · rw [zu_ne (by omega), h2]
      refine ⟨by omega, ?_, ?_⟩
      · show s.1 + c ≤ rn T n fB (rn T n fL s.1)
        have := rn_le T n fB (rn T n fL s.1)
        omega
      · show rn T n fB (s.1 + c) = rn T n fB (rn T n fL s.1)
        rw [← he, eq]
    · rw [zu_eq, h2]
      show s.1 + c = rn T n fL s.1
      omega
    · rw [zu_ne (by omega)]; exact h5.1
    · rw [zu_ne (by omega)]; exact h5.2
    · rw [zu_ne (by omega)]; exact h39
    · rw [zu_ne (by omega), h40]; omega
    · rw [zu_ne (by omega)]; exact hl i a (by omega)
  intro m
  induction m with
  | zero =>
    intro c I hY h2 h40 h39 h5 hl hcm h0c he
    have hnI : I 0 3 = n := by rw [hY 0 3 (by omega) (by omega)]; exact h0.n
    refine zq_name_59 I J most ?_
    rw [hnI, h2, zb_w (x := s.1 + c) (by omega) (by omega), zb_w (x := n) (by omega) (by omega)]
    refine ⟨fun lt => ⟨by omega, ?_⟩, fun lt => by have := stop c I hY h2 h40 h39 h5 hl h0c (by omega) he (fun r => lt r.1); rwa [h2] at this⟩
    have hb := h0.ok.b (q := s.1 + c) (by omega) lt
    rw [show I 1 (s.1 + c).toNat = T (s.1 + c).toNat by rw [hY 1 _ (by omega) (by omega)]; exact h0.t (by omega) lt]
    refine sr_isLetter ⟨by omega, by omega⟩ (bc (fun c2 => ?_) (fun c2 => stop c I hY h2 h40 h39 h5 hl h0c (by omega) he (fun r => c2 r.2)))
    have hp : pName T n s most = .inl (1, s.1 + most) := by
      unfold pName
      have := rn_in lt c2
      have := rn_le T n fL (s.1 + c + 1)
      rw [if_pos hd, if_pos (by omega)]
    rw [h40, h2, zb_w (x := c) (by omega) (by omega), zb_w (x := most) (by omega) (by omega)]
    refine ⟨fun _ => ?_, fun c3 => absurd (show c = most by omega) c3⟩
    rw [show s.1 + c = s.1 + most by omega]
    exact sr_fail h5.1 (by decide) (fun I2 hY2 _ hb => hQ0 _ _ hp I2 (hY.trans hY2.n) hb)
  | succ m ih =>
    intro c I hY h2 h40 h39 h5 hl hcm h0c he
    have hnI : I 0 3 = n := by rw [hY 0 3 (by omega) (by omega)]; exact h0.n
    refine zq_name_59 I J most ?_
    rw [hnI, h2, zb_w (x := s.1 + c) (by omega) (by omega), zb_w (x := n) (by omega) (by omega)]
    refine ⟨fun lt => ⟨by omega, ?_⟩, fun lt => by have := stop c I hY h2 h40 h39 h5 hl h0c (by omega) he (fun r => lt r.1); rwa [h2] at this⟩
    have hb := h0.ok.b (q := s.1 + c) (by omega) lt
    have ht : I 1 (s.1 + c).toNat = T (s.1 + c).toNat := by rw [hY 1 _ (by omega) (by omega)]; exact h0.t (by omega) lt
    rw [ht]
    refine sr_isLetter ⟨by omega, by omega⟩ (bc (fun c2 => ?_) (fun c2 => stop c I hY h2 h40 h39 h5 hl h0c (by omega) he (fun r => c2 r.2)))
    have e1 := rn_in lt c2
    rw [h40, h2, zb_w (x := c) (by omega) (by omega), zb_w (x := most) (by omega) (by omega), zb_w (x := s.1 + c) (by omega) (by omega), ht]
    have e40 : ∀ v, (ax_u I 31 c.toNat v) 0 40 = c := fun v => by rw [zu_ne (by omega)]; exact h40
    have e2 : ∀ v w, (ax_u (ax_u I 31 c.toNat v) 0 40 w) 0 2 = s.1 + c := fun v w => by rw [zu_ne (by omega), zu_ne (by omega)]; exact h2
    rw [e40, e2]
    refine ⟨fun c3 => absurd (show c = most from c3) (by omega), fun _ => ⟨by omega, by omega, ih (c + 1) _ (hY.trans (fun i j a b => ?_)) ?_ ?_ ?_ ?_ (fun i a b => ?_) (by omega) (by omega) ?_⟩⟩
    · rw [zu_ne (by omega), zu_ne (by omega), zu_ne (by omega)]
    · rw [zu_eq]; omega
    · rw [zu_ne (by omega), zu_eq]
    · rw [zu_ne (by omega), zu_ne (by omega), zu_ne (by omega)]; exact h39
    · exact ⟨by rw [zu_ne (by omega), zu_ne (by omega), zu_ne (by omega)]; exact h5.1, by rw [zu_ne (by omega), zu_ne (by omega), zu_ne (by omega)]; exact h5.2⟩
    · rw [zu_ne (by omega), zu_ne (by omega)]
      by_cases e : i = c
      · rw [e, zu_eq]; omega
      · rw [zu_ne (by omega)]; exact hl i a (by omega)
    · rw [show s.1 + (c + 1) = s.1 + c + 1 by omega, ← e1]; exact he
theorem sr_name {most : Int} (hL : rTx T n s I) (hm : 1 ≤ most ∧ most ≤ 6) (hP0 : ∀ k q, pName T n s most = .inl (k, q) → ∀ I', rYn I I' → rBad k q I' → P0 I' J) (hP1 : ∀ s', pName T n s most = .inr s' → ∀ I', rYn I I' → rTx T n s' I' → I' 0 39 = s.1 → I' 0 40 = rn T n fL s.1 - s.1 → (∀ i : Int, 0 ≤ i → i < rn T n fL s.1 - s.1 → I' 31 i.toNat = T (s.1 + i).toNat - 96) → P0 I' J) : zr_v (d + 4) 190 [.inr (.inr (some 0)), .inl most] I J P0 := by
  have hn := hL.ok.n
  have hsp := hL.ok.1
  have hs2 := hL.ok.2.1
  have hc := lc_in hL.ok hsp.1
  have y0 : rYn I (ax_u I 0 40 0) := fun i j a b => zu_ne (by omega)
  have hLa : rTx T n s (ax_u I 0 40 0) := hL.ton y0 hL.ok (by rw [zu_ne (by omega)]; exact hL.p) (by rw [zu_ne (by omega)]; exact hL.g) (by rw [zu_ne (by omega)]; exact hL.e) (by rw [zu_ne (by omega)]; exact hL.e6)
  have fl : ∀ I1, rYn I I1 → rTx T n s I1 → I1 0 2 = s.1 → pName T n s most = .inl (1, s.1) → zr_v (d + 3) 179 [.inr (.inr (some 0)), .inl 1, .inl (I1 0 2)] I1 J (fun I11 J12 => zr_Qv P0 none (zr_S I11 J12)) := by
    intro I1 y h e hp
    rw [e]
    exact sr_fail h.e (by decide) (fun I2 hY2 _ hb => zr_Qv.of (hP0 _ _ hp I2 (y.trans hY2.n) hb))
  refine zr_inv (M := ax_m190) rfl (Nat.le_of_ble_eq_true rfl) (zq_name_0 I J most ⟨fun _ => sr_look hLa (fun I1 hY1 hL1 e1 => sr_isLetter ⟨by omega, by omega⟩ (bc (fun c => ?_) (fun c => fl I1 (y0.trans hY1.n) hL1 e1 ?_))), fun q => absurd (by rw [hLa.e]) q⟩)
  · have lt : s.1 < n ∧ fL (T s.1.toNat) = true := by
      by_cases q : s.1 < n
      · refine ⟨q, ?_⟩
        unfold lc at c
        rwa [if_pos q] at c
      · unfold lc at c
        rw [if_neg q] at c
        exact absurd c (by decide)
    refine ⟨fun q => fl I1 (y0.trans hY1.n) hL1 e1 ?_, fun q => sr_isOwnHere hL1 (fun I2 hY2 hL2 e2 => bc (fun o => fl I2 (y0.trans (hY1.n.trans hY2.n)) hL2 e2 ?_) (fun o => ?_))⟩
    · rw [e1, hL1.g, zb_w (x := s.1) (by omega) (by omega), zb_w (x := s.2) (by omega) (by omega)] at q
      unfold pName
      rw [if_neg (fun r => r.2.1 q)]
    · unfold pName
      rw [if_neg (fun r => r.2.2 o)]
    · rw [e1, hL1.g, zb_w (x := s.1) (by omega) (by omega), zb_w (x := s.2) (by omega) (by omega)] at q
      have y3 : rYn I2 (ax_u I2 0 39 (I2 0 2)) := fun i j a b => zu_ne (by omega)
      have y4 := y0.trans (hY1.n.trans (hY2.n.trans y3))
      have hL3 : rTx T n s (ax_u I2 0 39 (I2 0 2)) := hL2.ton y3 hL.ok (by rw [zu_ne (by omega)]; exact hL2.p) (by rw [zu_ne (by omega)]; exact hL2.g) (by rw [zu_ne (by omega)]; exact hL2.e) (by rw [zu_ne (by omega)]; exact hL2.e6)
      refine sr_name_59 hL3 hm ⟨lt, q, o⟩ (fun k q e I' a b => zr_Qv.of (hP0 k q e I' (y4.trans a) b)) (fun s' e I' a b c f g => zr_Qv.of (hP1 s' e I' (y4.trans a) b c f g)) most.toNat 0 _ (fun _ _ _ _ => rfl) ?_ ?_ ?_ ⟨hL3.e, hL3.e6⟩ (fun i a b => by omega) (by omega) (by decide) (by rw [Int.add_zero])
      · rw [zu_ne (by omega), Int.add_zero]; exact e2
      · rw [zu_ne (by omega), hY2 0 40 (by omega), hY1 0 40 (by omega), zu_eq]
      · rw [zu_eq]; exact e2
  · unfold pName
    rw [if_neg (fun r => c ?_)]
    unfold lc
    rw [if_pos r.1.1]
    exact r.1.2
theorem sr_name_b {most k q : Int} (hB : rBad k q I) (hP : P0 (ax_u I 0 40 0) J) : zr_v (d + 1) 190 [.inr (.inr (some 0)), .inl most] I J P0 := zr_inv (M := ax_m190) rfl (Nat.le_of_ble_eq_true rfl) (zq_name_0 I J most ⟨fun e => absurd (by rw [← e, zu_ne (by omega)]) hB.ne1, fun _ => zr_Qv.of hP⟩)
end ZRB
