/-! THE REFERENCE: shop -/
section ZRS4
variable {d : Nat} {I J : zF} {T : Nat → Int} {n : Int} {s : zs} {X : zX} {P : Int → zF → zF → Prop} {P0 : zF → zF → Prop} {Q : Option ax_v → ax_S → Prop}
theorem rowR_0 {f : Nat → Int} (h : ∀ j, j < 154 → f j = 0) : rowR wNew f := ⟨h 0 (by decide), fun b b0 b1 => ⟨h _ (by omega), h _ (by omega)⟩, fun b k b0 b1 k0 k1 => h _ (by omega), h 33 (by decide), fun k c k0 k1 => by
  have k1' : k < (0 : Int) := k1
  omega⟩
theorem rP_of {I I' : zF} {w : Nat} {t : Int} {df cs : List Int} (hp : dP I w t cs) (h54 : I 0 54 ≤ 1600) (h37 : I' 37 (2 + w) = I 37 w) (h38 : I' 38 (2 + w) = I 38 w) (h39 : ∀ j : Nat, (j : Int) < I 0 54 → I' 39 (1600 + j) = I 39 j) (hd : t = 0 → cs = df) (hn : t = 1 → cs ≠ []) : rP I' (w : Int) df cs := by
  unfold rP
  rw [show (2 + (w : Int)).toNat = 2 + w by omega, h37, h38]
  rcases hp with ⟨a, b⟩ | ⟨a, b, c, e, f⟩
  · exact Or.inl ⟨b, hd a⟩
  · refine Or.inr ⟨b, c, by omega, rc_of cs _ b (fun j j1 => ?_), hn a⟩
    rw [show (1600 + I 37 w).toNat + j = 1600 + ((I 37 w).toNat + j) by omega, h39 _ (by omega)]
    exact f j j1
theorem sr_stands (hX : xOk X) (hR : xR X I) (h54 : I 0 54 ≤ 1600) (hP : ∀ I', rB X.1 X.2.1 (wShop X.1) I' → I' 0 78 = 0 → (∀ i j, ¬ (32 ≤ i ∧ i ≤ 40) → ¬ (i = 0 ∧ (j = 45 ∨ j = 48 ∨ j = 78)) → I' i j = I i j) → P0 I' J) : zr_v (d + 4) 201 [.inr (.inr (some 0))] I J P0 := by
  obtain ⟨ok, hb, f1, f2, f3, f4, f5, f6⟩ := id hX
  obtain ⟨⟨r1, r2, r3, r4, r5, r6, r7, r8⟩, c0, p0, p1⟩ := id hR
  have a6 := ok.a6 0 0
  obtain ⟨c, hc⟩ : ∃ c : Nat, I 0 54 = (c : Int) := ⟨(I 0 54).toNat, by omega⟩
  refine zr_inv (M := ax_m201) rfl (Nat.le_of_ble_eq_true rfl) (zq_stands_0 I J (sn_2 (I0 := I) 2 0 I (by decide) ⟨fun _ _ _ _ _ => rfl, fun _ _ => ⟨fun _ _ => rfl, fun j hj => absurd hj (by omega)⟩⟩ (fun I1 h1 => sn_57 (I0 := I1) 48 0 I1 (by decide) ⟨fun _ _ _ => rfl, fun _ _ => rfl, fun j hj => absurd hj (by omega)⟩ (fun I2 h2 => sn_94 (I0 := ax_u I2 0 45 (I2 0 44)) 56 0 _ (by decide) ⟨fun _ _ _ => rfl, fun _ _ => rfl, fun j hj => absurd hj (by omega)⟩ (fun I3 h3 => sn_131 (I0 := ax_u I3 0 48 (I3 0 47)) 3 0 _ (by decide) ⟨fun _ _ _ => rfl, fun _ _ => rfl, fun j hj => absurd hj (by omega)⟩ (fun I4 h4 => ?_))))))
  -- what is where
  have g1 : ∀ i j, i ≠ 32 → i ≠ 37 → i ≠ 38 → I1 i j = I i j := h1.1
  have g2 : ∀ i j, i ≠ 32 → i ≠ 37 → i ≠ 38 → i ≠ 33 → I2 i j = I i j := fun i j a b c e => by rw [h2.1 i j e]; exact g1 i j a b c
  have g3 : ∀ i j, i ≠ 32 → i ≠ 37 → i ≠ 38 → i ≠ 33 → i ≠ 34 → ¬ (i = 0 ∧ j = 45) → I3 i j = I i j := fun i j a b c e f g => by rw [h3.1 i j f, zu_ne (by omega)]; exact g2 i j a b c e
  have g4 : ∀ i j, i ≠ 32 → i ≠ 37 → i ≠ 38 → i ≠ 33 → i ≠ 34 → i ≠ 36 → ¬ (i = 0 ∧ (j = 45 ∨ j = 48)) → I4 i j = I i j := fun i j a b c e f k g => by rw [h4.1 i j k, zu_ne (by omega)]; exact g3 i j a b c e f (by omega)
  have e54 : I4 0 54 = (c : Int) := by rw [g4 0 54 (by decide) (by decide) (by decide) (by decide) (by decide) (by decide) (by omega)]; exact hc
  refine sn_158 (I0 := I4) (c := c) (by omega) e54 c 0 I4 (by omega) ⟨fun _ _ _ => rfl, fun _ _ => rfl, fun j hj => absurd hj (by omega)⟩ (fun I5 h5 => sn_190 (I0 := I5) 154 0 I5 (by decide) (fun _ _ _ => rfl) (fun j hj => absurd hj (by omega)) (fun I6 k6 z6 => ?_))
  have q32 : ∀ cl j, cl = 32 ∨ cl = 37 ∨ cl = 38 → I6 cl j = I1 cl j := fun cl j hcl => by
    rw [k6 cl j (by omega), h5.1 cl j (by omega), h4.1 cl j (by omega), zu_ne (by omega), h3.1 cl j (by omega), zu_ne (by omega), h2.1 cl j (by omega)]
  have q33 : ∀ j, I6 33 j = I2 33 j := fun j => by rw [k6 33 j (by decide), h5.1 33 j (by decide), h4.1 33 j (by decide), zu_ne (by omega), h3.1 33 j (by decide), zu_ne (by omega)]
  have q34 : ∀ j, I6 34 j = I3 34 j := fun j => by rw [k6 34 j (by decide), h5.1 34 j (by decide), h4.1 34 j (by decide), zu_ne (by omega)]
  have q36 : ∀ j, I6 36 j = I4 36 j := fun j => by rw [k6 36 j (by decide), h5.1 36 j (by decide)]
  have q39 : ∀ j, I6 39 j = I5 39 j := fun j => by rw [k6 39 j (by decide)]
  have e45 : I6 0 45 = X.1 3 0 0 := by
    rw [k6 0 45 (by decide), h5.1 0 45 (by decide), h4.1 0 45 (by decide), zu_ne (by omega), h3.1 0 45 (by decide), zu_eq, g2 0 44 (by decide) (by decide) (by decide) (by decide)]; exact r3
  have e48 : I6 0 48 = X.1 6 0 0 := by
    rw [k6 0 48 (by decide), h5.1 0 48 (by decide), h4.1 0 48 (by decide), zu_eq, g3 0 47 (by decide) (by decide) (by decide) (by decide) (by decide) (by omega)]; exact r6
  have s33 : ∀ j, j < 48 → I6 33 (48 + j) = I 33 j := fun j hj => by rw [q33, h2.2.2 j hj, g1 33 j (by decide) (by decide) (by decide)]
  have s34 : ∀ j, j < 56 → I6 34 (56 + j) = I 34 j := fun j hj => by rw [q34, h3.2.2 j hj, zu_ne (by omega), g2 34 j (by decide) (by decide) (by decide) (by decide)]
  have s36 : ∀ j, j < 3 → I6 36 (3 + j) = I 36 j := fun j hj => by rw [q36, h4.2.2 j hj, zu_ne (by omega), g3 36 j (by decide) (by decide) (by decide) (by decide) (by decide) (by omega)]
  have s39 : ∀ j : Nat, (j : Int) < I 0 54 → I6 39 (1600 + j) = I 39 j := fun j hj => by rw [q39, h5.2.2 j (by omega), g4 39 j (by decide) (by decide) (by decide) (by decide) (by decide) (by decide) (by omega)]
  have s32 : ∀ cl j, cl = 32 ∨ cl = 37 ∨ cl = 38 → j < 2 → I6 cl (2 + j) = I cl j := fun cl j hcl hj => by rw [q32 cl _ hcl, (h1.2 cl hcl).2 j hj]
  have S6 : rS X.1 X.2.1 I6 := by
    refine ⟨ok, fun h a b => ?_, fun h k a b c e => ⟨?_, ?_⟩, e45, fun w a b => ?_, fun w k a b c e => ?_, e48, ⟨?_, Or.inr ⟨?_, ?_⟩⟩, ?_, ?_⟩
    · rw [show (2 + h).toNat = 2 + h.toNat by omega, s32 32 _ (by omega) (by omega)]; exact r1 h a b
    · have a0 := ok.a0 h 0
      rw [show (48 + 24 * h + 2 * k).toNat = 48 + (24 * h + 2 * k).toNat by omega, s33 _ (by omega)]; exact (r2 h k a b c e).1
    · have a0 := ok.a0 h 0
      rw [show (49 + 24 * h + 2 * k).toNat = 48 + (24 * h + 2 * k + 1).toNat by omega, s33 _ (by omega)]; exact (r2 h k a b c e).2
    · have a3 := ok.a3 0 0
      rw [show (56 + 7 * w).toNat = 56 + (7 * w).toNat by omega, s34 _ (by omega)]; exact r4 w a b
    · have a3 := ok.a3 0 0
      have a4 := ok.a4 w 0
      rw [show (57 + 7 * w + k).toNat = 56 + (7 * w + 1 + k).toNat by omega, s34 _ (by omega)]; exact r5 w k a b c e
    · have := s36 2 (by decide)
      rw [show I6 36 5 = I 36 2 from this]; exact r8 2 (by decide) (by decide)
    · have := s36 0 (by decide)
      rw [show I6 36 3 = I 36 0 from this]; exact r8 0 (by decide) (by decide)
    · have := s36 1 (by decide)
      rw [show I6 36 4 = I 36 1 from this]; exact r8 1 (by decide) (by decide)
    · exact rP_of (w := 0) p0 h54 (s32 37 0 (by omega) (by decide)) (s32 38 0 (by omega) (by decide)) s39 f3 f5
    · exact rP_of (w := 1) p1 h54 (s32 37 1 (by omega) (by decide)) (s32 38 1 (by omega) (by decide)) s39 f4 f6
  have e35 : ∀ j, I6 35 j = I 35 j := fun j => by rw [k6 35 j (by decide), h5.1 35 j (by decide)]; exact g4 35 j (by decide) (by decide) (by decide) (by decide) (by decide) (by decide) (by omega)
  have wn := wNew_ok ok hb
  refine sn_212 (I0 := I6) hb (fun b b0 b1 => by rw [e35, e35]; exact r7 b b0 b1) S6 (X.1 6 0 0).toNat 0 wNew I6 (by decide) (by omega) (fun _ _ _ => rfl) S6 wn (rowR_0 z6) (fun I7 k7 S7 row7 => zr_Qv.of (hP _ ⟨?_, ?_, ?_⟩ zu_eq (fun i j a b => ?_)))
  · exact rS_cong S7 (fun i j q1 q2 _ => zu_ne (by omega)) (zu_ne (by omega)) (zu_ne (by omega))
  · exact wHang_ok ok hb (X.1 6 0 0).toNat 0 wNew (by decide) (by omega) wn
  · rw [show (ax_u I7 0 78 0) 40 = I7 40 from funext (fun j => zu_ne (by omega))]; exact row7
  · rw [zu_ne (by omega), k7 i j (by omega), k6 i j (by omega), h5.1 i j (by omega)]
    exact g4 i j (by omega) (by omega) (by omega) (by omega) (by omega) (by omega) (by omega)
theorem s0_okR (hT : tR T n I) : sOk T n (s0 T n) := by
  have h1 := rn_le T n fB 0
  have h2 := rn_n (T := T) (f := fB) hT.2.1.1
  exact ⟨⟨h1, h2⟩, ⟨by show (-1 : Int) ≤ -1; decide, by show (-1 : Int) ≤ rn T n fB 0; omega⟩, sk_sk T n 0, hT.2.1, fun j hj => (hT.2.2 j hj).2⟩
theorem lc_end (hs : sOk T n s) : lc T n s.1 = -1 ↔ s.1 = n := by
  have h1 := hs.1
  unfold lc
  constructor
  · intro h
    by_cases c : s.1 < n
    · rw [if_pos c] at h
      have := hs.b h1.1 c
      omega
    · omega
  · intro h; rw [if_neg (by omega)]
theorem sh_125b {k q : Int} (hB : rBad k q I) (hP : P (-1) (ax_u (ax_u (ax_u I 0 7 k) 0 8 q) 2 1 (I 2 1 + 1)) J) : zb_W d ax_m200 (125, [some (.inr (.inr (some 0)))], [], zr_S I J) (zr_Qi P) := by
  have e1 : (ax_u I 0 7 (I 0 5)) 0 6 = q := by rw [zu_ne (by omega)]; exact hB.2.1
  refine zq_shop_125 I J ?_
  rw [e1, hB.1]
  have e2 : (ax_u (ax_u I 0 7 k) 0 8 q) 0 5 = k := by rw [zu_ne (by omega), zu_ne (by omega)]; exact hB.1
  have e3 : (ax_u (ax_u I 0 7 k) 0 8 q) 2 (ax_w 1).toNat = I 2 1 := by rw [zu_ne (by omega), zu_ne (by omega)]; rfl
  rw [e2, e3]
  have hk := hB.2.2
  refine ⟨fun z => ?_, fun _ => zr_Qi.of hP⟩
  rw [zb_w (x := k) (by omega) (by omega)] at z
  have z' : k = 0 := z
  omega
theorem sh_125 (hX : xOk X) (hR : xR X I) (h5 : I 0 5 = 0) (h6 : I 0 6 = -1) (h54 : I 0 54 ≤ 1600) (hP : ∀ I', rB X.1 X.2.1 (wShop X.1) I' → I' 0 78 = 0 → I' 0 7 = 0 → I' 0 8 = -1 → (∀ i j, ¬ (32 ≤ i ∧ i ≤ 40) → ¬ (i = 0 ∧ (j = 7 ∨ j = 8 ∨ j = 45 ∨ j = 48 ∨ j = 78)) → I' i j = I i j) → P (I 0 55) I' J) : zb_W (d + 4) ax_m200 (125, [some (.inr (.inr (some 0)))], [], zr_S I J) (zr_Qi P) := by
  have e1 : (ax_u I 0 7 (I 0 5)) 0 6 = -1 := by rw [zu_ne (by omega)]; exact h6
  refine zq_shop_125 I J ?_
  rw [e1, h5]
  have e2 : (ax_u (ax_u I 0 7 0) 0 8 (-1)) 0 5 = 0 := by rw [zu_ne (by omega), zu_ne (by omega)]; exact h5
  rw [e2]
  refine ⟨fun _ => sr_stands hX (hR.cong (fun i j q => by rw [zu_ne (by omega), zu_ne (by omega)])) (by rw [zu_ne (by omega), zu_ne (by omega)]; exact h54) (fun I' b1 b2 b3 => zr_Qi.of ?_), fun z => absurd rfl z⟩
  have e55 : I' 0 55 = I 0 55 := by rw [b3 0 55 (by omega) (by omega), zu_ne (by omega), zu_ne (by omega)]
  rw [e55]
  refine hP I' b1 b2 ?_ ?_ (fun i j a b => ?_)
  · rw [b3 0 7 (by omega) (by omega), zu_ne (by omega), zu_eq]
  · rw [b3 0 8 (by omega) (by omega), zu_eq]
  · rw [b3 i j a (by omega), zu_ne (by omega), zu_ne (by omega)]
theorem sh_103 {I0 : zF} : ∀ (k : Nat) (c : Int) (X : zX) (s : zs) (I : zF), c + k = 60 → 0 ≤ c → rTx T n s I → xOk X → xR X I → I 0 54 ≤ s.1 → I 0 55 = c → rDf I0 I → (∀ a q, pShp T n k c X s = .inl (a, q) → ∀ I', rDf I0 I' → rBad a q I' → zb_W (d + 11) ax_m200 (125, [some (.inr (.inr (some 0)))], [], zr_S I' J) Q) → (∀ c' X', pShp T n k c X s = .inr (c', X') → ∀ I', rDf I0 I' → xOk X' → xR X' I' → I' 0 5 = 0 → I' 0 6 = -1 → I' 0 54 ≤ 1600 → I' 0 55 = c' → zb_W (d + 11) ax_m200 (125, [some (.inr (.inr (some 0)))], [], zr_S I' J) Q) → zb_W (d + 11) ax_m200 (103, [some (.inr (.inr (some 0)))], [], zr_S I J) Q := by
  intro k
  induction k with
  | zero =>
    intro c X s I hc h0 hL hX hR h54 h55 hF hb hg
    have hn := hL.ok.n
    have h1 := hL.ok.1
    have hlc := lc_in hL.ok h1.1
    refine zq_shop_103 I J (e_ok hL.e (sr_look hL (fun I1 y1 t1 e1 => w_if ⟨by omega, by omega⟩ ⟨by decide, by decide⟩ (fun z => ?_) (fun z => ?_))))
    · have z' := (lc_end hL.ok).mp z
      exact hg c X (if_pos z') I1 (hF.trans y1.D) hX (y1.x hR) t1.e t1.e6 (by rw [y1 0 54 (by omega)]; omega) (by rw [y1 0 55 (by omega)]; exact h55)
    · have z' : ¬ s.1 = n := fun q => z ((lc_end hL.ok).mpr q)
      refine sr_statementTold (m := c) t1 e1 hX (y1.x hR) (by rw [y1 0 54 (by omega)]; exact h54) (by rw [y1 0 55 (by omega)]; exact h55) (by omega) (fun _ I2 f2 b2 => ?_) (fun q => by omega) (fun q => by omega)
      exact zq_shop_103 I2 J (e_no b2 (hb 5 s.1 (if_neg z') I2 (hF.trans (y1.D.trans f2)) b2))
  | succ k ih =>
    intro c X s I hc h0 hL hX hR h54 h55 hF hb hg
    have hn := hL.ok.n
    have h1 := hL.ok.1
    have hlc := lc_in hL.ok h1.1
    refine zq_shop_103 I J (e_ok hL.e (sr_look hL (fun I1 y1 t1 e1 => w_if ⟨by omega, by omega⟩ ⟨by decide, by decide⟩ (fun z => ?_) (fun z => ?_))))
    · have z' := (lc_end hL.ok).mp z
      exact hg c X (if_pos z') I1 (hF.trans y1.D) hX (y1.x hR) t1.e t1.e6 (by rw [y1 0 54 (by omega)]; omega) (by rw [y1 0 55 (by omega)]; exact h55)
    · have z' : ¬ s.1 = n := fun q => z ((lc_end hL.ok).mpr q)
      have eq : pShp T n (k + 1) c X s = (match pStm T n X s with | .inl e => .inl e | .inr (s1, X1) => if lc T n s1.1 = 59 then pShp T n k (c + 1) X1 (aS T n s1) else .inl (1, s1.1)) := if_neg z'
      refine sr_statementTold (m := c) t1 e1 hX (y1.x hR) (by rw [y1 0 54 (by omega)]; exact h54) (by rw [y1 0 55 (by omega)]; exact h55) (by omega) (fun q => by omega) (fun _ a q I2 hE f2 b2 => ?_) (fun _ s1 X1 I2 hs1 h59 f2 t2 R2 X2 w2 c2 => ?_)
      · refine zq_shop_103 I2 J (e_no b2 (hb a q ?_ I2 (hF.trans (y1.D.trans f2)) b2))
        rw [eq]
        rcases hE with e | ⟨s1, X1, e, l, ea, eb⟩
        · rw [e]
        · rw [e, ea, eb]
          exact if_neg l
      · rw [hs1] at eq
        have eq' : pShp T n (k + 1) c X s = pShp T n k (c + 1) X1 (aS T n s1) := by rw [eq]; exact if_pos h59
        rw [eq'] at hb hg
        have := aS_lt T n s1
        exact ih (c + 1) X1 (aS T n s1) I2 (by omega) (by omega) t2 X2 R2 (by omega) c2 (hF.trans (y1.D.trans f2)) hb hg
end ZRS4
