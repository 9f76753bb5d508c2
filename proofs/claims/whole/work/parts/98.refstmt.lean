/-! THE REFERENCE: texts and statements of a shop -/
def dP (I : zF) (w : Nat) (t : Int) (cs : List Int) : Prop := (t = 0 ∧ I 37 w = -1) ∨ (t = 1 ∧ 0 ≤ I 37 w ∧ I 38 w = I 37 w + cs.length ∧ I 38 w ≤ I 0 54 ∧ ∀ j : Nat, j < cs.length → I 39 ((I 37 w).toNat + j) = cs.getD j 0)
def xR (X : zX) (I : zF) : Prop := dR X.1 I ∧ 0 ≤ I 0 54 ∧ dP I 0 X.2.2.1 (X.2.1 0) ∧ dP I 1 X.2.2.2 (X.2.1 1)
theorem dP.cong {I I' : zF} {w : Nat} {t : Int} {cs : List Int} (h : dP I w t cs) (h37 : I' 37 w = I 37 w) (h38 : I' 38 w = I 38 w) (h54 : I 0 54 ≤ I' 0 54) (h39 : ∀ j : Nat, (j : Int) < I 0 54 → I' 39 j = I 39 j) : dP I' w t cs := by
  rcases h with ⟨a, b⟩ | ⟨a, b, c, e, f⟩
  · exact Or.inl ⟨a, by rw [h37]; exact b⟩
  · refine Or.inr ⟨a, by rw [h37]; exact b, by rw [h37, h38]; exact c, by rw [h38]; omega, fun j j1 => ?_⟩
    rw [h37, h39 _ (by omega)]
    exact f j j1
theorem xR.cong {X : zX} {I I' : zF} (h : xR X I) (g : ∀ i j, (32 ≤ i ∧ i ≤ 39) ∨ (i = 0 ∧ (j = 44 ∨ j = 47 ∨ j = 54)) → I' i j = I i j) : xR X I' := ⟨h.1.cong (fun i j q => g i j (by omega)), by rw [g 0 54 (by omega)]; exact h.2.1, h.2.2.1.cong (g _ _ (by omega)) (g _ _ (by omega)) (by rw [g 0 54 (by omega)]; omega) (fun j _ => g _ _ (by omega)), h.2.2.2.cong (g _ _ (by omega)) (g _ _ (by omega)) (by rw [g 0 54 (by omega)]; omega) (fun j _ => g _ _ (by omega))⟩
theorem rY.x {X : zX} {I I' : zF} (h : rY I I') (hR : xR X I) : xR X I' := hR.cong (fun i j q => h i j (by omega))
/-- a statement has changed the letters, words, boards, rules alone -/
theorem xR.L {X : zX} {D' : zD} {I I' : zF} (h : xR X I) (hF : rLf I I') (hR : dR D' I') : xR (D', X.2) I' := ⟨hR, by rw [hF 0 54 (by omega) (by omega)]; exact h.2.1, h.2.2.1.cong (hF _ _ (by omega) (by omega)) (hF _ _ (by omega) (by omega)) (by rw [hF 0 54 (by omega) (by omega)]; omega) (fun j _ => hF _ _ (by omega) (by omega)), h.2.2.2.cong (hF _ _ (by omega) (by omega)) (hF _ _ (by omega) (by omega)) (by rw [hF 0 54 (by omega) (by omega)]; omega) (fun j _ => hF _ _ (by omega) (by omega))⟩
def rDf (I I' : zF) : Prop := ∀ i j, ¬ (i = 31 ∨ (i = 32 ∧ j < 2) ∨ (i = 33 ∧ j < 48) ∨ (i = 34 ∧ j < 56) ∨ i = 35 ∨ (i = 36 ∧ j < 3) ∨ (i = 37 ∧ j < 2) ∨ (i = 38 ∧ j < 2) ∨ (i = 39 ∧ j < 1600) ∨ i = 75 ∨ i = 76) → ¬ (i = 0 ∧ (j = 2 ∨ j = 4 ∨ j = 5 ∨ j = 6 ∨ j = 10 ∨ j = 39 ∨ j = 40 ∨ j = 44 ∨ j = 47 ∨ j = 54 ∨ j = 55 ∨ j = 56 ∨ j = 106 ∨ j = 108 ∨ j = 109 ∨ j = 110)) → I' i j = I i j
theorem rDf.refl (I : zF) : rDf I I := fun _ _ _ _ => rfl
theorem rDf.trans {I I' I2 : zF} (h : rDf I I') (h2 : rDf I' I2) : rDf I I2 := fun i j a b => (h2 i j a b).trans (h i j a b)
theorem rLf.D {I I' : zF} (h : rLf I I') : rDf I I' := fun i j a b => h i j (by omega) (by omega)
theorem rY.D {I I' : zF} (h : rY I I') : rDf I I' := h.L.D
theorem rCf.D {I I' : zF} (h : rCf I I') : rDf I I' := fun i j a b => h i j (by omega) (by omega) (by omega) (by omega) (by omega) (by omega)
section ZRS1
variable {d : Nat} {I J : zF} {T : Nat → Int} {n : Int} {s : zs} {X : zX} {P0 : zF → zF → Prop} {Q : Option ax_v → ax_S → Prop}
theorem ct_23b {k q a1 : Int} (hB : rBad k q I) (hP : Q none (zr_S I J)) : zb_W d ax_m198 (23, [some (.inr (.inr (some 0))), some (.inl a1), none, none], [], zr_S I J) Q := zq_codesTold_23 I J a1 (e_no hB hP)
theorem ct_72b {k q a1 : Int} (hB : rBad k q I) (hP : Q none (zr_S I J)) : zb_W d ax_m198 (72, [some (.inr (.inr (some 0))), some (.inl a1), none, none], [], zr_S I J) Q := zq_codesTold_72 I J a1 (e_no hB hP)
theorem rCf.z {w : Int} (I : zF) : rCf I (ax_u (ax_u (ax_u (ax_u (ax_u I 0 56 w) 0 106 0) 0 108 0) 0 109 0) 0 110 0) := fun i j a b c e f g => by rw [zu_ne (by omega), zu_ne (by omega), zu_ne (by omega), zu_ne (by omega), zu_ne (by omega)]
theorem rQ_0 {w : Int} (I : zF) : rQ [] [] 0 0 w (ax_u (ax_u (ax_u (ax_u (ax_u I 0 56 w) 0 106 0) 0 108 0) 0 109 0) 0 110 0) := by
  refine ⟨?_, fun i hi => absurd hi (by simp), ?_, trivial, ?_, ?_, ?_, fun x hx => absurd hx (by simp)⟩
  · rw [zu_ne (by omega), zu_ne (by omega), zu_ne (by omega), zu_eq]; rfl
  · rw [zu_ne (by omega), zu_ne (by omega), zu_eq]; rfl
  · rw [zu_ne (by omega), zu_eq]
  · rw [zu_eq]
  · rw [zu_ne (by omega), zu_ne (by omega), zu_ne (by omega), zu_ne (by omega), zu_eq]
theorem rTx.z {w : Int} (h : rTx T n s I) : rTx T n s (ax_u (ax_u (ax_u (ax_u (ax_u I 0 56 w) 0 106 0) 0 108 0) 0 109 0) 0 110 0) := by
  have h1 : rTx T n s (ax_u I 0 56 w) := h.dr (fun i j a b => zu_ne (by omega))
  exact h1.fr (fun i j a b c => by rw [zu_ne (by omega), zu_ne (by omega), zu_ne (by omega), zu_ne (by omega)])
/-- behind the formula of text w -/
theorem sr_codesTold {w : Nat} (hw : w < 2) {b t : Int} {cs0 : List Int} (ht : t = 0 ∨ t = 1) (hp : dP I w t cs0) (hL : rTx T n s I) (h54 : 0 ≤ I 0 54 ∧ I 0 54 ≤ s.1) (hPt : t ≠ 0 → ∀ I', rY I I' → rBad 5 b I' → P0 I' J) (hP0 : t = 0 → ∀ k q, (if w = 1 then pTst T n (pFact T n 1 6) s else pSum T n (pPart T n 0 6) s) = .inl (k, q) → ∀ I', rCf I I' → rBad k q I' → P0 I' J) (hP1 : t = 0 → ∀ s' out, (if w = 1 then pTst T n (pFact T n 1 6) s else pSum T n (pPart T n 0 6) s) = .inr (s', out) → ∀ I', rCf I I' → rTx T n s' I' → (∀ v, v ≠ w → I' 37 v = I 37 v ∧ I' 38 v = I 38 v) → dP I' w 1 out → (I 0 54 ≤ I' 0 54 ∧ I' 0 54 ≤ s'.1) → (∀ j : Nat, (j : Int) < I 0 54 → I' 39 j = I 39 j) → P0 I' J) : zr_v (d + 10) 198 [.inr (.inr (some 0)), .inl ((w : Int)), .inl b] I J P0 := by
  have hn := hL.ok.n
  have h1 := hL.ok.1
  refine zr_inv (M := ax_m198) rfl (Nat.le_of_ble_eq_true rfl) (zq_codesTold_0 I J (w : Int) b (e_ok hL.e ?_))
  rw [zb_w (x := (w : Int)) (by omega) (by omega), show ((w : Int)).toNat = w by omega]
  have fin : ∀ s' out I1, (out.length : Int) ≤ s'.1 - s.1 → (if w = 1 then pTst T n (pFact T n 1 6) s else pSum T n (pPart T n 0 6) s) = .inr (s', out) → t = 0 → ∀ dep, rCf I I1 → (∀ i j, 37 ≤ i ∧ i ≤ 39 → I1 i j = I i j) → I1 0 54 = I 0 54 → rTx T n s' I1 → rQ out [] dep 0 (w : Int) I1 → zb_W (d + 9) ax_m198 (72, [some (.inr (.inr (some 0))), some (.inl ((w : Int))), none, none], [], zr_S I1 J) (zr_Qv P0) := by
    intro s' out I1 hl e t0 dep f1 g1 g2 t1 q1
    have h2 := t1.ok.1
    refine ct_72 hw (c0 := I 0 54) (by omega) t1.e g2 q1 (fun I2 f2 e37 e38 e54 e39 => zr_Qv.of (hP1 t0 s' out e I2 (f1.trans (fun i j a b c e f g => f2 i j (by omega) (by omega) (by omega) (by omega))) (t1.dr (fun i j a b => f2 i j (by omega) (by omega) (by omega) (by omega))) (fun v hv => ⟨?_, ?_⟩) (Or.inr ⟨rfl, by omega, by omega, by omega, fun j j1 => ?_⟩) (by omega) (fun j j1 => ?_)))
    · rw [f2 37 v (by omega) (by omega) (by omega) (by omega)]; exact g1 37 v (by omega)
    · rw [f2 38 v (by omega) (by omega) (by omega) (by omega)]; exact g1 38 v (by omega)
    · rw [e37]; exact e39 j j1
    · rw [f2 39 j (by omega) (by omega) (by omega) (by omega)]; exact g1 39 j (by omega)
  have go : t = 0 → zb_W (d + 9) ax_m198 (23, [some (.inr (.inr (some 0))), some (.inl ((w : Int))), none, none], [], zr_S I J) (zr_Qv P0) := by
    intro t0
    refine zq_codesTold_23 I J (w : Int) (e_ok hL.e (w_if ⟨by omega, by omega⟩ ⟨by decide, by decide⟩ (fun c => ?_) (fun c => ?_)))
    · have cw : w = 1 := by omega
      have zz := rCf.z (w := (w : Int)) I
      have zk : ∀ i j, 37 ≤ i ∧ i ≤ 39 → (ax_u (ax_u (ax_u (ax_u (ax_u I 0 56 (w : Int)) 0 106 0) 0 108 0) 0 109 0) 0 110 0) i j = I i j := fun i j a => by rw [zu_ne (by omega), zu_ne (by omega), zu_ne (by omega), zu_ne (by omega), zu_ne (by omega)]
      have z54 : (ax_u (ax_u (ax_u (ax_u (ax_u I 0 56 (w : Int)) 0 106 0) 0 108 0) 0 109 0) 0 110 0) 0 54 = I 0 54 := by rw [zu_ne (by omega), zu_ne (by omega), zu_ne (by omega), zu_ne (by omega), zu_ne (by omega)]
      refine sr_qTest (kd := w) (by omega) hL.z (rQ_0 I) (fun k q e I1 z1 b1 => ct_72b b1 (zr_Qv.of (hP0 t0 k q ?_ I1 (zz.trans z1.C) b1))) (fun s' out e I1 dep z1 t1 q1 => ?_)
      · rw [if_pos cw]; rw [cw] at e; exact e
      · rw [cw] at e
        exact fin s' out I1 (tst_ok hL.ok e).2.1 (by rw [if_pos cw]; exact e) t0 dep (zz.trans z1.C) (fun i j a => by rw [z1 i j (by omega) (by omega) (by omega)]; exact zk i j a) (by rw [z1 0 54 (by omega) (by omega) (by omega)]; exact z54) t1 q1
    · have cw : w = 0 := by omega
      have cw1 : ¬ w = 1 := by omega
      have zz := rCf.z (w := (w : Int)) I
      have zk : ∀ i j, 37 ≤ i ∧ i ≤ 39 → (ax_u (ax_u (ax_u (ax_u (ax_u I 0 56 (w : Int)) 0 106 0) 0 108 0) 0 109 0) 0 110 0) i j = I i j := fun i j a => by rw [zu_ne (by omega), zu_ne (by omega), zu_ne (by omega), zu_ne (by omega), zu_ne (by omega)]
      have z54 : (ax_u (ax_u (ax_u (ax_u (ax_u I 0 56 (w : Int)) 0 106 0) 0 108 0) 0 109 0) 0 110 0) 0 54 = I 0 54 := by rw [zu_ne (by omega), zu_ne (by omega), zu_ne (by omega), zu_ne (by omega), zu_ne (by omega)]
      refine sr_qSums (kd := w) (dd := 6) (B := []) (by omega) (fun x hx => absurd hx (by simp)) hL.z (rQ_0 I) (by simp; omega) (by decide) (by decide) (fun k q e I1 z1 b1 => ct_72b b1.1 (zr_Qv.of (hP0 t0 k q ?_ I1 (zz.trans z1.C) b1.1))) (fun s' out e I1 z1 t1 q1 => ?_)
      · rw [if_neg cw1]; rw [cw] at e; exact e
      · rw [cw] at e
        exact fin s' out I1 (sum_ok hL.ok e).2.1 (by rw [if_neg cw1]; exact e) t0 0 (zz.trans z1.C) (fun i j a => by rw [z1 i j (by omega) (by omega) (by omega)]; exact zk i j a) (by rw [z1 0 54 (by omega) (by omega) (by omega)]; exact z54) t1 q1
  rcases hp with ⟨t0, h37⟩ | ⟨t1, h37, _, h38, _⟩
  · rw [h37]
    exact ⟨by omega, fun _ => go t0, fun q => absurd rfl q⟩
  · exact ⟨by omega, w_if ⟨by omega, by omega⟩ ⟨by decide, by decide⟩ (fun c => by omega) (fun c => sr_fail hL.e ⟨by decide, by decide⟩ (fun I1 y1 _ b1 => ct_23b b1 (zr_Qv.of (hPt (by omega) I1 y1 b1))))⟩
end ZRS1
