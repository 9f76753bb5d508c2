/-! THE REFERENCE: a line is laid -/
def tAll (D : zD) (pg : zG) (o t h : Int) (I : zF) (i j : Int) : Prop := ∀ a c : Int, 0 ≤ a → a ≤ D 4 o 0 → 0 ≤ c → c ≤ D 4 t 0 → (i < a ∨ (a = i ∧ j < c)) → tOk I (7 * a + c) (pf_L D pg o t h a c)
/-- nothing has changed but the pieces -/
def rV (I I' : zF) : Prop := ∀ i j, i ≠ 48 → i ≠ 49 → ¬ (i = 0 ∧ j = 74) → I' i j = I i j
theorem rV.rX {I I' J : zF} (h : rV I I') : rX I J I' J := ⟨fun i j _ a b => h i j (by omega) (by omega) (by omega), rfl⟩
section ZRC
variable {d : Nat} {I J : zF} {D : zD} {pg : zG} {W : zD} {P : Int → zF → zF → Prop} {P0 : zF → zF → Prop}
theorem sr_linePuts (hS : rS D pg I) {o t h i j : Int} (hh : 0 ≤ h ∧ h < 2) (ho : 0 ≤ o ∧ o < D 3 0 0) (ht : 0 ≤ t ∧ t < D 3 0 0) (co : pf_canPaint D o h = 1) (ct : pf_canPaint D t h = 1) (hi : 0 ≤ i ∧ i ≤ D 4 o 0) (hj : 0 ≤ j ∧ j ≤ D 4 t 0) (hne : i < D 4 o 0 ∨ j < D 4 t 0) (hA : tAll D pg o t h I i j) (hP : ∀ I' J', rT (7 * i + j) I J I' J' → tOk I' (7 * i + j) (pf_L D pg o t h i j) → P0 I' J') : zr_v (d + 7) 254 [.inr (.inr (some 0)), .inl o, .inl t, .inl h, .inl i, .inl j] I J P0 := by
  have m4 := hS.ok.a4 o 0
  have n4 := hS.ok.a4 t 0
  have h0d := hS.ok.a0 h 0
  have hx := lx_in hS.ok o h i
  have hy := ly_in hS.ok t h j
  have hgx := gx_15 hS.ok o h i
  have hgy := gy_15 (D := D) t h j
  have key : zb_W (d + 6) ax_m254 (83, [some (.inr (.inr (some 0))), none, none, some (.inl h), none, none, some (.inl (7 * i + j)), some (.inl (lx D o h i)), some (.inl (ly D t h j)), some (.inl (gx D o h i)), some (.inl (gy D t h j)), some (.inl 0), none, none, none, none, none], [], zr_S (ax_u I 46 (7 * i + j).toNat (-1)) J) (zr_Qv P0) := by
    have e0 : ∀ k2 : Int, k2.toNat ≠ (7 * i + j).toNat → ∀ T, tOk I k2 T → tOk (ax_u I 46 (7 * i + j).toNat (-1)) k2 T := by
      intro k2 q T hT
      unfold tOk at *
      rw [zu_ne (by omega), zu_ne (by omega), zu_ne (by omega)]
      exact hT
    have hX : rX I J (ax_u I 46 (7 * i + j).toNat (-1)) J := ⟨fun a b _ _ _ => zu_ne (by omega), rfl⟩
    refine sr_linePuts_83 (I0 := ax_u I 46 (7 * i + j).toNat (-1)) (J0 := J) (hX.rS hS) (N1 := pf_L D pg o t h (i + 1) (j + 1)) (N2 := pf_L D pg o t h (i + 1) j) (N3 := pf_L D pg o t h i (j + 1)) hh hx hy hgx hgy (by omega) (fun q1 q2 => ?_) (fun q1 => ?_) (fun q2 => ?_) (pf_L_b hS.ok _ _ _ _ _ (by omega) (by omega)) (pf_L_b hS.ok _ _ _ _ _ (by omega) (by omega)) (pf_L_b hS.ok _ _ _ _ _ (by omega) (by omega)) 6 0 z0 _ J (rT.refl _ _ _) ⟨zu_eq, fun q => absurd rfl q⟩ (by decide) (by decide) (z0_b (by decide)) (fun I' J' hT hc => zr_Qv.of (hP I' J' (rT.trans ⟨fun a b _ _ => zu_ne (by omega), rfl⟩ hT) ?_))
    · have l1 : i < D 4 o 0 := by
        by_cases e : i < D 4 o 0
        · exact e
        · exact absurd (lx_m (by omega)) q1
      have l2 : j < D 4 t 0 := by
        by_cases e : j < D 4 t 0
        · exact e
        · exact absurd (ly_m (by omega)) q2
      refine ⟨by omega, ?_⟩
      rw [show 7 * i + j + 8 = 7 * (i + 1) + (j + 1) by omega]
      exact e0 _ (by omega) _ (hA _ _ (by omega) (by omega) (by omega) (by omega) (by omega))
    · have l1 : i < D 4 o 0 := by
        by_cases e : i < D 4 o 0
        · exact e
        · exact absurd (lx_m (by omega)) q1
      refine ⟨by omega, ?_⟩
      rw [show 7 * i + j + 7 = 7 * (i + 1) + j by omega]
      exact e0 _ (by omega) _ (hA _ _ (by omega) (by omega) (by omega) (by omega) (by omega))
    · have l2 : j < D 4 t 0 := by
        by_cases e : j < D 4 t 0
        · exact e
        · exact absurd (ly_m (by omega)) q2
      refine ⟨by omega, ?_⟩
      rw [show 7 * i + j + 1 = 7 * i + (j + 1) by omega]
      exact e0 _ (by omega) _ (hA _ _ (by omega) (by omega) (by omega) (by omega) (by omega))
    · have eL := pf_L_eq (D := D) (pg := pg) (o := o) (t := t) (h := h) hi.2 hj.2 hne
      have hcc := pf_L_c hS.ok co ct hi hj hne
      rw [eL] at hcc ⊢
      unfold pf_ce at hcc ⊢
      obtain ⟨c1, c2⟩ := hc
      obtain ⟨c3, c4⟩ := c2 (by omega)
      exact ⟨c3, c4, c1⟩
  refine zr_inv (M := ax_m254) rfl (Nat.le_of_ble_eq_true rfl) (zq_linePuts_0 I J o t h i j (sr_oneAt hS ho hh (by omega) (sr_otherAt hS ht hh (by omega) ?_)))
  rw [zb_w (x := lx D o h i) (by omega) (by omega), zb_w (x := ly D t h j) (by omega) (by omega), zb_w (x := 7 * i + j) (by omega) (by omega)]
  have ge : ∀ q : lx D o h i = -1, gx D o h i = 0 := fun q => by unfold gx; rw [if_pos q]
  have gn : ∀ q : ¬ lx D o h i = -1, gx D o h i = D 2 h (lx D o h i) := fun q => by unfold gx; rw [if_neg q]
  have he : ∀ q : ly D t h j = -1, gy D t h j = 0 := fun q => by unfold gy; rw [if_pos q]
  have hn : ∀ q : ¬ ly D t h j = -1, gy D t h j = pf_seen (D 2 h (ly D t h j)) 1 := fun q => by unfold gy; rw [if_neg q]
  refine ⟨fun q1 => ⟨fun q2 => ⟨by omega, ?_⟩, fun q2 => sr_glyphOf hS hh (by have : ¬ ly D t h j = -1 := q2; omega) (sr_seenBy (hS.ok.a2 _ _) ⟨by decide, by decide⟩ ⟨by omega, ?_⟩)⟩, fun q1 => sr_glyphOf hS hh (by have : ¬ lx D o h i = -1 := q1; omega) ⟨fun q2 => ⟨by omega, ?_⟩, fun q2 => sr_glyphOf hS hh (by have : ¬ ly D t h j = -1 := q2; omega) (sr_seenBy (hS.ok.a2 _ _) ⟨by decide, by decide⟩ ⟨by omega, ?_⟩)⟩⟩
  · rw [ge q1, he q2] at key; exact key
  · rw [ge q1, hn q2] at key; exact key
  · rw [gn q1, he q2] at key; exact key
  · rw [gn q1, hn q2] at key; exact key
theorem sr_lay_58 {I0 J0 : zF} (hS0 : rS D pg I0) {o t h i : Int} (hh : 0 ≤ h ∧ h < 2) (ho : 0 ≤ o ∧ o < D 3 0 0) (ht : 0 ≤ t ∧ t < D 3 0 0) (co : pf_canPaint D o h = 1) (ct : pf_canPaint D t h = 1) (hi : 0 ≤ i ∧ i ≤ D 4 o 0) {Q : Option ax_v → ax_S → Prop} : ∀ (n : Nat) (j : Int) (I J : zF), rX I0 J0 I J → I 40 = I0 40 → I 0 74 = I0 0 74 → tAll D pg o t h I i j → -1 ≤ j → j + 1 = n → j ≤ D 4 t 0 → (∀ I' J', rX I0 J0 I' J' → I' 40 = I0 40 → I' 0 74 = I0 0 74 → tAll D pg o t h I' (i - 1) (D 4 t 0) → zb_W (d + 7) ax_m255 (49, [some (.inr (.inr (some 0))), some (.inl o), some (.inl t), some (.inl h), some (.inl (D 4 o 0)), some (.inl (D 4 t 0)), some (.inl (i + (-1))), none, none, none, none], [], zr_S I' J') Q) → zb_W (d + 7) ax_m255 (58, [some (.inr (.inr (some 0))), some (.inl o), some (.inl t), some (.inl h), some (.inl (D 4 o 0)), some (.inl (D 4 t 0)), some (.inl i), some (.inl j), none, none, none], [], zr_S I J) Q := by
  have m4 := hS0.ok.a4 o 0
  have n4 := hS0.ok.a4 t 0
  intro n
  induction n with
  | zero =>
    intro j I J hF h40 h74 hA h0 he hj hQ
    refine zq_laysLine_58 I J o t h _ _ i j ?_
    simp (disch := omega) only [zb_w]
    refine ⟨fun _ => hQ I J hF h40 h74 (fun a c q1 q2 q3 q4 q5 => hA a c q1 q2 q3 q4 (by omega)), fun q => by omega⟩
  | succ n ih =>
    intro j I J hF h40 h74 hA h0 he hj hQ
    have hS := hF.rS hS0
    have nxt : ∀ I1 J1, rX I J I1 J1 → I1 40 = I 40 → I1 0 74 = I 0 74 → (∀ k2 : Int, k2.toNat ≠ (7 * i + j).toNat → ∀ T, tOk I k2 T → tOk I1 k2 T) → tOk I1 (7 * i + j) (pf_L D pg o t h i j) → zb_W (d + 7) ax_m255 (133, [some (.inr (.inr (some 0))), some (.inl o), some (.inl t), some (.inl h), some (.inl (D 4 o 0)), some (.inl (D 4 t 0)), some (.inl i), some (.inl j), none, none, none], [], zr_S I1 J1) Q := by
      intro I1 J1 hF1 h401 h741 hk hT
      refine zq_laysLine_133 I1 J1 o t h _ _ i j (ih (j + (-1)) I1 J1 (hF.trans hF1) (h401.trans h40) (h741.trans h74) (fun a c q1 q2 q3 q4 q5 => ?_) (by omega) (by omega) (by omega) hQ)
      by_cases e : a = i ∧ c = j
      · obtain ⟨rfl, rfl⟩ := e
        exact hT
      · exact hk _ (by omega) _ (hA a c q1 q2 q3 q4 (by omega))
    have put : (i < D 4 o 0 ∨ j < D 4 t 0) → zb_W (d + 7) ax_m255 (77, [some (.inr (.inr (some 0))), some (.inl o), some (.inl t), some (.inl h), some (.inl (D 4 o 0)), some (.inl (D 4 t 0)), some (.inl i), some (.inl j), none, none, none], [], zr_S I J) Q := by
      intro hne
      refine zq_laysLine_77 I J o t h _ _ i j (sr_linePuts hS hh ho ht co ct hi ⟨by omega, hj⟩ hne hA (fun I1 J1 hT hk => nxt I1 J1 hT.rX ?_ ?_ (fun k2 q T hk2 => hT.tk q hk2) hk))
      · exact funext (fun a => hT.1 40 a (by omega) (by omega))
      · exact hT.1 0 74 (by omega) (by omega)
    refine zq_laysLine_58 I J o t h _ _ i j ?_
    simp (disch := omega) only [zb_w]
    refine ⟨fun q => by omega, fun _ => ⟨fun q => put (Or.inl q), fun q => ⟨fun q2 => put (Or.inr q2), fun q2 => ⟨by omega, by omega, by omega, nxt _ J ⟨fun a b r1 r2 r3 => ?_, rfl⟩ ?_ ?_ (fun k2 r T hk2 => ?_) ?_⟩⟩⟩⟩
    · rw [zu_ne (by omega), zu_ne (by omega), zu_ne (by omega)]
    · rw [zu_oth (by decide), zu_oth (by decide), zu_oth (by decide)]
    · rw [zu_ne (by omega), zu_ne (by omega), zu_ne (by omega)]
    · unfold tOk at *
      have : (7 * D 4 o 0 + D 4 t 0).toNat = (7 * i + j).toNat := by omega
      rw [zu_ne (by omega), zu_ne (by omega), zu_ne (by omega), zu_ne (by omega), zu_ne (by omega), zu_ne (by omega), zu_ne (by omega), zu_ne (by omega), zu_ne (by omega)]
      exact hk2
    · have e1 : i = D 4 o 0 := by omega
      have e2 : j = D 4 t 0 := by omega
      rw [e1, e2, pf_L_mn]
      refine ⟨?_, ?_, ?_⟩
      · rw [zu_ne (by omega), zu_ne (by omega), zu_eq]; rfl
      · rw [zu_ne (by omega), zu_eq]; rfl
      · rw [zu_eq]; rfl
theorem sr_lay_49 {I0 J0 : zF} (hS0 : rS D pg I0) {o t h : Int} (hh : 0 ≤ h ∧ h < 2) (ho : 0 ≤ o ∧ o < D 3 0 0) (ht : 0 ≤ t ∧ t < D 3 0 0) (co : pf_canPaint D o h = 1) (ct : pf_canPaint D t h = 1) {Q : Option ax_v → ax_S → Prop} : ∀ (n : Nat) (i : Int) (I J : zF), rX I0 J0 I J → I 40 = I0 40 → I 0 74 = I0 0 74 → tAll D pg o t h I i (D 4 t 0) → -1 ≤ i → i + 1 = n → i ≤ D 4 o 0 → (∀ I' J', rX I0 J0 I' J' → I' 40 = I0 40 → I' 0 74 = I0 0 74 → tAll D pg o t h I' (-1) (D 4 t 0) → zb_W (d + 7) ax_m255 (151, [some (.inr (.inr (some 0))), some (.inl o), some (.inl t), some (.inl h), none, none, some (.inl 0), some (.inl 0), none, none, none], [], zr_S I' J') Q) → zb_W (d + 7) ax_m255 (49, [some (.inr (.inr (some 0))), some (.inl o), some (.inl t), some (.inl h), some (.inl (D 4 o 0)), some (.inl (D 4 t 0)), some (.inl i), none, none, none, none], [], zr_S I J) Q := by
  have m4 := hS0.ok.a4 o 0
  have n4 := hS0.ok.a4 t 0
  intro n
  induction n with
  | zero =>
    intro i I J hF h40 h74 hA h0 he hj hQ
    have e : i = -1 := by omega
    subst e
    exact zq_laysLine_49 I J o t h _ _ (-1) ⟨fun _ => hQ I J hF h40 h74 hA, fun q => absurd (by decide) q⟩
  | succ n ih =>
    intro i I J hF h40 h74 hA h0 he hj hQ
    refine zq_laysLine_49 I J o t h _ _ i ?_
    simp (disch := omega) only [zb_w]
    refine ⟨fun q => by omega, fun _ => sr_lay_58 hS0 hh ho ht co ct (by omega) (D 4 t 0 + 1).toNat (D 4 t 0) I J hF h40 h74 hA (by omega) (by omega) (by omega) (fun I' J' a b c e => ih (i + (-1)) I' J' a b c ?_ (by omega) (by omega) (by omega) hQ)⟩
    rw [show i + -1 = i - 1 by omega]
    exact e
theorem sr_lay_151 {I0 : zF} (hS0 : rS D pg I0) {o t h : Int} (hh : 0 ≤ h ∧ h < 2) (ho : 0 ≤ o ∧ o < D 3 0 0) (ht : 0 ≤ t ∧ t < D 3 0 0) (co : pf_canPaint D o h = 1) (ct : pf_canPaint D t h = 1) (hA : tAll D pg o t h I0 (-1) (D 4 t 0)) {Q : Option ax_v → ax_S → Prop} : ∀ (n : Nat) (i j p : Int) (I : zF), rV I0 I → I 0 74 = p → 0 ≤ p → p + n ≤ 12 → 0 ≤ i ∧ i ≤ D 4 o 0 → 0 ≤ j ∧ j ≤ D 4 t 0 → (D 4 o 0 - i) + (D 4 t 0 - j) ≤ n → (∀ I', rV I0 I' → I' 0 74 = p + (pf_pc1 D pg o t h n i j).length → (∀ q : Nat, (q : Int) < p → I' 48 q = I 48 q ∧ I' 49 q = I 49 q) → (∀ q : Nat, q < (pf_pc1 D pg o t h n i j).length → I' 48 (p.toNat + q) = ((pf_pc1 D pg o t h n i j).getD q (0, 0)).1 ∧ I' 49 (p.toNat + q) = ((pf_pc1 D pg o t h n i j).getD q (0, 0)).2) → Q none (zr_S I' J)) → zb_W (d + 7) ax_m255 (151, [some (.inr (.inr (some 0))), some (.inl o), some (.inl t), some (.inl h), none, none, some (.inl i), some (.inl j), none, none, none], [], zr_S I J) Q := by
  have m4 := hS0.ok.a4 o 0
  have n4 := hS0.ok.a4 t 0
  have h0d := hS0.ok.a0 h 0
  intro n
  induction n with
  | zero =>
    intro i j p I hV hp h0 hp12 hi hj hn hQ
    have hT := hA i j hi.1 hi.2 hj.1 hj.2 (by omega)
    have e1 : i = D 4 o 0 := by omega
    have e2 : j = D 4 t 0 := by omega
    have hL : pf_L D pg o t h i j = z0 := by rw [e1, e2]; exact pf_L_mn
    have h46 : I 46 (7 * i + j).toNat = -1 := by rw [hV 46 _ (by omega) (by omega) (by omega), hT.2.2, hL]; rfl
    refine zq_laysLine_151 I J o t h i j ?_
    rw [zb_w (x := 7 * i + j) (by omega) (by omega), h46]
    refine ⟨by omega, fun _ => hQ I hV (by rw [hp]; exact (Int.add_zero p).symm) (fun q _ => ⟨rfl, rfl⟩) (fun q hq => absurd hq (Nat.not_lt_zero _)), fun q => absurd rfl q⟩
  | succ n ih =>
    intro i j p I hV hp h0 hp12 hi hj hn hQ
    have hS := (hV.rX (J := J)).rS hS0
    have hT := hA i j hi.1 hi.2 hj.1 hj.2 (by omega)
    have h46 : I 46 (7 * i + j).toNat = (pf_L D pg o t h i j).2.2.1 := by rw [hV 46 _ (by omega) (by omega) (by omega), hT.2.2]
    by_cases hend : i = D 4 o 0 ∧ j = D 4 t 0
    · have hL : pf_L D pg o t h i j = z0 := by rw [hend.1, hend.2]; exact pf_L_mn
      have hnil : pf_pc1 D pg o t h (n + 1) i j = [] := by unfold pf_pc1; rw [hL]; rfl
      rw [hL] at h46
      rw [hnil] at hQ
      have h46' : I 46 (7 * i + j).toNat = -1 := h46
      refine zq_laysLine_151 I J o t h i j ?_
      rw [zb_w (x := 7 * i + j) (by omega) (by omega), h46']
      exact ⟨by omega, fun _ => hQ I hV (by rw [hp]; exact (Int.add_zero p).symm) (fun q _ => ⟨rfl, rfl⟩) (fun q hq => absurd hq (Nat.not_lt_zero _)), fun q => absurd rfl q⟩
    · have hne : i < D 4 o 0 ∨ j < D 4 t 0 := by omega
      obtain ⟨c1, c2, c3, c4⟩ := pf_L_c hS0.ok co ct hi hj hne
      have hx := lx_in hS0.ok o h i
      have hy := ly_in hS0.ok t h j
      have hxne : (pf_L D pg o t h i j).2.2.1 ≠ 5 → lx D o h i ≠ -1 := fun q => lx_ne hS0.ok co ⟨hi.1, c2 q⟩
      have hyne : (pf_L D pg o t h i j).2.2.1 ≠ 4 → ly D t h j ≠ -1 := fun q => ly_ne hS0.ok ct ⟨hj.1, c3 q⟩
      have hcons : pf_pc1 D pg o t h (n + 1) i j = ((if (pf_L D pg o t h i j).2.2.1 < 4 then 0 else (pf_L D pg o t h i j).2.2.1 - 3, (pf_L D pg o t h i j).2.2.2) :: pf_pc1 D pg o t h n (if (pf_L D pg o t h i j).2.2.1 = 5 then i else i + 1) (if (pf_L D pg o t h i j).2.2.1 = 4 then j else j + 1)) := by
        show (if _ then _ else _) = _
        rw [if_neg (by omega)]
      rw [hcons] at hQ
      clear hcons
      have ge : ∀ q : lx D o h i = -1, gx D o h i = 0 := fun q => by unfold gx; rw [if_pos q]
      have gn : ∀ q : ¬ lx D o h i = -1, gx D o h i = D 2 h (lx D o h i) := fun q => by unfold gx; rw [if_neg q]
      have he : ∀ q : ly D t h j = -1, gy D t h j = 0 := fun q => by unfold gy; rw [if_pos q]
      have hn' : ∀ q : ¬ ly D t h j = -1, gy D t h j = pf_seen (D 2 h (ly D t h j)) 1 := fun q => by unfold gy; rw [if_neg q]
      revert c1 c2 c3 c4 hxne hyne hQ h46
      generalize (pf_L D pg o t h i j).2.2.1 = b
      generalize (pf_L D pg o t h i j).2.2.2 = g
      intro hQ h46 c1 c2 c3 c4 hxne hyne
      have e74 : ∀ v, (ax_u I 48 p.toNat v) 0 74 = p := fun v => by rw [zu_ne (by omega)]; exact hp
      -- behind the piece
      have nxt : ∀ v I1, v = (if b < 4 then (0 : Int) else b - 3) → I1 = ax_u (ax_u (ax_u I 48 p.toNat v) 49 p.toNat g) 0 74 (p + 1) → zb_W (d + 7) ax_m255 (151, [some (.inr (.inr (some 0))), some (.inl o), some (.inl t), some (.inl h), none, none, some (.inl ((if b = 5 then i else i + 1))), some (.inl ((if b = 4 then j else j + 1))), none, none, none], [], zr_S I1 J) Q := by
        intro v I1 hv hI1
        subst hI1
        refine ih _ _ (p + 1) _ (fun x y q1 q2 q3 => ?_) zu_eq (by omega) (by omega) (by split <;> omega) (by split <;> omega) (by split <;> split <;> omega) (fun I' k1 k2 k3 k4 => hQ I' k1 ?_ (fun q hq => ?_) (fun q hq => ?_))
        · rw [zu_ne (by omega), zu_ne (by omega), zu_ne (by omega)]; exact hV x y q1 q2 q3
        · rw [k2, List.length_cons]; omega
        · obtain ⟨r1, r2⟩ := k3 q (by omega)
          rw [r1, r2, zu_ne (by omega), zu_ne (by omega), zu_ne (by omega), zu_ne (by omega), zu_ne (by omega), zu_ne (by omega)]
          exact ⟨rfl, rfl⟩
        · cases q with
          | zero =>
            obtain ⟨r1, r2⟩ := k3 p.toNat (by omega)
            rw [Nat.add_zero, r1, r2, zu_ne (by omega), zu_ne (by omega), zu_eq, zu_ne (by omega), zu_eq, hv]
            exact ⟨rfl, rfl⟩
          | succ q =>
            rw [List.length_cons] at hq
            have := k4 q (by omega)
            rw [show (p + 1).toNat + q = p.toNat + (q + 1) by omega] at this
            exact this
      have tail : ∀ v a u : Int, v = (if b < 4 then (0 : Int) else b - 3) → g = pf_gby b a u → zr_i (d + 7) 250 [.inl b, .inl a, .inl u] (ax_u I 48 p.toNat v) J (fun r16 I13 J14 => ((0 : Int) ≤ p ∧ p < ((12 : Nat) : Int)) ∧ ((b = 5 → zb_W (d + 7) ax_m255 (297, [some (.inr (.inr (some 0))), some (.inl o), some (.inl t), some (.inl h), none, none, some (.inl i), some (.inl j), some (.inl b), none, none], [], zr_S (ax_u (ax_u I13 49 p.toNat r16) 0 74 ((ax_u I13 49 p.toNat r16) 0 74 + 1)) J14) Q) ∧ (¬ b = 5 → zb_W (d + 7) ax_m255 (297, [some (.inr (.inr (some 0))), some (.inl o), some (.inl t), some (.inl h), none, none, some (.inl (i + 1)), some (.inl j), some (.inl b), none, none], [], zr_S (ax_u (ax_u I13 49 p.toNat r16) 0 74 ((ax_u I13 49 p.toNat r16) 0 74 + 1)) J14) Q))) := by
        intro v a u hv hg
        refine sr_glyphBy c1 ?_
        rw [← hg]
        have e2 : (ax_u (ax_u I 48 p.toNat v) 49 p.toNat g) 0 74 = p := by rw [zu_ne (by omega)]; exact e74 v
        rw [e2]
        have hn2 := nxt v _ hv rfl
        refine ⟨by omega, fun q => ?_, fun q => ?_⟩
        · refine zq_laysLine_297 _ J o t h i j b ?_
          rw [zb_w (x := b) (by omega) (by omega)]
          rw [if_pos q, if_neg (by omega)] at hn2
          exact ⟨fun q2 => absurd (show b = 4 from q2) (by omega), fun _ => zq_laysLine_306 _ J o t h i (j + 1) hn2⟩
        · refine zq_laysLine_297 _ J o t h (i + 1) j b ?_
          rw [zb_w (x := b) (by omega) (by omega)]
          rw [if_neg q] at hn2
          refine ⟨fun q2 => ?_, fun q2 => ?_⟩
          · rw [if_pos (show b = 4 from q2)] at hn2
            exact zq_laysLine_306 _ J o t h (i + 1) j hn2
          · rw [if_neg (show ¬ b = 4 from q2)] at hn2
            exact zq_laysLine_306 _ J o t h (i + 1) (j + 1) hn2
      have rs : ∀ v, rS D pg (ax_u I 48 p.toNat v) := fun v => rS_cong hS (fun x y q1 q2 _ => zu_ne (by omega)) (zu_ne (by omega)) (zu_ne (by omega))
      refine zq_laysLine_151 I J o t h i j ?_
      rw [zb_w (x := 7 * i + j) (by omega) (by omega), h46]
      refine ⟨by omega, fun q => ?_, fun _ => ⟨by omega, sr_oneAt hS ho hh (by omega) (sr_otherAt hS ht hh (by omega) ?_)⟩⟩
      · rw [zb_w (x := b) (by omega) (by omega)] at q
        exact absurd (show b = -1 from q) (by omega)
      · rw [hp]
        simp (disch := omega) only [zb_w, e74]
        refine ⟨fun q => ⟨by omega, fun q1 => by omega, fun q1 => sr_glyphOf (rs _) hh (by omega) ⟨fun q2 => by omega, fun q2 => sr_glyphOf (rs _) hh (by omega) (sr_seenBy (hS.ok.a2 _ _) ⟨by decide, by decide⟩ (tail 0 _ _ (by rw [if_pos q]) ?_))⟩⟩, fun q => ⟨by omega, fun q1 => ⟨fun q2 => by omega, fun q2 => sr_glyphOf (rs _) hh (by omega) (sr_seenBy (hS.ok.a2 _ _) ⟨by decide, by decide⟩ (tail (b - 3) _ _ (by rw [if_neg q]) ?_))⟩, fun q1 => sr_glyphOf (rs _) hh (by omega) ⟨fun q2 => tail (b - 3) _ _ (by rw [if_neg q]) ?_, fun q2 => sr_glyphOf (rs _) hh (by omega) (sr_seenBy (hS.ok.a2 _ _) ⟨by decide, by decide⟩ (tail (b - 3) _ _ (by rw [if_neg q]) ?_))⟩⟩⟩
        · rw [c4, gn q1, hn' q2]
        · rw [c4, ge q1, hn' q2]
        · rw [c4, gn q1, he q2]
        · rw [c4, gn q1, hn' q2]
/-- the pieces of the least line -/
def pf_ps (D : zD) (pg : zG) (o t h : Int) : List (Int × Int) := pf_pc1 D pg o t h 12 0 0
theorem pf_pc1_len {D : zD} {pg : zG} {o t h : Int} : ∀ (n : Nat) (i j : Int), (pf_pc1 D pg o t h n i j).length ≤ n := by
  intro n
  induction n with
  | zero => intro i j; exact Nat.le_refl 0
  | succ n ih =>
    intro i j
    unfold pf_pc1
    split
    · exact Nat.zero_le _
    · rw [List.length_cons]
      have := ih (if (pf_L D pg o t h i j).2.2.1 = 5 then i else i + 1) (if (pf_L D pg o t h i j).2.2.1 = 4 then j else j + 1)
      omega
/-- what the reference has when a line is laid -/
def lLaid (D : zD) (pg : zG) (o t h : Int) (I : zF) : Prop :=
  (¬ (pf_canPaint D o h = 1 ∧ pf_canPaint D t h = 1) → I 44 0 = -1 ∧ I 0 74 = 0) ∧ ((pf_canPaint D o h = 1 ∧ pf_canPaint D t h = 1) → I 44 0 = (pf_L D pg o t h 0 0).1 ∧ I 45 0 = (pf_L D pg o t h 0 0).2.1 ∧ I 0 74 = (pf_ps D pg o t h).length ∧ ∀ q : Nat, q < (pf_ps D pg o t h).length → I 48 q = ((pf_ps D pg o t h).getD q (0, 0)).1 ∧ I 49 q = ((pf_ps D pg o t h).getD q (0, 0)).2)
theorem sr_laysLine (hB : rB D pg W I) {o t h : Int} (hh : 0 ≤ h ∧ h < 2) (ho : 0 ≤ o ∧ o < D 3 0 0) (ht : 0 ≤ t ∧ t < D 3 0 0) (hP : ∀ I' J', rX I J I' J' → rB D pg W I' → lLaid D pg o t h I' → P0 I' J') : zr_v (d + 8) 255 [.inr (.inr (some 0)), .inl o, .inl t, .inl h] I J P0 := by
  have hS := hB.S
  have m4 := hS.ok.a4 o 0
  have n4 := hS.ok.a4 t 0
  have hX0 : ∀ v, rX I J (ax_u I 0 74 v) J := fun v => ⟨fun i j _ _ _ => zu_ne (by omega), rfl⟩
  have hS1 := (hX0 0).rS hS
  have no : ¬ (pf_canPaint D o h = 1 ∧ pf_canPaint D t h = 1) → zr_Qv P0 none (zr_S (ax_u (ax_u I 0 74 0) 44 (ax_w 0).toNat (-1)) J) := by
    intro q
    have hX : rX I J (ax_u (ax_u I 0 74 0) 44 (ax_w 0).toNat (-1)) J := ⟨fun i j _ _ _ => by rw [zu_ne (by omega), zu_ne (by omega)], rfl⟩
    refine zr_Qv.of (hP _ _ hX ⟨hX.rS hS, hB.W, ?_⟩ ⟨fun _ => ⟨?_, ?_⟩, fun r => absurd r q⟩)
    · rw [zu_oth (by decide), zu_oth (by decide)]; exact hB.2.2
    · exact zu_eq
    · rw [zu_ne (by omega), zu_eq]
  refine zr_inv (M := ax_m255) rfl (Nat.le_of_ble_eq_true rfl) (zq_laysLine_0 I J o t h (sr_longOf hS ho (sr_longOf hS ht (sr_canPaint hS1 ho hh (b01 (pf_can01 D o h _ _) (fun e => sr_canPaint hS1 ht hh (b01 (pf_can01 D t h _ _) (fun e2 => ?_) (fun e2 => no ?_))) (fun e => no ?_))))))
  · have co : pf_canPaint D o h = 1 := e
    have ct : pf_canPaint D t h = 1 := e2
    refine sr_lay_49 hS1 hh ho ht co ct (D 4 o 0 + 1).toNat (D 4 o 0) _ J (rX.refl _ _) rfl rfl (fun a c q1 q2 q3 q4 q5 => by omega) (by omega) (by omega) (by omega) (fun I1 J1 hF1 h40 h74 hA1 => ?_)
    have hS2 := hF1.rS hS1
    have h74' : I1 0 74 = 0 := by rw [h74, zu_eq]
    refine sr_lay_151 hS2 hh ho ht co ct hA1 12 0 0 0 I1 (fun _ _ _ _ _ => rfl) h74' (by decide) (by decide) (by omega) (by omega) (by omega) (fun I' k1 k2 k3 k4 => zr_Qv.of (hP I' J1 (((hX0 0).trans hF1).trans k1.rX) ⟨(k1.rX (J := J1)).rS hS2, hB.W, ?_⟩ ⟨fun q => absurd ⟨co, ct⟩ q, fun _ => ?_⟩))
    · rw [show I' 40 = I1 40 from funext (fun a => k1 40 a (by omega) (by omega) (by omega)), h40, zu_oth (by decide)]; exact hB.2.2
    · obtain ⟨t1, t2, t3⟩ := hA1 0 0 (by omega) (by omega) (by omega) (by omega) (by omega)
      refine ⟨?_, ?_, ?_, fun q hq => ?_⟩
      · rw [k1 44 0 (by omega) (by omega) (by omega)]; exact t1
      · rw [k1 45 0 (by omega) (by omega) (by omega)]; exact t2
      · rw [k2, Int.zero_add]; rfl
      · have := k4 q hq
        rw [show (0 : Int).toNat + q = q by omega] at this
        exact this
  · have e2' : pf_canPaint D t h = 0 := e2
    omega
  · have e' : pf_canPaint D o h = 0 := e
    omega
end ZRC
