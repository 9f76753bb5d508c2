/-! THE CLASS: finding a line -/
/-- nothing has changed but the table and what a reckoning writes -/
def cT (hs : Nat) (I I' : zF) : Prop := ∀ i j, i ≠ 44 + 29 * hs → i ≠ 47 + 29 * hs → i ≠ 60 + 29 * hs → i ≠ 61 + 29 * hs → ¬ (53 + 29 * hs ≤ i ∧ i ≤ 55 + 29 * hs) → I' i j = I i j
theorem cT.refl (hs : Nat) (I : zF) : cT hs I I := fun _ _ _ _ _ _ _ => rfl
theorem cT.trans {hs : Nat} {I I' I2 : zF} (h : cT hs I I') (h2 : cT hs I' I2) : cT hs I I2 := fun i j a b c e f => (h2 i j a b c e f).trans (h i j a b c e f)
theorem cK.T {hs : Nat} {c : Int} {I I' : zF} (h : cK hs c I I') : cT hs I I' := fun i j a b c e f => h i j a b c e (by omega)
theorem cT.F {hs : Nat} {I I' : zF} (h : cT hs I I') : cF hs I I' := fun i j a b c e f => h i j a b c e (by omega)
theorem cE.F {hs : Nat} {I I' : zF} (h : cE hs I I') : cF hs I I' := fun i j a b c e _ => h i j a b c e
theorem cT.w5 {D : zD} {o t h : Int} {hs : Nat} {I I' : zF} (hK : cT hs I I') (hw : kW D o t h hs I) : kW D o t h hs I' := by
  have g : ∀ k q, (48 + 29 * hs ≤ k ∧ k ≤ 52 + 29 * hs) → I' k q = I k q := fun k q r => hK k q (by omega) (by omega) (by omega) (by omega) (by omega)
  unfold kW at *
  rw [g _ _ (by omega)]
  refine ⟨hw.1, fun i a b => ?_, fun j a b => ?_⟩
  · rw [g _ _ (by omega), g _ _ (by omega)]; exact hw.2.1 i a b
  · rw [g _ _ (by omega), g _ _ (by omega)]; exact hw.2.2 j a b
/-- what the class has when a line is found -/
def cFd (D : zD) (pg : zG) (o t h : Int) (hs : Nat) (I : zF) : Prop := I (53 + 29 * hs) 0 = (pf_L D pg o t h 0 0).1 * 256 + (pf_L D pg o t h 0 0).2.1 ∧ I (48 + 29 * hs) 9 = (pf_ps D pg o t h).length ∧ ∀ q : Nat, q < (pf_ps D pg o t h).length → I (56 + 29 * hs) q = ((pf_ps D pg o t h).getD q (0, 0)).1 ∧ I (57 + 29 * hs) q = ((pf_ps D pg o t h).getD q (0, 0)).2
section ZCC
variable {d hf pf hs : Nat} {I J : zF} {D : zD} {pg : zG} {W : zD} {P : Int → zF → zF → Prop} {P0 : zF → zF → Prop}
theorem sc_offerBoth (eh : hs = 0 ∨ hs = 1) (hS : cS D pg hs I) {h i j x y a t : Int} {N1 N2 N3 : zT} (hh : 0 ≤ h ∧ h < 2) (hi : 0 ≤ i ∧ i < 6) (hj : 0 ≤ j ∧ j < 6) (hx : 0 ≤ x ∧ x < D 0 h 0) (hy : 0 ≤ y ∧ y < D 0 h 0) (ha : g15 a) (ht : g15 t) (e12 : I (48 + 29 * hs) 12 = h) (e49 : I (49 + 29 * hs) i.toNat = x) (e50 : I (50 + 29 * hs) j.toNat = y) (e51 : I (51 + 29 * hs) i.toNat = a) (e52 : I (52 + 29 * hs) j.toNat = t) (hN : I (53 + 29 * hs) (i * 7 + j + 7 + 1).toNat = N1.1 * 256 + N1.2.1) (b1' : zTb 12 N1) (b2' : zTb 12 N2) (b3' : zTb 12 N3) (hr : kRel hs I (i * 7 + j) z0) (hP : ∀ I', cK hs (i * 7 + j) I I' → kRel hs I' (i * 7 + j) (pf_cs D pg h x y a t N1 N2 N3 4 0 z0) → P0 I' J) : zc_v (d + 5) 40 [.inr (.inr (some (48 + 29 * hs))), .inr (.inr (some ((40 + 29 * hs)))), .inl i, .inl j] hf pf I J P0 := by
  refine zc_inv (M := ax_m40) rfl (Nat.le_of_ble_eq_true rfl) (zk_LineFinder_offerBoth_0 hf pf I J i j hs ?_)
  rw [zb_w (x := i) (by omega) (by omega), zb_w (x := j) (by omega) (by omega), show ax_w 0 = 0 from rfl, show ax_w 6 = 6 from rfl]
  exact ⟨fun q => by omega, fun _ => ⟨fun _ => ⟨fun q => by omega, fun _ => ⟨fun _ => (sc_offerBoth_32 eh hS hh hi hj hx hy ha ht e12 e49 e50 e51 e52 hN b1' b2' b3' 4 0 z0 I (fun _ _ _ _ _ _ _ => rfl) hr (by decide) (by decide) (z0_b (by decide)) (fun I' k r => zc_Qv.of (hP I' k r))), fun q => by omega⟩⟩, fun q => by omega⟩⟩
theorem sc_find_192 {I0 : zF} (eh : hs = 0 ∨ hs = 1) (hS0 : cS D pg hs I0) {o t h i : Int} (hh : 0 ≤ h ∧ h < 2) (co : pf_canPaint D o h = 1) (ct : pf_canPaint D t h = 1) (hi : 0 ≤ i ∧ i ≤ D 4 o 0) (hw0 : kW D o t h hs I0) {Q : Option ax_v → ax_S → Prop} : ∀ (n : Nat) (j : Int) (I : zF), cT hs I0 I → kAll D pg o t h hs I i j → -1 ≤ j → j + 1 = n → j ≤ D 4 t 0 → (∀ I', cT hs I0 I' → kAll D pg o t h hs I' (i - 1) (D 4 t 0) → zb_W (d + 5) ax_m39 (183, [some (.inr (.inr (some (48 + 29 * hs)))), some (.inr (.inr (some ((39 + 29 * hs))))), none, none, none, some (.inl (D 4 o 0)), some (.inl (D 4 t 0)), some (.inl (i + -1)), none, none], [], zc_S hf pf I' J) Q) → zb_W (d + 5) ax_m39 (192, [some (.inr (.inr (some (48 + 29 * hs)))), some (.inr (.inr (some ((39 + 29 * hs))))), none, none, none, some (.inl (D 4 o 0)), some (.inl (D 4 t 0)), some (.inl i), some (.inl j), none], [], zc_S hf pf I J) Q := by
  have m4 := hS0.ok.a4 o 0
  have n4 := hS0.ok.a4 t 0
  have h0d := hS0.ok.a0 h 0
  intro n
  induction n with
  | zero =>
    intro j I hT hA h0 he hjt hQ
    refine zk_LineFinder_find_192 hf pf I J _ _ i j hs eh ?_
    rw [zb_w (x := j) (by omega) (by omega)]
    refine ⟨fun _ => hQ I hT (fun a c a0 am c0 cn q => hA a c a0 am c0 cn (by omega)), fun q => absurd (show j < 0 by omega) q⟩
  | succ n ih =>
    intro j I hT hA h0 he hjt hQ
    have hj : 0 ≤ j ∧ j ≤ D 4 t 0 := by omega
    have hS := hT.F.S hS0
    have hw := hT.w5 hw0
    have L1 := pf_L_b hS0.ok o t h (i + 1) (j + 1) (by omega) (by omega)
    have L2 := pf_L_b hS0.ok o t h (i + 1) j (by omega) (by omega)
    have L3 := pf_L_b hS0.ok o t h i (j + 1) (by omega) (by omega)
    have hgx := gx_15 hS0.ok o h i
    have hgy := gy_15 (D := D) t h j
    -- behind the cell
    have nxt : ∀ I', cK hs (i * 7 + j) I I' → kOk hs I' (i * 7 + j) (pf_L D pg o t h i j) → zb_W (d + 5) ax_m39 (319, [some (.inr (.inr (some (48 + 29 * hs)))), some (.inr (.inr (some ((39 + 29 * hs))))), none, none, none, some (.inl (D 4 o 0)), some (.inl (D 4 t 0)), some (.inl i), some (.inl j), none], [], zc_S hf pf I' J) Q := by
      intro I' hK hk
      refine zk_LineFinder_find_319 hf pf I' J _ _ i j hs (ih (j + -1) I' (hT.trans hK.T) (fun a c a0 am c0 cn q => ?_) (by omega) (by omega) (by omega) hQ)
      by_cases e : a = i ∧ c = j
      · rw [e.1, e.2]; exact hk
      · exact hK.k (by omega) (hA a c a0 am c0 cn (by omega))
    have fK : ∀ v, cK hs (i * 7 + j) I (ax_u I (53 + 29 * hs) (i * 7 + j).toNat v) := fun v x y q1 q2 q3 q4 q5 => zu_ne (by omega)
    have fR : kRel hs (ax_u I (53 + 29 * hs) (i * 7 + j).toNat 1000000000) (i * 7 + j) z0 := ⟨by rw [zu_eq]; rfl, fun q => absurd rfl q⟩
    have skip : (i < D 4 o 0 ∨ j < D 4 t 0) → ¬ (i < D 4 o 0 ∧ j < D 4 t 0) → zb_W (d + 5) ax_m39 (260, [some (.inr (.inr (some (48 + 29 * hs)))), some (.inr (.inr (some ((39 + 29 * hs))))), none, none, none, some (.inl (D 4 o 0)), some (.inl (D 4 t 0)), some (.inl i), some (.inl j), some (.inl (i * 7 + j))], [], zc_S hf pf (ax_u I (53 + 29 * hs) (i * 7 + j).toNat 1000000000) J) Q := by
      intro hne q
      refine sc_cell (d := d + 1) eh hS hh co ct hi hj hne hw hA (T := z0) (fK _) ?_ (z0_b (by decide)) fR nxt
      refine (pf_cs_skip ?_ 4 0 z0 (by decide)).symm
      by_cases c : i < D 4 o 0
      · exact Or.inr (ly_m (by omega))
      · exact Or.inl (lx_m (by omega))
    have both : i < D 4 o 0 → j < D 4 t 0 → zc_v (d + 5) 40 [.inr (.inr (some (48 + 29 * hs))), .inr (.inr (some ((40 + 29 * hs)))), .inl i, .inl j] hf pf (ax_u I (53 + 29 * hs) (i * 7 + j).toNat 1000000000) J (fun I6 J7 => zb_W (d + 5) ax_m39 (260, [some (.inr (.inr (some (48 + 29 * hs)))), some (.inr (.inr (some ((39 + 29 * hs))))), none, none, none, some (.inl (D 4 o 0)), some (.inl (D 4 t 0)), some (.inl i), some (.inl j), some (.inl (i * 7 + j))], [], zc_S hf pf I6 J7) Q) := by
      intro ci cj
      have hx := lx_in hS0.ok o h i
      have hy := ly_in hS0.ok t h j
      have hxn := lx_ne hS0.ok co ⟨hi.1, ci⟩
      have hyn := ly_ne hS0.ok ct ⟨hj.1, cj⟩
      have hw1 := (fK 1000000000).w5 hw
      have hk : kOk hs I (i * 7 + j + 7 + 1) (pf_L D pg o t h (i + 1) (j + 1)) := by
        rw [show i * 7 + j + 7 + 1 = (i + 1) * 7 + (j + 1) by omega]
        exact hA (i + 1) (j + 1) (by omega) (by omega) (by omega) (by omega) (by omega)
      refine sc_offerBoth eh ((fK 1000000000).F.S hS) hh (by omega) (by omega) (by omega) (by omega) hgx hgy hw1.1 (hw1.2.1 i hi.1 ci).1 (hw1.2.2 j hj.1 cj).1 (hw1.2.1 i hi.1 ci).2 (hw1.2.2 j hj.1 cj).2 ((fK 1000000000).k (by omega) hk).1 L1 L2 L3 fR (fun I' hK hr => ?_)
      exact sc_cell (d := d + 1) eh hS hh co ct hi hj (Or.inl ci) hw hA ((fK 1000000000).trans hK) rfl (pf_cs_b hS0.ok hgx hgy L1 L2 L3 4 0 z0 (by decide) (by decide) (z0_b (by decide))) hr nxt
    refine zk_LineFinder_find_192 hf pf I J _ _ i j hs eh ?_
    rw [zb_w (x := j) (by omega) (by omega), zb_w (x := i) (by omega) (by omega), zb_w (x := D 4 o 0) (by omega) (by omega), zb_w (x := D 4 t 0) (by omega) (by omega), zb_w (x := i * 7 + j) (by omega) (by omega), show ax_w 0 = 0 from rfl]
    refine ⟨fun q => absurd q (by omega), fun _ => ⟨fun ei => ⟨fun ej => ⟨by omega, fun q => by omega, fun q => ?_⟩, fun ej => ⟨by omega, fun q => by omega, fun q => skip (by omega) (by omega)⟩⟩, fun ei => ⟨by omega, fun ci => ⟨fun cj => both ci cj, fun cj => skip (by omega) (by omega)⟩, fun ci => by omega⟩⟩⟩
    have hk0 : kOk hs (ax_u I (53 + 29 * hs) (i * 7 + j).toNat 0) (i * 7 + j) (pf_L D pg o t h i j) := by
      rw [ei, ej, pf_L_mn, ← ei, ← ej]
      exact ⟨by rw [zu_eq]; rfl, fun q => absurd rfl q⟩
    refine zk_LineFinder_find_260 hf pf _ J _ _ i j _ hs eh ?_
    rw [zb_w (x := i) (by omega) (by omega), zb_w (x := D 4 o 0) (by omega) (by omega)]
    refine ⟨fun q' => by omega, fun _ => zk_LineFinder_find_290 hf pf _ J _ _ i j _ hs eh ?_⟩
    rw [zb_w (x := j) (by omega) (by omega), zb_w (x := D 4 t 0) (by omega) (by omega)]
    exact ⟨fun q' => by omega, fun _ => nxt _ (fK 0) hk0⟩
theorem sc_layOut_9 {I0 : zF} (eh : hs = 0 ∨ hs = 1) (ok : zD_ok D pg) {o t h : Int} (co : pf_canPaint D o h = 1) (ct : pf_canPaint D t h = 1) (hA : kAll D pg o t h hs I0 (-1) (D 4 t 0)) {Q : Option ax_v → ax_S → Prop} : ∀ (n : Nat) (i j p : Int) (I : zF), (∀ x y, x ≠ 56 + 29 * hs → x ≠ 57 + 29 * hs → ¬ (x = 48 + 29 * hs ∧ y = 9) → I x y = I0 x y) → I (48 + 29 * hs) 9 = p → 0 ≤ p → p + n ≤ 12 → 0 ≤ i ∧ i ≤ D 4 o 0 → 0 ≤ j ∧ j ≤ D 4 t 0 → (D 4 o 0 - i) + (D 4 t 0 - j) ≤ n → (∀ I', (∀ x y, x ≠ 56 + 29 * hs → x ≠ 57 + 29 * hs → ¬ (x = 48 + 29 * hs ∧ y = 9) → I' x y = I0 x y) → I' (48 + 29 * hs) 9 = p + (pf_pc1 D pg o t h n i j).length → (∀ q : Nat, (q : Int) < p → I' (56 + 29 * hs) q = I (56 + 29 * hs) q ∧ I' (57 + 29 * hs) q = I (57 + 29 * hs) q) → (∀ q : Nat, q < (pf_pc1 D pg o t h n i j).length → I' (56 + 29 * hs) (p.toNat + q) = ((pf_pc1 D pg o t h n i j).getD q (0, 0)).1 ∧ I' (57 + 29 * hs) (p.toNat + q) = ((pf_pc1 D pg o t h n i j).getD q (0, 0)).2) → Q none (zc_S hf pf I' J)) → zb_W d ax_m43 (9, [some (.inr (.inr (some (48 + 29 * hs)))), some (.inl (D 4 o 0 * 7 + D 4 t 0)), some (.inl (i * 7 + j)), some (.inl p), none], [], zc_S hf pf I J) Q := by
  have m4 := ok.a4 o 0
  have n4 := ok.a4 t 0
  have fin : ∀ (n : Nat) (p : Int) (I : zF), 0 ≤ p → p ≤ 12 → Q none (zc_S hf pf I J) → zb_W d ax_m43 (9, [some (.inr (.inr (some (48 + 29 * hs)))), some (.inl (D 4 o 0 * 7 + D 4 t 0)), some (.inl (D 4 o 0 * 7 + D 4 t 0)), some (.inl p), none], [], zc_S hf pf I J) Q := by
    intro n p I h0 h12 hQ
    refine zk_LineFinder_layOut_9 hf pf I J _ _ p hs eh ⟨fun _ => ⟨fun q => absurd q (Int.lt_irrefl _), fun _ => hQ⟩, fun _ => hQ⟩
  intro n
  induction n with
  | zero =>
    intro i j p I hV hp h0 hp12 hi hj hn hQ
    have e1 : i = D 4 o 0 := by omega
    have e2 : j = D 4 t 0 := by omega
    rw [e1, e2]
    exact fin 0 p I h0 (by omega) (hQ I hV (by rw [hp]; exact (Int.add_zero p).symm) (fun q _ => ⟨rfl, rfl⟩) (fun q hq => absurd hq (Nat.not_lt_zero _)))
  | succ n ih =>
    intro i j p I hV hp h0 hp12 hi hj hn hQ
    by_cases hend : i = D 4 o 0 ∧ j = D 4 t 0
    · have hL : pf_L D pg o t h i j = z0 := by rw [hend.1, hend.2]; exact pf_L_mn
      have hnil : pf_pc1 D pg o t h (n + 1) i j = [] := by unfold pf_pc1; rw [hL]; rfl
      rw [hnil] at hQ
      rw [hend.1, hend.2]
      exact fin 0 p I h0 (by omega) (hQ I hV (by rw [hp]; exact (Int.add_zero p).symm) (fun q _ => ⟨rfl, rfl⟩) (fun q hq => absurd hq (Nat.not_lt_zero _)))
    · have hne : i < D 4 o 0 ∨ j < D 4 t 0 := by omega
      have hT := hA i j hi.1 hi.2 hj.1 hj.2 (by omega)
      obtain ⟨c1, c2, c3, _⟩ := pf_L_c ok co ct hi hj hne
      have hcons : pf_pc1 D pg o t h (n + 1) i j = ((if (pf_L D pg o t h i j).2.2.1 < 4 then 0 else (pf_L D pg o t h i j).2.2.1 - 3, (pf_L D pg o t h i j).2.2.2) :: pf_pc1 D pg o t h n (if (pf_L D pg o t h i j).2.2.1 = 5 then i else i + 1) (if (pf_L D pg o t h i j).2.2.1 = 4 then j else j + 1)) := by
        show (if _ then _ else _) = _
        rw [if_neg (by omega)]
      rw [hcons] at hQ
      clear hcons
      obtain ⟨h54', h55'⟩ := hT.2 (by omega)
      have h54 : I (54 + 29 * hs) (i * 7 + j).toNat = (pf_L D pg o t h i j).2.2.1 := by rw [hV _ _ (by omega) (by omega) (by omega)]; exact h54'
      have h55 : I (55 + 29 * hs) (i * 7 + j).toNat = (pf_L D pg o t h i j).2.2.2 := by rw [hV _ _ (by omega) (by omega) (by omega)]; exact h55'
      clear hT h54' h55'
      revert c1 c2 c3 hQ h54 h55
      generalize (pf_L D pg o t h i j).2.2.1 = b
      generalize (pf_L D pg o t h i j).2.2.2 = g
      intro hQ c1 c2 c3 h54 h55
      have nxt : ∀ v I1, v = (if b < 4 then (0 : Int) else b - 3) → I1 = ax_u (ax_u (ax_u I (56 + 29 * hs) p.toNat v) (57 + 29 * hs) p.toNat g) (48 + 29 * hs) 9 (p + 1) → zb_W d ax_m43 (9, [some (.inr (.inr (some (48 + 29 * hs)))), some (.inl (D 4 o 0 * 7 + D 4 t 0)), some (.inl ((if b = 5 then i else i + 1) * 7 + (if b = 4 then j else j + 1))), some (.inl (p + 1)), none], [], zc_S hf pf I1 J) Q := by
        intro v I1 hv hI1
        subst hI1
        refine ih _ _ (p + 1) _ (fun x y q1 q2 q3 => ?_) zu_eq (by omega) (by omega) (by split <;> omega) (by split <;> omega) (by split <;> split <;> omega) (fun I' k1 k2 k3 k4 => hQ I' k1 ?_ (fun q hq => ?_) (fun q hq => ?_))
        · rw [zu_ne (by omega), zu_ne (by omega), zu_ne (by omega)]; exact hV x y q1 q2 q3
        · rw [k2, List.length_cons]; omega
        · obtain ⟨r1, r2⟩ := k3 q (by omega)
          rw [r1, r2, zu_ne (by omega), zu_ne (by omega), zu_ne (by omega), zu_ne (by omega), zu_ne (by omega), zu_ne (by omega)]
          exact ⟨rfl, rfl⟩
        · cases q with
          | zero =>
            obtain ⟨r1, r2⟩ := k3 p.toNat (by omega)
            rw [Nat.add_zero, r1, r2, zu_ne (by omega), zu_ne (by omega), zu_eq, zu_ne (by omega), zu_eq, hv]
            exact ⟨rfl, rfl⟩
          | succ q =>
            rw [List.length_cons] at hq
            have := k4 q (by omega)
            rw [show (p + 1).toNat + q = p.toNat + (q + 1) by omega] at this
            exact this
      have e55 : ∀ v, (ax_u I (56 + 29 * hs) p.toNat v) (55 + 29 * hs) (i * 7 + j).toNat = g := fun v => by rw [zu_ne (by omega)]; exact h55
      have e9 : ∀ v, (ax_u (ax_u I (56 + 29 * hs) p.toNat v) (57 + 29 * hs) p.toNat g) (48 + 29 * hs) 9 = p := fun v => by rw [zu_ne (by omega), zu_ne (by omega)]; exact hp
      refine zk_LineFinder_layOut_9 hf pf I J _ _ p hs eh ?_
      simp (disch := omega) only [zb_w, h54, e55, e9]
      have n4' : b = 4 → ∀ v, v = (if b < 4 then (0 : Int) else b - 3) → zb_W d ax_m43 (9, [some (.inr (.inr (some (48 + 29 * hs)))), some (.inl (D 4 o 0 * 7 + D 4 t 0)), some (.inl (i * 7 + j + 7)), some (.inl (p + 1)), none], [], zc_S hf pf (ax_u (ax_u (ax_u I (56 + 29 * hs) p.toNat v) (57 + 29 * hs) p.toNat g) (48 + 29 * hs) 9 (p + 1)) J) Q := by
        intro e v hv
        have := nxt v _ hv rfl
        rw [if_neg (by omega), if_pos e, show (i + 1) * 7 + j = i * 7 + j + 7 by omega] at this
        exact this
      have n5' : b = 5 → ∀ v, v = (if b < 4 then (0 : Int) else b - 3) → zb_W d ax_m43 (9, [some (.inr (.inr (some (48 + 29 * hs)))), some (.inl (D 4 o 0 * 7 + D 4 t 0)), some (.inl (i * 7 + j + 1)), some (.inl (p + 1)), none], [], zc_S hf pf (ax_u (ax_u (ax_u I (56 + 29 * hs) p.toNat v) (57 + 29 * hs) p.toNat g) (48 + 29 * hs) 9 (p + 1)) J) Q := by
        intro e v hv
        have := nxt v _ hv rfl
        rw [if_pos e, if_neg (by omega), show i * 7 + (j + 1) = i * 7 + j + 1 by omega] at this
        exact this
      have n8' : b ≠ 4 → b ≠ 5 → ∀ v, v = (if b < 4 then (0 : Int) else b - 3) → zb_W d ax_m43 (9, [some (.inr (.inr (some (48 + 29 * hs)))), some (.inl (D 4 o 0 * 7 + D 4 t 0)), some (.inl (i * 7 + j + 8)), some (.inl (p + 1)), none], [], zc_S hf pf (ax_u (ax_u (ax_u I (56 + 29 * hs) p.toNat v) (57 + 29 * hs) p.toNat g) (48 + 29 * hs) 9 (p + 1)) J) Q := by
        intro e e2 v hv
        have := nxt v _ hv rfl
        rw [if_neg e2, if_neg e, show (i + 1) * 7 + (j + 1) = i * 7 + j + 8 by omega] at this
        exact this
      have lt : i * 7 + j < D 4 o 0 * 7 + D 4 t 0 := by omega
      refine ⟨fun _ => ⟨fun _ => ⟨by omega, fun q => ⟨by omega, by omega, by omega, fun e => n4' e 0 (by rw [if_pos q]), fun e => ⟨fun e2 => n5' e2 0 (by rw [if_pos q]), fun e2 => n8' e e2 0 (by rw [if_pos q])⟩⟩, fun q => ⟨by omega, by omega, by omega, fun e => n4' e _ (by rw [if_neg q]; omega), fun e => ⟨fun e2 => n5' e2 _ (by rw [if_neg q]; omega), fun e2 => n8' e e2 _ (by rw [if_neg q]; omega)⟩⟩⟩, fun q => absurd lt q⟩, fun q => absurd (show p < 12 by omega) q⟩
theorem sc_layOut (eh : hs = 0 ∨ hs = 1) (ok : zD_ok D pg) {o t h : Int} (co : pf_canPaint D o h = 1) (ct : pf_canPaint D t h = 1) (hA : kAll D pg o t h hs I (-1) (D 4 t 0)) (hP : ∀ I', (∀ x y, x ≠ 56 + 29 * hs → x ≠ 57 + 29 * hs → ¬ (x = 48 + 29 * hs ∧ y = 9) → I' x y = I x y) → cFd D pg o t h hs I' → P0 I' J) : zc_v (d + 1) 43 [.inr (.inr (some (48 + 29 * hs))), .inl (D 4 o 0 * 7 + D 4 t 0)] hf pf I J P0 := by
  have m4 := ok.a4 o 0
  have n4 := ok.a4 t 0
  refine zc_inv (M := ax_m43) rfl (Nat.le_of_ble_eq_true rfl) (zk_LineFinder_layOut_0 hf pf I J _ hs eh ?_)
  have := sc_layOut_9 (d := d) (hf := hf) (pf := pf) (J := J) (Q := zc_Qv hf pf P0) eh ok co ct hA 12 0 0 0 (ax_u I (48 + 29 * hs) 9 0) (fun x y q1 q2 q3 => zu_ne (by omega)) zu_eq (by decide) (by decide) (by omega) (by omega) (by omega) (fun I' k1 k2 k3 k4 => zc_Qv.of (hP I' k1 ⟨?_, by rw [k2, Int.zero_add]; rfl, fun q hq => ?_⟩))
  · exact this
  · rw [k1 _ _ (by omega) (by omega) (by omega)]
    exact (hA 0 0 (by decide) (by omega) (by decide) (by omega) (by omega)).1
  · have := k4 q hq
    rw [show (0 : Int).toNat + q = q by omega] at this
    exact this
theorem sc_find_183 {I0 : zF} (eh : hs = 0 ∨ hs = 1) (hS0 : cS D pg hs I0) {o t h : Int} (hh : 0 ≤ h ∧ h < 2) (co : pf_canPaint D o h = 1) (ct : pf_canPaint D t h = 1) (hw0 : kW D o t h hs I0) {Q : Option ax_v → ax_S → Prop} (hQ : ∀ I' I2, cT hs I0 I2 → (∀ x y, x ≠ 56 + 29 * hs → x ≠ 57 + 29 * hs → ¬ (x = 48 + 29 * hs ∧ y = 9) → I' x y = I2 x y) → cFd D pg o t h hs I' → Q none (zc_S hf pf I' J)) : ∀ (n : Nat) (i : Int) (I : zF), cT hs I0 I → kAll D pg o t h hs I i (D 4 t 0) → -1 ≤ i → i + 1 = n → i ≤ D 4 o 0 → zb_W (d + 5) ax_m39 (183, [some (.inr (.inr (some (48 + 29 * hs)))), some (.inr (.inr (some ((39 + 29 * hs))))), none, none, none, some (.inl (D 4 o 0)), some (.inl (D 4 t 0)), some (.inl i), none, none], [], zc_S hf pf I J) Q := by
  have m4 := hS0.ok.a4 o 0
  have n4 := hS0.ok.a4 t 0
  intro n
  induction n with
  | zero =>
    intro i I hT hA h0 he him
    have e : i = -1 := by omega
    subst e
    refine zk_LineFinder_find_183 hf pf I J _ _ (-1) hs eh ⟨fun _ => sc_layOut eh hS0.ok co ct hA (fun I' k1 k2 => hQ I' I hT k1 k2), fun q => absurd (by decide) q⟩
  | succ n ih =>
    intro i I hT hA h0 he him
    refine zk_LineFinder_find_183 hf pf I J _ _ i hs eh ?_
    rw [zb_w (x := i) (by omega) (by omega), show ax_w 0 = 0 from rfl]
    refine ⟨fun q => by omega, fun _ => sc_find_192 eh hS0 hh co ct (by omega) hw0 (D 4 t 0 + 1).toNat (D 4 t 0) I hT hA (by omega) (by omega) (by omega) (fun I' k1 k2 => ih (i + -1) I' k1 k2 (by omega) (by omega) (by omega))⟩
theorem cF.u {hs : Nat} {I I' : zF} (h : cF hs I I') {i n : Nat} {v : Int} (hi : 48 + 29 * hs ≤ i ∧ i ≤ 57 + 29 * hs) : cF hs I (ax_u I' i n v) := fun a b q1 q2 q3 q4 q5 => by rw [zu_ne (by omega)]; exact h a b q1 q2 q3 q4 q5
theorem sc_find_43 {I0 : zF} (eh : hs = 0 ∨ hs = 1) (hS0 : cS D pg hs I0) {o t h : Int} (hh : 0 ≤ h ∧ h < 2) (ho : 0 ≤ o ∧ o < D 3 0 0) {Q : Option ax_v → ax_S → Prop} : ∀ (n : Nat) (k : Int) (I : zF), cF hs I0 I → (∀ i, 0 ≤ i → i < k → I (49 + 29 * hs) i.toNat = lx D o h i ∧ I (51 + 29 * hs) i.toNat = gx D o h i) → 0 ≤ k → k + n = D 4 o 0 → (∀ I', cF hs I0 I' → (∀ i, 0 ≤ i → i < D 4 o 0 → I' (49 + 29 * hs) i.toNat = lx D o h i ∧ I' (51 + 29 * hs) i.toNat = gx D o h i) → zb_W (d + 5) ax_m39 (98, [some (.inr (.inr (some (48 + 29 * hs)))), some (.inr (.inr (some ((39 + 29 * hs))))), some (.inl o), some (.inl t), some (.inl h), some (.inl (D 4 o 0)), some (.inl (D 4 t 0)), some (.inl 0), none, none], [], zc_S hf pf I' J) Q) → zb_W (d + 5) ax_m39 (43, [some (.inr (.inr (some (48 + 29 * hs)))), some (.inr (.inr (some ((39 + 29 * hs))))), some (.inl o), some (.inl t), some (.inl h), some (.inl (D 4 o 0)), some (.inl (D 4 t 0)), some (.inl k), none, none], [], zc_S hf pf I J) Q := by
  have m4 := hS0.ok.a4 o 0
  intro n
  induction n with
  | zero =>
    intro k I hF hk h0 he hQ
    have e : k = D 4 o 0 := by omega
    subst e
    exact zk_LineFinder_find_43 hf pf I J _ _ _ _ _ _ hs eh ⟨fun q => absurd q (Int.lt_irrefl _), fun _ => hQ I hF hk⟩
  | succ n ih =>
    intro k I hF hk h0 he hQ
    have hS := hF.S hS0
    have h5 := hS0.ok.a5 o k
    have ex : lx D o h k = pf_at D h (D 5 o k) := by unfold lx; rw [if_pos (by omega)]
    have eg : gx D o h k = pf_pg D o h k := by unfold gx pf_pg; rw [ex]
    refine zk_LineFinder_find_43 hf pf I J _ _ _ _ _ _ hs eh ?_
    rw [zb_w (x := k) (by omega) (by omega), zb_w (x := D 4 o 0) (by omega) (by omega)]
    refine ⟨fun _ => sc_letterAt eh hS.ok hS.L ho (by omega) (sc_indexOf eh hS.ok hS.L hh ⟨by omega, by omega⟩ ⟨by omega, ?_⟩), fun q => absurd (show k < D 4 o 0 by omega) q⟩
    have hF1 := hF.u (i := 49 + 29 * hs) (n := k.toNat) (v := pf_at D h (D 5 o k)) (by omega)
    refine sc_paintedGlyph eh hS.ok (hF1.S hS0).L ho hh (by omega) ⟨by omega, ih (k + 1) _ (hF1.u (by omega)) (fun i i0 i1 => ?_) (by omega) (by omega) hQ⟩
    by_cases e : i = k
    · rw [e, zu_ne (by omega), zu_eq, zu_eq, ex, eg]
      exact ⟨rfl, rfl⟩
    · rw [zu_ne (by omega), zu_ne (by omega), zu_ne (by omega), zu_ne (by omega)]
      exact hk i i0 (by omega)
theorem sc_find_98 {I0 : zF} (eh : hs = 0 ∨ hs = 1) (hS0 : cS D pg hs I0) {o t h : Int} (hh : 0 ≤ h ∧ h < 2) (ht : 0 ≤ t ∧ t < D 3 0 0) (ct : pf_canPaint D t h = 1) {Q : Option ax_v → ax_S → Prop} : ∀ (n : Nat) (k : Int) (I : zF), cF hs I0 I → (∀ i, 0 ≤ i → i < D 4 o 0 → I (49 + 29 * hs) i.toNat = lx D o h i ∧ I (51 + 29 * hs) i.toNat = gx D o h i) → (∀ j, 0 ≤ j → j < k → I (50 + 29 * hs) j.toNat = ly D t h j ∧ I (52 + 29 * hs) j.toNat = gy D t h j) → 0 ≤ k → k + n = D 4 t 0 → (∀ I', cF hs I0 I' → kW D o t h hs I' → I' (48 + 29 * hs) 10 = o → I' (48 + 29 * hs) 11 = t → zb_W (d + 5) ax_m39 (183, [some (.inr (.inr (some (48 + 29 * hs)))), some (.inr (.inr (some ((39 + 29 * hs))))), none, none, none, some (.inl (D 4 o 0)), some (.inl (D 4 t 0)), some (.inl (D 4 o 0)), none, none], [], zc_S hf pf I' J) Q) → zb_W (d + 5) ax_m39 (98, [some (.inr (.inr (some (48 + 29 * hs)))), some (.inr (.inr (some ((39 + 29 * hs))))), some (.inl o), some (.inl t), some (.inl h), some (.inl (D 4 o 0)), some (.inl (D 4 t 0)), some (.inl k), none, none], [], zc_S hf pf I J) Q := by
  have m4 := hS0.ok.a4 t 0
  intro n
  induction n with
  | zero =>
    intro k I hF hx hk h0 he hQ
    have e : k = D 4 t 0 := by omega
    subst e
    refine zk_LineFinder_find_98 hf pf I J _ _ _ _ _ _ hs eh ⟨fun q => absurd q (Int.lt_irrefl _), fun _ => hQ _ (((hF.u (by omega)).u (by omega)).u (by omega)) ⟨zu_eq, fun i a b => ?_, fun j a b => ?_⟩ ?_ ?_⟩
    · rw [zu_ne (by omega), zu_ne (by omega), zu_ne (by omega), zu_ne (by omega), zu_ne (by omega), zu_ne (by omega)]; exact hx i a b
    · rw [zu_ne (by omega), zu_ne (by omega), zu_ne (by omega), zu_ne (by omega), zu_ne (by omega), zu_ne (by omega)]; exact hk j a b
    · rw [zu_ne (by omega), zu_ne (by omega), zu_eq]
    · rw [zu_ne (by omega), zu_eq]
  | succ n ih =>
    intro k I hF hx hk h0 he hQ
    have hS := hF.S hS0
    have h5 := hS0.ok.a5 t (D 4 t 0 - 1 - k)
    have ex : ly D t h k = pf_at D h (D 5 t (D 4 t 0 - 1 - k)) := by unfold ly; rw [if_pos (by omega)]
    have hyn := ly_ne hS0.ok ct ⟨h0, (show k < D 4 t 0 by omega)⟩
    have eg : gy D t h k = pf_seen (pf_pg D t h (D 4 t 0 - 1 - k)) 1 := by unfold gy pf_pg; rw [if_neg hyn, ← ex, if_neg hyn]
    have gp : g15 (pf_pg D t h (D 4 t 0 - 1 - k)) := by unfold pf_pg; rw [← ex, if_neg hyn]; exact hS0.ok.a2 _ _
    refine zk_LineFinder_find_98 hf pf I J _ _ _ _ _ _ hs eh ?_
    rw [zb_w (x := k) (by omega) (by omega), zb_w (x := D 4 t 0) (by omega) (by omega)]
    refine ⟨fun _ => sc_letterAt eh hS.ok hS.L ht (by omega) (sc_indexOf eh hS.ok hS.L hh ⟨by omega, by omega⟩ ⟨by omega, ?_⟩), fun q => absurd (show k < D 4 t 0 by omega) q⟩
    have hF1 := hF.u (i := 50 + 29 * hs) (n := k.toNat) (v := pf_at D h (D 5 t (D 4 t 0 - 1 - k))) (by omega)
    refine sc_paintedGlyph eh hS.ok (hF1.S hS0).L ht hh (by omega) (sc_turned gp ⟨by decide, by decide⟩ ⟨by omega, ih (k + 1) _ (hF1.u (by omega)) (fun i i0 i1 => ?_) (fun i i0 i1 => ?_) (by omega) (by omega) hQ⟩)
    · rw [zu_ne (by omega), zu_ne (by omega), zu_ne (by omega), zu_ne (by omega)]
      exact hx i i0 i1
    · by_cases e : i = k
      · rw [e, zu_ne (by omega), zu_eq, zu_eq, ex, eg]
        exact ⟨rfl, rfl⟩
      · rw [zu_ne (by omega), zu_ne (by omega), zu_ne (by omega), zu_ne (by omega)]
        exact hk i i0 (by omega)
/-- the line found last is such -/
def cM0 (D : zD) (pg : zG) (hs : Nat) (I : zF) : Prop := I (48 + 29 * hs) 10 = -1 ∨ ∃ o t h, ((0 ≤ o ∧ o < 8) ∧ (0 ≤ t ∧ t < 8) ∧ (0 ≤ h ∧ h < 2)) ∧ I (48 + 29 * hs) 10 = o ∧ I (48 + 29 * hs) 11 = t ∧ I (48 + 29 * hs) 12 = h ∧ cFd D pg o t h hs I
theorem sc_find (eh : hs = 0 ∨ hs = 1) (hS : cS D pg hs I) (hM : cM0 D pg hs I) {o t h : Int} (hh : 0 ≤ h ∧ h < 2) (ho : 0 ≤ o ∧ o < D 3 0 0) (ht : 0 ≤ t ∧ t < D 3 0 0) (co : pf_canPaint D o h = 1) (ct : pf_canPaint D t h = 1) (hP : ∀ I', cF hs I I' → cM0 D pg hs I' → cFd D pg o t h hs I' → P0 I' J) : zc_v (d + 6) 39 [.inr (.inr (some (48 + 29 * hs))), .inr (.inr (some ((39 + 29 * hs)))), .inl o, .inl t, .inl h] hf pf I J P0 := by
  have h3 := hS.ok.a3 0 0
  have m4 := hS.ok.a4 o 0
  have n4 := hS.ok.a4 t 0
  have go : zb_W (d + 5) ax_m39 (26, [some (.inr (.inr (some (48 + 29 * hs)))), some (.inr (.inr (some ((39 + 29 * hs))))), some (.inl o), some (.inl t), some (.inl h), none, none, none, none, none], [], zc_S hf pf I J) (zc_Qv hf pf P0) := by
    refine zk_LineFinder_find_26 hf pf I J o t h hs eh (sc_sizeOf eh hS.ok hS.L ho (sc_sizeOf eh hS.ok hS.L ht ?_))
    refine sc_find_43 eh hS hh ho (D 4 o 0).toNat 0 I (cF.refl _ _) (fun i a b => by omega) (by decide) (by omega) (fun I1 hF1 hx1 => ?_)
    refine sc_find_98 eh hS hh ht ct (D 4 t 0).toNat 0 I1 hF1 hx1 (fun i a b => by omega) (by decide) (by omega) (fun I2 hF2 hw2 e10 e11 => ?_)
    refine sc_find_183 eh (hF2.S hS) hh co ct hw2 (fun I4 I3 hT3 k3 hFd => ?_) (D 4 o 0 + 1).toNat (D 4 o 0) I2 (cT.refl _ _) (fun a c a0 am c0 cn q => by omega) (by omega) (by omega) (by omega)
    have g : ∀ k, k ≠ 9 → I4 (48 + 29 * hs) k = I2 (48 + 29 * hs) k := fun k q => (k3 _ _ (by omega) (by omega) (by omega)).trans (hT3 _ _ (by omega) (by omega) (by omega) (by omega) (by omega))
    refine zc_Qv.of (hP I4 ?_ (Or.inr ⟨o, t, h, ⟨by omega, by omega, by omega⟩, ?_, ?_, ?_, hFd⟩) hFd)
    · exact hF2.trans (hT3.F.trans (fun i j q1 q2 q3 q4 q5 => k3 i j (by omega) (by omega) (by omega)))
    · rw [g 10 (by decide)]; exact e10
    · rw [g 11 (by decide)]; exact e11
    · rw [g 12 (by decide)]; exact hw2.1
  refine zc_inv (M := ax_m39) rfl (Nat.le_of_ble_eq_true rfl) (zk_LineFinder_find_0 hf pf I J o t h hs eh ⟨fun e1 => ⟨fun e2 => ⟨fun e3 => ?_, fun _ => go⟩, fun _ => go⟩, fun _ => go⟩)
  refine zc_Qv.of (hP I (cF.refl _ _) hM ?_)
  rw [zb_w (x := o) (by omega) (by omega)] at e1
  rw [zb_w (x := t) (by omega) (by omega)] at e2
  rw [zb_w (x := h) (by omega) (by omega)] at e3
  rcases hM with e | ⟨o', t', h', ⟨a1, a2, a3⟩, b1, b2, b3, hF⟩
  · rw [e] at e1
    exact absurd (show o = -1 from e1) (by omega)
  · rw [b1, zb_w (by omega) (by omega)] at e1
    rw [b2, zb_w (by omega) (by omega)] at e2
    rw [b3, zb_w (by omega) (by omega)] at e3
    rw [e1, e2, e3]
    exact hF
end ZCC
