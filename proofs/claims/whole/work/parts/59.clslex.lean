/-! THE CLASS: texts -/
def kd (c : Int) : Int := if c = -1 then 0 else if fL c = true then 1 else if fN c = true then 2 else 3
theorem kd_in (c : Int) : 0 ≤ kd c ∧ kd c ≤ 3 := by
  unfold kd
  split
  · omega
  · split
    · omega
    · split <;> omega
def cY (I I' : zF) : Prop := ∀ i j, ¬ (i = 3 ∧ 1 ≤ j ∧ j ≤ 7) → I' i j = I i j
theorem cY.refl (I : zF) : cY I I := fun _ _ _ => rfl
theorem cY.trans {I I' I2 : zF} (h : cY I I') (h2 : cY I' I2) : cY I I2 := fun i j a => (h2 i j a).trans (h i j a)
theorem cY.u {I I' : zF} (h : cY I I') {j : Nat} {v : Int} (hj : 1 ≤ j ∧ j ≤ 7) : cY I (ax_u I' 3 j v) := fun a b q => by rw [zu_ne (by omega)]; exact h a b q
theorem cY.t {T : Nat → Int} {n : Int} {I I' : zF} (h : cY I I') (hT : tC T n I) : tC T n I' := ⟨by rw [h 1 1 (by omega)]; exact hT.1, hT.2.1, fun j hj => by rw [h 2 j (by omega)]; exact hT.2.2 j hj⟩
/-- the class reads at s, and nothing is wrong so far -/
def cTx (T : Nat → Int) (n : Int) (s : zs) (I : zF) : Prop := sOk T n s ∧ tC T n I ∧ I 3 1 = tk T n s ∧ I 3 2 = s.1 ∧ I 3 3 = te T n s - s.1 ∧ I 3 6 = 0 ∧ I 3 7 = -1
def cBad (k q : Int) (I : zF) : Prop := I 3 6 = k ∧ I 3 7 = q
theorem cTx.ok {T : Nat → Int} {n : Int} {s : zs} {I : zF} (h : cTx T n s I) : sOk T n s := h.1
theorem cTx.t {T : Nat → Int} {n : Int} {s : zs} {I : zF} (h : cTx T n s I) : tC T n I := h.2.1
theorem tk_kd {T : Nat → Int} {n : Int} {s : zs} (h : sOk T n s) : tk T n s = (if (kd (lc T n s.1) = 1 ∨ kd (lc T n s.1) = 2) ∧ s.1 = s.2 then 4 else kd (lc T n s.1)) := by
  unfold tk lc kd
  by_cases c : s.1 < n
  · have hb := h.b h.1.1 c
    rw [if_pos c, if_pos c, if_neg (show ¬ T s.1.toNat = -1 by omega)]
    by_cases c1 : fL (T s.1.toNat) = true
    · rw [if_pos c1, if_pos c1]
      by_cases e : s.1 = s.2
      · rw [if_pos e, if_pos ⟨Or.inl rfl, e⟩]
      · rw [if_neg e, if_neg (fun q => e q.2)]
    · rw [if_neg c1, if_neg c1]
      by_cases c2 : fN (T s.1.toNat) = true
      · rw [if_pos c2, if_pos c2]
        by_cases e : s.1 = s.2
        · rw [if_pos e, if_pos ⟨Or.inr rfl, e⟩]
        · rw [if_neg e, if_neg (fun q => e q.2)]
      · rw [if_neg c2, if_neg c2, if_neg (by omega)]
  · rw [if_neg c, if_neg c, if_pos rfl, if_neg (by omega)]
theorem lc_at {T : Nat → Int} {n q : Int} (h : 0 ≤ q) : (if 0 ≤ q ∧ q < n then T q.toNat else -1) = lc T n q := by
  unfold lc
  by_cases c : q < n
  · rw [if_pos ⟨h, c⟩, if_pos c]
  · rw [if_neg (fun r => c r.2), if_neg c]
theorem kd1 {c : Int} (h : kd c = 1) : fL c = true ∧ c ≠ -1 := by
  unfold kd at h
  split at h
  · exact absurd h (by decide)
  · rename_i e
    split at h
    · exact ⟨by assumption, e⟩
    · split at h <;> exact absurd h (by decide)
theorem kd2 {c : Int} (h : kd c = 2) : fN c = true ∧ c ≠ -1 ∧ ¬ fL c = true := by
  unfold kd at h
  split at h
  · exact absurd h (by decide)
  · rename_i e
    split at h
    · exact absurd h (by decide)
    · split at h
      · exact ⟨by assumption, e, by assumption⟩
      · exact absurd h (by decide)
/-- the signs of a run of that kind -/
def kf (k : Int) : Int → Bool := if k = 1 then fL else fN
theorem kf_kd {T : Nat → Int} {n : Int} {s : zs} (h : sOk T n s) {k q : Int} (hk : k = 1 ∨ k = 2) (h0 : 0 ≤ q) : kd (lc T n q) = k ↔ (q < n ∧ kf k (T q.toNat) = true) := by
  unfold lc
  by_cases c : q < n
  · have hb := h.b h0 c
    rw [if_pos c]
    have hl : fL (T q.toNat) = true → ¬ fN (T q.toNat) = true := fun a b => by
      have := of_decide_eq_true a
      have := of_decide_eq_true b
      omega
    unfold kd
    rw [if_neg (show ¬ T q.toNat = -1 by omega)]
    rcases hk with rfl | rfl
    · show _ ↔ (_ ∧ fL _ = true)
      by_cases c1 : fL (T q.toNat) = true
      · rw [if_pos c1]; exact ⟨fun _ => ⟨c, c1⟩, fun _ => rfl⟩
      · rw [if_neg c1]
        refine ⟨fun e => ?_, fun e => absurd e.2 c1⟩
        split at e <;> exact absurd e (by decide)
    · show _ ↔ (_ ∧ fN _ = true)
      by_cases c1 : fL (T q.toNat) = true
      · rw [if_pos c1]; exact ⟨fun e => absurd e (by decide), fun e => absurd e.2 (hl c1)⟩
      · rw [if_neg c1]
        by_cases c2 : fN (T q.toNat) = true
        · rw [if_pos c2]; exact ⟨fun _ => ⟨c, c2⟩, fun _ => rfl⟩
        · rw [if_neg c2]; exact ⟨fun e => absurd e (by decide), fun e => absurd e.2 c2⟩
  · rw [if_neg c]
    refine ⟨fun e => ?_, fun e => absurd e.1 c⟩
    have : kd (-1) = 0 := rfl
    omega
section ZCE
variable {d hf pf : Nat} {I J : zF} {T : Nat → Int} {n : Int} {s : zs} {P : Int → zF → zF → Prop} {P0 : zF → zF → Prop}
theorem sc_kindOf {c : Int} (hc : n32 c) (hP : P (kd c) I J) : zc_i (d + 1) 92 [.inl c] hf pf I J P := by
  refine zc_ini (M := ax_m92) rfl (Nat.le_of_ble_eq_true rfl) (zk_Tokens_kindOf_0 hf pf I J c ?_)
  unfold kd fL fN at hP
  simp only [decide_eq_true_eq] at hP
  simp only [hc.w, show ax_w (-1) = -1 from rfl, show ax_w 97 = 97 from rfl, show ax_w 122 = 122 from rfl, show ax_w 48 = 48 from rfl, show ax_w 57 = 57 from rfl]
  refine ⟨fun q => zc_Qi.of ?_, fun q => ⟨fun q1 => ⟨fun q2 => zc_Qi.of ?_, fun q2 => ⟨fun q3 => zc_Qi.of ?_, fun q3 => zc_Qi.of ?_⟩⟩, fun q1 => ⟨fun q2 => ⟨fun q3 => zc_Qi.of ?_, fun q3 => ⟨fun q4 => zc_Qi.of ?_, fun q4 => zc_Qi.of ?_⟩⟩, fun q2 => zc_Qi.of ?_⟩⟩⟩
  · rwa [if_pos q] at hP
  · rwa [if_neg q, if_neg (by omega), if_neg (by omega)] at hP
  · rwa [if_neg q, if_neg (by omega), if_neg (by omega)] at hP
  · rwa [if_neg q, if_neg (by omega), if_pos (by omega)] at hP
  · omega
  · rwa [if_neg q, if_neg (by omega), if_neg (by omega)] at hP
  · omega
  · rwa [if_neg q, if_pos (by omega)] at hP
theorem sc_advance_146 {I0 : zF} (hok : sOk T n s) (hT0 : tC T n I0) {a f k : Int} (hk : k = 1 ∨ k = 2) (ha : a = 0 ∨ a = 1) (hf0 : 0 ≤ f ∧ f ≤ s.1) (hkd : kd (lc T n s.1) = k) (hg : (a = 1 ∧ s.1 = f) ↔ s.1 = s.2) (hP : ∀ I', cY I0 I' → cTx T n s I' → I' 3 4 = I0 3 4 → I' 3 5 = I0 3 5 → P0 I' J) (h67 : I0 3 6 = 0 ∧ I0 3 7 = -1) : ∀ (m : Nat) (q : Int) (I : zF), (n - q).toNat = m → s.1 ≤ q → q ≤ n → cY I0 I → (∀ j, 4 ≤ j → I 3 j = I0 3 j) → I 3 1 = k → I 3 2 = s.1 → I 3 3 = q - s.1 → rn T n (kf k) q = rn T n (kf k) s.1 → zb_W (d + 1) ax_m91 (146, [some (.inr (.inr (some 3))), some (.inl a), some (.inl f)], [], zc_S hf pf I J) (zc_Qv hf pf P0) := by
  have hn := hok.n
  have hsp := hok.1
  have hs2 := hok.2.1
  have hkx := (kf_kd hok hk hsp.1).mp hkd
  have ek : tk T n s = if s.1 = s.2 then 4 else k := by
    rw [tk_kd hok, hkd]
    by_cases e : s.1 = s.2
    · rw [if_pos ⟨hk, e⟩, if_pos e]
    · rw [if_neg (fun r => e r.2), if_neg e]
  have ete : te T n s = rn T n (kf k) s.1 := by
    unfold te
    rw [if_pos hkx.1]
    rcases hk with rfl | rfl
    · rw [if_pos (show fL (T s.1.toNat) = true from hkx.2)]; rfl
    · have h2 : kd (T s.1.toNat) = 2 := by unfold lc at hkd; rwa [if_pos hkx.1] at hkd
      obtain ⟨a1, _, a3⟩ := kd2 h2
      rw [if_neg a3, if_pos a1]; rfl
  have fin : ∀ (q : Int) (I : zF), s.1 ≤ q → q ≤ n → cY I0 I → (∀ j, 4 ≤ j → I 3 j = I0 3 j) → I 3 1 = k → I 3 2 = s.1 → I 3 3 = q - s.1 → rn T n (kf k) q = rn T n (kf k) s.1 → ¬ (q < n ∧ kf k (T q.toNat) = true) → ((ax_w a = ax_w 0 → zc_Qv hf pf P0 none (zc_S hf pf I J)) ∧ (¬ ax_w a = ax_w 0 → ((ax_w (I 3 2) = ax_w f → zc_Qv hf pf P0 none (zc_S hf pf (ax_u I 3 1 4) J)) ∧ (¬ ax_w (I 3 2) = ax_w f → zc_Qv hf pf P0 none (zc_S hf pf I J))))) := by
    intro q I h1 h2 hY h4 e1 e2 e3 er hs
    have eq : rn T n (kf k) q = q := rn_out hs
    have z3 : I 3 3 = te T n s - s.1 := by rw [e3, ete, ← er, eq]
    have z6 : I 3 6 = 0 ∧ I 3 7 = -1 := by rw [h4 6 (by omega), h4 7 (by omega)]; exact h67
    have no : s.1 ≠ s.2 → zc_Qv hf pf P0 none (zc_S hf pf I J) := fun c => zc_Qv.of (hP I hY ⟨hok, hY.t hT0, by rw [ek, if_neg c]; exact e1, e2, z3, z6⟩ (h4 4 (by omega)) (h4 5 (by omega)))
    rw [e2, zb_w (x := s.1) (by omega) (by omega), zb_w (x := f) (by omega) (by omega)]
    refine b01 ha (fun a1 => ⟨fun c => ?_, fun c => no (fun r => c (hg.mpr r).2)⟩) (fun a0 => no (fun r => by have := (hg.mpr r).1; omega))
    have es := hg.mp ⟨a1, c⟩
    refine zc_Qv.of (hP _ (hY.u (by omega)) ⟨hok, (hY.u (by omega)).t hT0, ?_, ?_, ?_, ?_, ?_⟩ ?_ ?_)
    · rw [zu_eq, ek, if_pos es]
    · rw [zu_ne (by omega)]; exact e2
    · rw [zu_ne (by omega)]; exact z3
    · rw [zu_ne (by omega)]; exact z6.1
    · rw [zu_ne (by omega)]; exact z6.2
    · rw [zu_ne (by omega)]; exact h4 4 (by omega)
    · rw [zu_ne (by omega)]; exact h4 5 (by omega)
  intro m
  induction m with
  | zero =>
    intro q I hm h1 h2 hY h4 e1 e2 e3 er
    refine zk_Tokens_advance_146 hf pf I J a f (sc_length (hY.t hT0) ?_)
    rw [show I 3 2 + I 3 3 = q by omega, zb_w (x := q) (by omega) (by omega), zb_w (x := n) (by omega) (by omega)]
    exact ⟨fun c => by omega, fun _ => fin q I h1 h2 hY h4 e1 e2 e3 er (by omega)⟩
  | succ m ih =>
    intro q I hm h1 h2 hY h4 e1 e2 e3 er
    have hl := lc_in hok (q := q) (by omega)
    have hkr := kd_in (lc T n q)
    refine zk_Tokens_advance_146 hf pf I J a f (sc_length (hY.t hT0) ?_)
    rw [show I 3 2 + I 3 3 = q by omega, zb_w (x := q) (by omega) (by omega), zb_w (x := n) (by omega) (by omega)]
    refine ⟨fun c => sc_at (hY.t hT0) ⟨by omega, by omega⟩ ?_, fun c => absurd (show q < n by omega) c⟩
    rw [lc_at (by omega)]
    refine sc_kindOf ⟨by omega, by omega⟩ ?_
    rw [e1, zb_w (x := kd (lc T n q)) (by omega) (by omega), zb_w (x := k) (by omega) (by omega)]
    refine ⟨fun r => ?_, fun r => fin q I h1 h2 hY h4 e1 e2 e3 er (fun z => r ((kf_kd hok hk (by omega)).mpr z))⟩
    have z := (kf_kd hok hk (by omega)).mp r
    refine ih (q + 1) _ (by omega) (by omega) (by omega) (hY.u (by omega)) (fun j hj => by rw [zu_ne (by omega)]; exact h4 j hj) (by rw [zu_ne (by omega)]; exact e1) (by rw [zu_ne (by omega)]; exact e2) (by rw [zu_eq]; omega) (by rw [← rn_in z.1 z.2]; exact er)
theorem sc_advance_37 {I0 : zF} (hok : sOk T n s) (hT0 : tC T n I0) {a f : Int} (ha : a = 0 ∨ a = 1) (hf0 : 0 ≤ f ∧ f ≤ n) (hs : s.1 = rn T n fB f) (hg : (a = 1 ∧ s.1 = f) ↔ s.1 = s.2) (hP : ∀ I', cY I0 I' → cTx T n s I' → I' 3 4 = I0 3 4 → I' 3 5 = I0 3 5 → P0 I' J) (h67 : I0 3 6 = 0 ∧ I0 3 7 = -1) : ∀ (m : Nat) (q : Int) (I : zF), (n - q).toNat = m → f ≤ q → q ≤ n → cY I0 I → (∀ j, 4 ≤ j → I 3 j = I0 3 j) → I 3 2 = q → rn T n fB q = s.1 → zb_W (d + 2) ax_m91 (37, [some (.inr (.inr (some 3))), some (.inl a), some (.inl f)], [], zc_S hf pf I J) (zc_Qv hf pf P0) := by
  have hn := hok.n
  have hsp := hok.1
  have hs2 := hok.2.1
  have hfl := rn_le T n fB f
  have stop : ∀ I : zF, cY I0 I → (∀ j, 4 ≤ j → I 3 j = I0 3 j) → I 3 2 = s.1 → zb_W (d + 2) ax_m91 (96, [some (.inr (.inr (some 3))), some (.inl a), some (.inl f)], [], zc_S hf pf I J) (zc_Qv hf pf P0) := by
    intro I hY h4 e2
    have hl := lc_in hok hsp.1
    have hkr := kd_in (lc T n s.1)
    have z6 : ∀ j v1 v2, 4 ≤ j → (ax_u (ax_u I 3 1 v1) 3 3 v2) 3 j = I0 3 j := fun j v1 v2 hj => by rw [zu_ne (by omega), zu_ne (by omega)]; exact h4 j hj
    have big : ∀ v, kd (lc T n s.1) = 1 ∨ kd (lc T n s.1) = 2 → v = 1 → zb_W (d + 2) ax_m91 (146, [some (.inr (.inr (some 3))), some (.inl a), some (.inl f)], [], zc_S hf pf (ax_u (ax_u I 3 1 (kd (lc T n s.1))) 3 3 v) J) (zc_Qv hf pf P0) := by
      intro v hk hv
      have z := (kf_kd hok hk hsp.1).mp rfl
      exact sc_advance_146 (d := d + 1) hok hT0 hk ha (by omega) rfl hg hP h67 _ (s.1 + 1) _ rfl (by omega) (by omega) ((hY.u (by omega)).u (by omega)) (fun j hj => z6 j _ _ hj) (by rw [zu_ne (by omega), zu_eq]) (by rw [zu_ne (by omega), zu_ne (by omega)]; exact e2) (by rw [zu_eq]; omega) (by rw [← rn_in z.1 z.2])
    have small : ∀ v, ¬ kd (lc T n s.1) = 1 → ¬ kd (lc T n s.1) = 2 → v = (if kd (lc T n s.1) = 0 then 0 else 1) → zc_Qv hf pf P0 none (zc_S hf pf (ax_u (ax_u I 3 1 (kd (lc T n s.1))) 3 3 v) J) := by
      intro v n1 n2 hv
      refine zc_Qv.of (hP _ ((hY.u (by omega)).u (by omega)) ⟨hok, ((hY.u (by omega)).u (by omega)).t hT0, ?_, ?_, ?_, ?_, ?_⟩ ?_ ?_)
      · rw [zu_ne (by omega), zu_eq, tk_kd hok, if_neg (by omega)]
      · rw [zu_ne (by omega), zu_ne (by omega)]; exact e2
      · rw [zu_eq, hv]
        unfold te
        by_cases c : s.1 < n
        · have hb := hok.b hsp.1 c
          have el : lc T n s.1 = T s.1.toNat := by unfold lc; rw [if_pos c]
          have c1 : ¬ fL (T s.1.toNat) = true := fun r => n1 (by rw [el]; unfold kd; rw [if_neg (by omega), if_pos r])
          have c2 : ¬ fN (T s.1.toNat) = true := fun r => n2 (by rw [el]; unfold kd; rw [if_neg (by omega), if_neg c1, if_pos r])
          have c0 : ¬ kd (lc T n s.1) = 0 := by rw [el]; unfold kd; rw [if_neg (by omega), if_neg c1, if_neg c2]; decide
          rw [if_neg c0, if_pos c, if_neg c1, if_neg c2]
          omega
        · have el : lc T n s.1 = -1 := by unfold lc; rw [if_neg c]
          rw [el, if_neg c]
          show (0 : Int) = _
          omega
      · rw [z6 6 _ _ (by omega)]; exact h67.1
      · rw [z6 7 _ _ (by omega)]; exact h67.2
      · exact z6 4 _ _ (by omega)
      · exact z6 5 _ _ (by omega)
    refine zk_Tokens_advance_96 hf pf I J a f ?_
    rw [e2]
    refine sc_at (hY.t hT0) ⟨by omega, by omega⟩ ?_
    rw [lc_at hsp.1]
    refine sc_kindOf ⟨by omega, by omega⟩ ?_
    have x1 : (ax_u I 3 1 (kd (lc T n s.1))) 3 1 = kd (lc T n s.1) := zu_eq
    have x2 : ∀ v, (ax_u (ax_u I 3 1 (kd (lc T n s.1))) 3 3 v) 3 1 = kd (lc T n s.1) := fun v => by rw [zu_ne (by omega), zu_eq]
    rw [x1, x2, x2, zb_w (x := kd (lc T n s.1)) (by omega) (by omega)]
    simp only [show ax_w 0 = 0 from rfl, show ax_w 1 = 1 from rfl, show ax_w 2 = 2 from rfl]
    refine ⟨fun c => ⟨fun c1 => by omega, fun c1 => ⟨fun c2 => by omega, fun c2 => small 0 c1 c2 (by rw [if_pos c])⟩⟩, fun c => ⟨fun c1 => big 1 (Or.inl c1) rfl, fun c1 => ⟨fun c2 => big 1 (Or.inr c2) rfl, fun c2 => small 1 c1 c2 (by rw [if_neg c])⟩⟩⟩
  intro m
  induction m with
  | zero =>
    intro q I hm h1 h2 hY h4 e2 er
    have es : q = s.1 := by rw [← er]; exact (rn_out (by omega)).symm
    refine zk_Tokens_advance_37 hf pf I J a f (sc_length (hY.t hT0) ?_)
    rw [e2, zb_w (x := q) (by omega) (by omega), zb_w (x := n) (by omega) (by omega)]
    exact ⟨fun c => by omega, fun _ => stop I hY h4 (by omega)⟩
  | succ m ih =>
    intro q I hm h1 h2 hY h4 e2 er
    have hl := lc_in hok (q := q) (by omega)
    have el : lc T n q = T q.toNat := by unfold lc; rw [if_pos (by omega)]
    have go : fB (T q.toNat) = true → zb_W (d + 2) ax_m91 (83, [some (.inr (.inr (some 3))), some (.inl a), some (.inl f)], [], zc_S hf pf I J) (zc_Qv hf pf P0) := fun c => zk_Tokens_advance_83 hf pf I J a f (ih (q + 1) _ (by omega) (by omega) (by omega) (hY.u (by omega)) (fun j hj => by rw [zu_ne (by omega)]; exact h4 j hj) (by rw [zu_eq]; omega) (by rw [← rn_in (by omega) c]; exact er))
    have fb : fB (T q.toNat) = true ↔ (T q.toNat = 10 ∨ T q.toNat = 32) := by unfold fB; rw [decide_eq_true_eq]
    refine zk_Tokens_advance_37 hf pf I J a f (sc_length (hY.t hT0) ?_)
    rw [e2, zb_w (x := q) (by omega) (by omega), zb_w (x := n) (by omega) (by omega)]
    refine ⟨fun c => sc_at (hY.t hT0) ⟨by omega, by omega⟩ ?_, fun c => absurd (show q < n by omega) c⟩
    rw [lc_at (by omega), zb_w (x := lc T n q) (by omega) (by omega)]
    refine ⟨fun r => go (fb.mpr (Or.inl (by rw [← el]; exact r))), fun r => ?_⟩
    rw [e2]
    refine sc_at (hY.t hT0) ⟨by omega, by omega⟩ ?_
    rw [lc_at (by omega), zb_w (x := lc T n q) (by omega) (by omega)]
    refine ⟨fun r2 => go (fb.mpr (Or.inr (by rw [← el]; exact r2))), fun r2 => stop I hY h4 ?_⟩
    rw [e2, ← er]
    refine (rn_out (fun z => ?_)).symm
    rcases fb.mp z.2 with z1 | z1
    · exact r (by rw [el]; exact z1)
    · exact r2 (by rw [el]; exact z1)
/-- from any state of the token on: f is the end of it -/
theorem sc_advance_g (hok : sOk T n s) (hT : tC T n I) {f : Int} (hk : 0 ≤ I 3 1 ∧ I 3 1 ≤ 4) (hfe : I 3 2 + I 3 3 = f) (hf0 : 0 ≤ f ∧ f ≤ n) (hs : s.1 = rn T n fB f) (hg : ((I 3 1 = 1 ∨ I 3 1 = 2) ∧ s.1 = f) ↔ s.1 = s.2) (h67 : I 3 6 = 0 ∧ I 3 7 = -1) (hP : ∀ I', cY I I' → cTx T n s I' → I' 3 4 = I 3 4 → I' 3 5 = I 3 5 → P0 I' J) : zc_v (d + 3) 91 [.inr (.inr (some 3))] hf pf I J P0 := by
  have go : ∀ a : Int, (a = 0 ∨ a = 1) → (a = 1 ↔ (I 3 1 = 1 ∨ I 3 1 = 2)) → zb_W (d + 2) ax_m91 (37, [some (.inr (.inr (some 3))), some (.inl a), some (.inl f)], [], zc_S hf pf (ax_u I 3 2 f) J) (zc_Qv hf pf P0) := fun a ha hi => sc_advance_37 hok hT ha hf0 hs (by rw [hi]; exact hg) hP h67 _ f _ rfl (Int.le_refl _) hf0.2 ((cY.refl I).u (by omega)) (fun j hj => zu_ne (by omega)) zu_eq hs.symm
  refine zc_inv (M := ax_m91) rfl (Nat.le_of_ble_eq_true rfl) (zk_Tokens_advance_0 hf pf I J ?_)
  rw [hfe, zb_w (x := I 3 1) (by omega) (by omega)]
  refine ⟨fun c => zk_Tokens_advance_16 hf pf I J ?_, fun c => ⟨fun c2 => zk_Tokens_advance_16 hf pf I J ?_, fun c2 => go 0 (Or.inl rfl) ⟨fun e => absurd e (by decide), fun e => ?_⟩⟩⟩
  · rw [hfe]; exact go 1 (Or.inr rfl) ⟨fun _ => Or.inl c, fun _ => rfl⟩
  · rw [hfe]; exact go 1 (Or.inr rfl) ⟨fun _ => Or.inr c2, fun _ => rfl⟩
  · rcases e with e | e
    · exact absurd e c
    · exact absurd e c2
end ZCE
