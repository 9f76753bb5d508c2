/-! THE CLASS: programs -/
/-- a step as the class keeps it -/
def cm (c : Int) : Int := if 1000 ≤ c then (c - 1000) * 16 else if 60 ≤ c then c - 57 else if 40 ≤ c then (c - 40) * 16 + 1 else if c = 13 then 16 else if c = 12 then 2 else if c ≤ 4 then c + 4 else if c ≤ 6 then c + 9 else c + 2
def cc (I : zF) (s : Nat) : Int → List Int → Prop
  | _, [] => True
  | k, c :: cs => I s k.toNat = cm c ∧ cc I s (k + 1) cs
def cP (I : zF) (p : Nat) (cs : List Int) : Prop := I p 2 = (cs.length : Int) ∧ cs.length ≤ 1600 ∧ cc I (p + 1) 0 cs
theorem cc_cong {I I' : zF} {s : Nat} (h : ∀ j, I' s j = I s j) : ∀ (cs : List Int) (k : Int), cc I s k cs → cc I' s k cs := by
  intro cs
  induction cs with
  | nil => intro k _; trivial
  | cons c cs ih => intro k hc; exact ⟨by rw [h]; exact hc.1, ih _ hc.2⟩
theorem cP_cong {I I' : zF} {p : Nat} {cs : List Int} (h1 : I' p 2 = I p 2) (h2 : ∀ j, I' (p + 1) j = I (p + 1) j) (h : cP I p cs) : cP I' p cs := ⟨by rw [h1]; exact h.1, h.2.1, cc_cong h2 _ _ h.2.2⟩
theorem nib {a b : Int} (ha : 0 ≤ a ∧ a ≤ 100000) (hb : 0 ≤ b ∧ b < 16) : ax_and (a * 16 + b) 15 = b ∧ ax_shr (a * 16 + b) 4 = a := by
  obtain ⟨x, rfl⟩ := Int.eq_ofNat_of_zero_le ha.1
  obtain ⟨y, rfl⟩ := Int.eq_ofNat_of_zero_le hb.1
  have e : ((x : Int) * 16 + (y : Int)) = ((x * 16 + y : Nat) : Int) := by omega
  rw [e, show (15 : Int) = ((15 : Nat) : Int) from rfl, bo_and (by omega) (by decide), show (4 : Int) = ((4 : Nat) : Int) from rfl, bo_shr (by omega) (by decide)]
  have h1 : (x * 16 + y) &&& 15 = (x * 16 + y) % 16 := Nat.and_two_pow_sub_one_eq_mod (x * 16 + y) 4
  have h2 : (2 : Nat) ^ 4 = 16 := rfl
  rw [h1, h2]
  constructor <;> omega
def isP (p : Nat) : Prop := p = 4 ∨ p = 45 ∨ p = 74 ∨ p = 58 ∨ p = 87
def ck (I : zF) (s : Nat) : List Int → Prop
  | [] => True
  | x :: r => I s r.length = x ∧ ck I s r
theorem ck_up {I : zF} {s n : Nat} {x : Int} : ∀ {st : List Int}, st.length ≤ n → ck I s st → ck (ax_u I s n x) s st := by
  intro st
  induction st with
  | nil => intro _ _; trivial
  | cons y r ih =>
    intro hl h
    simp only [List.length_cons] at hl
    exact ⟨by rw [zu_ne (by omega)]; exact h.1, ih (by omega) h.2⟩
theorem ck_put {I : zF} {s n : Nat} {x : Int} {st : List Int} (hn : st.length = n) (h : ck I s st) : ck (ax_u I s n x) s (x :: st) := by
  subst hn
  exact ⟨zu_eq, ck_up (Nat.le_refl _) h⟩
theorem clip_mm (v : Int) : (if -1000000 < (if v < 1000000 then v else 1000000) then (if v < 1000000 then v else 1000000) else -1000000) = pf_clip v := by
  unfold pf_clip
  split <;> split <;> (try split) <;> omega
theorem pt1 (a b : Int) : pf_two 1 a b = pf_clip (a + b) := by
  unfold pf_two
  rw [if_pos rfl]
theorem pt2 (a b : Int) : pf_two 2 a b = pf_clip (a - b) := by
  unfold pf_two
  rw [if_neg (by decide), if_pos rfl]
theorem pt3 (a b : Int) : pf_two 3 a b = pf_clip (a * b) := by
  unfold pf_two
  rw [if_neg (by decide), if_neg (by decide), if_pos rfl]
theorem pt4 (a b : Int) : pf_two 4 a b = Int.fdiv a b := by
  unfold pf_two
  rw [if_neg (by decide), if_neg (by decide), if_neg (by decide), if_pos rfl]
theorem pt5 (a b : Int) : pf_two 5 a b = (if a < b then a else b) := by
  unfold pf_two
  rw [if_neg (by decide), if_neg (by decide), if_neg (by decide), if_neg (by decide), if_pos rfl]
theorem pt6 (a b : Int) : pf_two 6 a b = (if b < a then a else b) := by
  unfold pf_two
  rw [if_neg (by decide), if_neg (by decide), if_neg (by decide), if_neg (by decide), if_neg (by decide), if_pos rfl]
theorem pt7 (a b : Int) : pf_two 7 a b = (if a < b then 1 else 0) := by
  unfold pf_two
  rw [if_neg (by decide), if_neg (by decide), if_neg (by decide), if_neg (by decide), if_neg (by decide), if_neg (by decide), if_pos rfl]
theorem pt8 (a b : Int) : pf_two 8 a b = (if b < a then 1 else 0) := by
  unfold pf_two
  rw [if_neg (by decide), if_neg (by decide), if_neg (by decide), if_neg (by decide), if_neg (by decide), if_neg (by decide), if_neg (by decide), if_pos rfl]
theorem pt9 (a b : Int) : pf_two 9 a b = (if a = b then 1 else 0) := by
  unfold pf_two
  rw [if_neg (by decide), if_neg (by decide), if_neg (by decide), if_neg (by decide), if_neg (by decide), if_neg (by decide), if_neg (by decide), if_neg (by decide), if_pos rfl]
theorem pt10 (a b : Int) : pf_two 10 a b = a * b := by
  unfold pf_two
  rw [if_neg (by decide), if_neg (by decide), if_neg (by decide), if_neg (by decide), if_neg (by decide), if_neg (by decide), if_neg (by decide), if_neg (by decide), if_neg (by decide), if_pos rfl]
theorem pt11 (a b : Int) : pf_two 11 a b = (if 0 < a + b then 1 else 0) := by
  unfold pf_two
  rw [if_neg (by decide), if_neg (by decide), if_neg (by decide), if_neg (by decide), if_neg (by decide), if_neg (by decide), if_neg (by decide), if_neg (by decide), if_neg (by decide), if_neg (by decide)]
section ZC2
variable {d hf pf : Nat} {I J : zF} {P : Int → zF → zF → Prop} {P0 : zF → zF → Prop}
theorem sc_valueAt {w L : Nat} (hw : w < 97) (hk : zc_K w = (20, L)) (hL : L ≤ 100000) {f n m : Int} (hf' : 0 ≤ f ∧ f ≤ 1000) (hn : n32 n) (hm : 0 ≤ m ∧ m ≤ 1000) (hP : P (if (0 ≤ n ∧ n < m) ∧ f + n < (L : Int) then I w (f + n).toNat else -1) I J) : zc_i (d + 1) 53 [.inr (.inr (some w)), .inl f, .inl n, .inl m] hf pf I J P := by
  refine zc_ini (M := ax_m53) rfl (Nat.le_of_ble_eq_true rfl) (zk_Program_valueAt_0 hf pf I J f n m w L hw hk ?_)
  rw [hn.w, zb_w (x := m) (by omega) (by omega), show ax_w 0 = 0 from rfl, zb_w (x := ((L : Nat) : Int)) (by omega) (by omega)]
  refine ⟨fun c => zc_Qi.of ?_, fun c => ⟨fun c2 => ?_, fun c2 => zc_Qi.of ?_⟩⟩
  · rwa [if_neg (by omega)] at hP
  · rw [zb_w (x := f + n) (by omega) (by omega)]
    refine ⟨fun c3 => ⟨by omega, zc_Qi.of ?_⟩, fun c3 => zc_Qi.of ?_⟩
    · rwa [if_pos (by omega)] at hP
    · rwa [if_neg (by omega)] at hP
  · rwa [if_neg (by omega)] at hP
theorem sc_clip {v : Int} (hv : n32 v) (hP : P (pf_clip v) I J) : zc_i (d + 1) 320 [.inl 1000000, .inl v] hf pf I J (fun r5 I2 J3 => zc_i (d + 1) 318 [.inl (-1000000), .inl r5] hf pf I2 J3 P) := by
  have h1 := hv.1
  have h2 := hv.2
  refine sc_min ⟨by decide, by decide⟩ hv (sc_max ⟨by decide, by decide⟩ (by split <;> exact ⟨by omega, by omega⟩) ?_)
  rw [clip_mm]
  exact hP
theorem sc_ofTwo {c a b : Int} (hc : 1 ≤ c ∧ c ≤ 11) (ha : b6 a) (hb : b6 b) (h01 : 10 ≤ c → (a = 0 ∨ a = 1) ∧ (b = 0 ∨ b = 1)) (hP : P (pf_two c a b) I J) : zc_i (d + 2) 54 [.inl (cm c), .inl a, .inl b] hf pf I J P := by
  have ha1 := ha.1
  have ha2 := ha.2
  have hb1 := hb.1
  have hb2 := hb.2
  refine zc_ini (M := ax_m54) rfl (Nat.le_of_ble_eq_true rfl) (zk_Program_ofTwo_0 hf pf I J (cm c) a b ?_)
  rw [ha.n32.w, hb.n32.w, show ax_w 0 = 0 from rfl]
  have hcc : c = 1 ∨ c = 2 ∨ c = 3 ∨ c = 4 ∨ c = 5 ∨ c = 6 ∨ c = 7 ∨ c = 8 ∨ c = 9 ∨ c = 10 ∨ c = 11 := by omega
  rcases hcc with rfl | rfl | rfl | rfl | rfl | rfl | rfl | rfl | rfl | rfl | rfl
  · refine ⟨fun _ => ?_, fun e => absurd rfl e⟩
    refine sc_min ⟨by decide, by decide⟩ ⟨by omega, by omega⟩ (sc_max ⟨by decide, by decide⟩ (by split <;> exact ⟨by omega, by omega⟩) (zc_Qi.of ?_))
    rw [clip_mm]; rwa [pt1] at hP
  · refine ⟨fun e => absurd e (by decide), fun _ => ⟨fun _ => ?_, fun e => absurd rfl e⟩⟩
    refine sc_min ⟨by decide, by decide⟩ ⟨by omega, by omega⟩ (sc_max ⟨by decide, by decide⟩ (by split <;> exact ⟨by omega, by omega⟩) (zc_Qi.of ?_))
    rw [clip_mm]; rwa [pt2] at hP
  · refine ⟨fun e => absurd e (by decide), fun _ => ⟨fun e => absurd e (by decide), fun _ => ⟨fun _ => ?_, fun e => absurd rfl e⟩⟩⟩
    have hm := b6_mul ha hb
    refine sc_minl ⟨by decide, by decide⟩ hm (sc_maxl ⟨by decide, by decide⟩ (by have := hm.1; have := hm.2; split <;> exact ⟨by omega, by omega⟩) (zc_Qi.of ?_))
    rw [clip_mm]; rwa [pt3] at hP
  · refine ⟨fun e => absurd e (by decide), fun _ => ⟨fun e => absurd e (by decide), fun _ => ⟨fun e => absurd e (by decide), fun _ => ⟨fun _ => ⟨fun e => zc_Qi.of ?_, fun e => sc_floorDiv ha hb e (zc_Qi.of (by rwa [pt4] at hP))⟩, fun e => absurd rfl e⟩⟩⟩⟩
    rw [pt4, e, Int.fdiv_zero] at hP
    exact hP
  · refine ⟨fun e => absurd e (by decide), fun _ => ⟨fun e => absurd e (by decide), fun _ => ⟨fun e => absurd e (by decide), fun _ => ⟨fun e => absurd e (by decide), fun _ => ⟨fun e => absurd e (by decide), fun _ => ⟨fun e => absurd e (by decide), fun _ => ⟨fun e => absurd e (by decide), fun _ => ⟨fun e => absurd e (by decide), fun _ => ⟨fun e => absurd e (by decide), fun _ => ⟨fun _ => sc_min ha.n32 hb.n32 (zc_Qi.of ?_), fun e => absurd rfl e⟩⟩⟩⟩⟩⟩⟩⟩⟩⟩
    have : pf_two 5 a b = if b < a then b else a := by rw [pt5]; split <;> split <;> omega
    rw [this] at hP
    exact hP
  · refine ⟨fun e => absurd e (by decide), fun _ => ⟨fun e => absurd e (by decide), fun _ => ⟨fun e => absurd e (by decide), fun _ => ⟨fun e => absurd e (by decide), fun _ => ⟨fun e => absurd e (by decide), fun _ => ⟨fun e => absurd e (by decide), fun _ => ⟨fun e => absurd e (by decide), fun _ => ⟨fun e => absurd e (by decide), fun _ => ⟨fun e => absurd e (by decide), fun _ => ⟨fun e => absurd e (by decide), fun _ => sc_max ha.n32 hb.n32 (zc_Qi.of ?_)⟩⟩⟩⟩⟩⟩⟩⟩⟩⟩
    have : pf_two 6 a b = if a < b then b else a := by rw [pt6]; split <;> split <;> omega
    rw [this] at hP
    exact hP
  · refine ⟨fun e => absurd e (by decide), fun _ => ⟨fun e => absurd e (by decide), fun _ => ⟨fun e => absurd e (by decide), fun _ => ⟨fun e => absurd e (by decide), fun _ => ⟨fun _ => ⟨fun e => zc_Qi.of ?_, fun e => zc_Qi.of ?_⟩, fun e => absurd rfl e⟩⟩⟩⟩⟩
    · rwa [pt7, if_pos e] at hP
    · rwa [pt7, if_neg e] at hP
  · refine ⟨fun e => absurd e (by decide), fun _ => ⟨fun e => absurd e (by decide), fun _ => ⟨fun e => absurd e (by decide), fun _ => ⟨fun e => absurd e (by decide), fun _ => ⟨fun e => absurd e (by decide), fun _ => ⟨fun _ => ⟨fun e => zc_Qi.of ?_, fun e => zc_Qi.of ?_⟩, fun e => absurd rfl e⟩⟩⟩⟩⟩⟩
    · rwa [pt8, if_pos e] at hP
    · rwa [pt8, if_neg e] at hP
  · refine ⟨fun e => absurd e (by decide), fun _ => ⟨fun e => absurd e (by decide), fun _ => ⟨fun e => absurd e (by decide), fun _ => ⟨fun e => absurd e (by decide), fun _ => ⟨fun e => absurd e (by decide), fun _ => ⟨fun e => absurd e (by decide), fun _ => ⟨fun _ => ⟨fun e => zc_Qi.of ?_, fun e => zc_Qi.of ?_⟩, fun e => absurd rfl e⟩⟩⟩⟩⟩⟩⟩
    · rwa [pt9, if_pos e] at hP
    · rwa [pt9, if_neg e] at hP
  · refine ⟨fun e => absurd e (by decide), fun _ => ⟨fun e => absurd e (by decide), fun _ => ⟨fun e => absurd e (by decide), fun _ => ⟨fun e => absurd e (by decide), fun _ => ⟨fun e => absurd e (by decide), fun _ => ⟨fun e => absurd e (by decide), fun _ => ⟨fun e => absurd e (by decide), fun _ => ⟨fun _ => zc_Qi.of ?_, fun e => absurd rfl e⟩⟩⟩⟩⟩⟩⟩⟩
    obtain ⟨p, q⟩ := h01 (by decide)
    have : pf_two 10 a b = ax_and a b := by
      rw [pt10]
      rcases p with rfl | rfl <;> rcases q with rfl | rfl <;> decide
    rw [this] at hP; exact hP
  · refine ⟨fun e => absurd e (by decide), fun _ => ⟨fun e => absurd e (by decide), fun _ => ⟨fun e => absurd e (by decide), fun _ => ⟨fun e => absurd e (by decide), fun _ => ⟨fun e => absurd e (by decide), fun _ => ⟨fun e => absurd e (by decide), fun _ => ⟨fun e => absurd e (by decide), fun _ => ⟨fun e => absurd e (by decide), fun _ => ⟨fun _ => zc_Qi.of ?_, fun e => absurd rfl e⟩⟩⟩⟩⟩⟩⟩⟩⟩
    obtain ⟨p, q⟩ := h01 (by decide)
    have : pf_two 11 a b = ax_or a b := by
      rw [pt11]
      rcases p with rfl | rfl <;> rcases q with rfl | rfl <;> decide
    rw [this] at hP; exact hP
theorem pf_t1_cases {kd : Nat} {c : Int} {ts ts' : List Bool} (h : pf_t1 kd c ts = some ts') : (1000 ≤ c ∧ c ≤ 10999 ∧ ts' = false :: ts) ∨ ((c = 60 ∨ c = 61) ∧ 2 ≤ kd ∧ ∃ r, ts = false :: r ∧ ts' = false :: r) ∨ (40 ≤ c ∧ c ≤ 49 ∧ pf_al kd c = true ∧ ts' = false :: ts) ∨ (c = 13 ∧ ts' = true :: ts) ∨ (c = 12 ∧ ∃ r, ts = true :: r ∧ ts' = true :: r) ∨ (1 ≤ c ∧ c ≤ 11 ∧ ∃ b1 b2 b3 r, ts = b1 :: b2 :: r ∧ ts' = b3 :: r ∧ (10 ≤ c → b1 = true ∧ b2 = true)) := by
  have hal : pf_al kd c = true → 40 ≤ c ∧ c ≤ 61 ∧ (c ≤ 49 ∨ ((c = 60 ∨ c = 61) ∧ 2 ≤ kd)) := by
    intro q
    match kd, q with
    | 0, q => have := of_decide_eq_true q; omega
    | 1, q => have := of_decide_eq_true q; omega
    | k + 2, q => have := of_decide_eq_true q; omega
  unfold pf_t1 at h
  split at h
  · rename_i q
    split at h
    · rename_i q2
      cases h
      exact Or.inl ⟨q, q2, rfl⟩
    · cases h
  · rename_i q
    split at h
    · rename_i q2
      split at h
      · rename_i q3
        have q4 := hal q3
        split at h
        · rename_i q5
          split at h
          · cases h
            exact Or.inr (Or.inl ⟨by omega, by omega, _, rfl, rfl⟩)
          · cases h
        · cases h
          exact Or.inr (Or.inr (Or.inl ⟨by omega, by omega, q3, rfl⟩))
      · cases h
    · rename_i q2
      split at h
      · rename_i q3
        cases h
        exact Or.inr (Or.inr (Or.inr (Or.inl ⟨q3, rfl⟩)))
      · split at h
        · rename_i q4
          split at h
          · cases h
            exact Or.inr (Or.inr (Or.inr (Or.inr (Or.inl ⟨q4, _, rfl, rfl⟩))))
          · cases h
        · split at h
          · split at h
            · cases h
              exact Or.inr (Or.inr (Or.inr (Or.inr (Or.inr ⟨by omega, by omega, _, _, _, _, rfl, rfl, fun w => by omega⟩))))
            · cases h
          · split at h
            · split at h
              · cases h
                exact Or.inr (Or.inr (Or.inr (Or.inr (Or.inr ⟨by omega, by omega, _, _, _, _, rfl, rfl, fun w => by omega⟩))))
              · cases h
            · split at h
              · split at h
                · cases h
                  exact Or.inr (Or.inr (Or.inr (Or.inr (Or.inr ⟨by omega, by omega, _, _, _, _, rfl, rfl, fun _ => ⟨rfl, rfl⟩⟩))))
                · cases h
              · cases h
/-- what a program's values are: parts, lines, letters -/
def cV (kd w : Nat) (v : Int → Int) (q : Int → Int → Int) (I : zF) : Prop := (∀ p, pf_al kd (p + 40) = true → p ≤ 9 → I w p.toNat = v p ∧ b6 (v p)) ∧ (2 ≤ kd → ∀ a, b6 a → (q 0 a = (if (0 ≤ a ∧ a < 8) ∧ 16 + a < ((24 : Nat) : Int) then I w (16 + a).toNat else -1) ∧ q 1 a = (if (0 ≤ a ∧ a < 6) ∧ 10 + a < ((24 : Nat) : Int) then I w (10 + a).toNat else -1))) ∧ (∀ c a, b6 (q c a)) ∧ (∀ p, pf_al kd (p + 40) = true → b6 (v p))
theorem sc_run_l {I0 : zF} {p w kd : Nat} (hp : isP p) (hw : w < 97) (hk : zc_K w = (20, 24)) (hwp : w ≠ p + 2) {v : Int → Int} {q : Int → Int → Int} (hV : cV kd w v q I0) {b : Bool} {en : Int} (hen : I0 p 2 = en) (hen2 : en ≤ 1600) {Q : Option ax_v → ax_S → Prop} : ∀ (cs : List Int) (k : Int) (ts : List Bool) (st : List Int) (I : zF), (∀ i j, i ≠ p + 2 → I i j = I0 i j) → ck I (p + 2) st → pf_ts ts st → ts.length ≤ 40 → pf_tr kd cs ts = some [b] → 0 ≤ k → k + cs.length = en → cc I0 (p + 1) k cs → (∀ I', (∀ i j, i ≠ p + 2 → I' i j = I0 i j) → Q (some (.inl ((pf_run v q cs st).headD 0))) (zc_S hf pf I' J)) → zb_W (d + 2) ax_m52 (4, [some (.inr (.inr (some p))), some (.inr (.inr (some w))), some (.inl ((st.length : Int))), some (.inl k), none, none, none], [], zc_S hf pf I J) Q := by
  intro cs
  induction cs with
  | nil =>
    intro k ts st I hF hc hts hl ht h0 he hcc hQ
    simp only [List.length_nil] at he
    have hp2 : I p 2 = en := by rw [hF p 2 (by omega)]; exact hen
    cases ht
    match st, hts, hc, hQ with
    | [x], hts, hc, hQ =>
      refine zk_Program_run_4 hf pf I J _ k w 24 hw hk p hp ?_
      rw [hp2, zb_w (x := k) (by omega) (by omega), zb_w (x := en) (by omega) (by omega)]
      have hx : I (p + 2) 0 = x := hc.1
      refine ⟨fun c => by omega, fun _ => ⟨fun c => absurd c (show ¬ ax_w ((1 : Nat) : Int) < ax_w 1 by decide), fun _ => ?_⟩⟩
      rw [show (ax_w 0).toNat = 0 from rfl, hx]
      exact hQ I hF
  | cons c cs ih =>
    intro k ts st I hF hc hts hl ht h0 he hcc hQ
    have hlen := pf_ts_len hts
    simp only [List.length_cons] at he
    unfold pf_tr at ht
    split at ht
    case h_2 => cases ht
    rename_i ts1 ht1
    split at ht
    case isFalse => cases ht
    rename_i hl1
    have hts1 := pf_step_ok (fun p hp => hV.2.2.2 p hp) hV.2.2.1 ht1 hts
    have hp2 : I p 2 = en := by rw [hF p 2 (by omega)]; exact hen
    have hst : I (p + 1) k.toNat = cm c := by rw [hF (p + 1) _ (by omega)]; exact hcc.1
    have nxt : ∀ (top : Int) (I1 : zF) (st1 : List Int), (∀ i j, i ≠ p + 2 → I1 i j = I0 i j) → ck I1 (p + 2) st1 → st1 = pf_step v q c st → top = (st1.length : Int) → zb_W (d + 2) ax_m52 (185, [some (.inr (.inr (some p))), some (.inr (.inr (some w))), some (.inl top), some (.inl k), none, none, none], [], zc_S hf pf I1 J) Q := by
      intro top I1 st1 hF1 hc1 e1 e2
      subst e1
      subst e2
      exact zk_Program_run_185 hf pf I1 J _ k w 24 hw hk p (ih (k + 1) ts1 _ I1 hF1 hc1 hts1 hl1 ht (by omega) (by omega) hcc.2 (fun I' a => hQ I' a))
    have fr : ∀ (n : Nat) (x : Int) i j, i ≠ p + 2 → (ax_u I (p + 2) n x) i j = I0 i j := fun n x i j a => by rw [zu_ne (by omega)]; exact hF i j a
    refine zk_Program_run_4 hf pf I J _ k w 24 hw hk p hp ?_
    rw [hp2, zb_w (x := k) (by omega) (by omega), zb_w (x := en) (by omega) (by omega), hst, zb_w (x := (st.length : Int)) (by omega) (by omega)]
    refine ⟨fun _ => ⟨by omega, by omega, ?_⟩, fun c => by omega⟩
    rcases pf_t1_cases ht1 with ⟨q1, q2, q3⟩ | ⟨q1, q2, r, q3, q4⟩ | ⟨q1, q2, q3, q4⟩ | ⟨q1, q2⟩ | ⟨q1, r, q2, q3⟩ | ⟨q1, q2, b1, b2, b3, r, q3, q4, q5⟩
    · -- a number
      have ecm : cm c = (c - 1000) * 16 + 0 := by unfold cm; rw [if_pos q1]; omega
      obtain ⟨n1, n2⟩ := nib (a := c - 1000) (b := 0) (by omega) (by omega)
      rw [ecm, n1, n2]
      subst q3
      simp only [List.length_cons] at hl1
      refine ⟨fun e => absurd e (by decide), fun _ => ⟨fun _ => ⟨fun _ => ⟨by omega, ?_⟩, fun e => absurd rfl e⟩, fun e => absurd (show (st.length : Int) < 64 by omega) e⟩⟩
      rw [Int.toNat_natCast]
      refine nxt _ _ ((c - 1000) :: st) (fr _ _) (ck_put rfl hc) ?_ ?_
      · unfold pf_step; rw [if_pos q1]
      · rw [List.length_cons]; omega
    · -- line, at
      subst q3
      match st, hts, hc, hlen, nxt with
      | x :: s, hts, hc, hlen, nxt =>
        have hx : I (p + 2) s.length = x := hc.1
        have hbx : b6 x := hts.1
        simp only [List.length_cons] at hl hlen
        have et : ((s.length + 1 : Nat) : Int) - 1 = (s.length : Int) := by omega
        rcases q1 with rfl | rfl
        · rw [show ax_and (cm 60) 15 = 3 from by decide, show ax_shr (cm 60) 4 = 0 from by decide]
          simp only [List.length_cons]
          rw [et, zb_w (x := (s.length : Int)) (by omega) (by omega), Int.toNat_natCast, hx]
          refine ⟨fun _ => ⟨fun e => absurd e (by decide), fun _ => ⟨fun e => absurd e (show ¬ ((s.length + 1 : Nat) : Int) < 1 by omega), fun _ => ⟨by omega, fun e => absurd e (by decide), fun _ => ⟨fun _ => sc_valueAt hw hk (by decide) ⟨by decide, by decide⟩ hbx.n32 ⟨by decide, by decide⟩ ⟨by omega, ?_⟩, fun e => absurd trivial e⟩⟩⟩⟩, fun e => absurd (by decide) e⟩
          have hq := (hV.2.1 q2 x hbx).1
          refine nxt _ _ (q 0 x :: s) (fr _ _) ?_ rfl ?_
          · rw [show I w (16 + x).toNat = I0 w (16 + x).toNat from hF w _ hwp, ← hq]
            exact ck_put rfl hc.2
          · rw [List.length_cons]
        · rw [show ax_and (cm 61) 15 = 4 from by decide, show ax_shr (cm 61) 4 = 0 from by decide]
          simp only [List.length_cons]
          rw [et, zb_w (x := (s.length : Int)) (by omega) (by omega), Int.toNat_natCast, hx]
          refine ⟨fun _ => ⟨fun e => absurd e (by decide), fun _ => ⟨fun e => absurd e (show ¬ ((s.length + 1 : Nat) : Int) < 1 by omega), fun _ => ⟨by omega, fun e => absurd e (by decide), fun _ => ⟨fun e => absurd e (by decide), fun _ => sc_valueAt hw hk (by decide) ⟨by decide, by decide⟩ hbx.n32 ⟨by decide, by decide⟩ ⟨by omega, ?_⟩⟩⟩⟩⟩, fun e => absurd (by decide) e⟩
          have hq := (hV.2.1 q2 x hbx).2
          refine nxt _ _ (q 1 x :: s) (fr _ _) ?_ rfl ?_
          · rw [show I w (10 + x).toNat = I0 w (10 + x).toNat from hF w _ hwp, ← hq]
            exact ck_put rfl hc.2
          · rw [List.length_cons]
    · -- a part
      have ecm : cm c = (c - 40) * 16 + 1 := by unfold cm; rw [if_neg (by omega), if_neg (by omega), if_pos q1]
      obtain ⟨n1, n2⟩ := nib (a := c - 40) (b := 1) (by omega) (by omega)
      rw [ecm, n1, n2]
      subst q4
      simp only [List.length_cons] at hl1
      refine ⟨fun e => absurd e (by decide), fun _ => ⟨fun _ => ⟨fun e => absurd e (by decide), fun _ => sc_valueAt hw hk (by decide) ⟨by decide, by decide⟩ ⟨by omega, by omega⟩ ⟨by decide, by decide⟩ ⟨by omega, ?_⟩⟩, fun e => absurd (show (st.length : Int) < 64 by omega) e⟩⟩
      have hal : pf_al kd (c - 40 + 40) = true := by rw [show c - 40 + 40 = c by omega]; exact q3
      have hvv := (hV.1 (c - 40) hal (by omega)).1
      rw [if_pos (by omega), Int.zero_add, hF w _ hwp, hvv, Int.toNat_natCast]
      refine nxt _ _ (v (c - 40) :: st) (fr _ _) (ck_put rfl hc) ?_ ?_
      · unfold pf_step; rw [if_neg (by omega), if_neg (by omega), if_pos q1]
      · rw [List.length_cons]; omega
    · -- all
      subst q1
      subst q2
      simp only [List.length_cons] at hl1
      rw [show ax_and (cm 13) 15 = 0 from by decide, show ax_shr (cm 13) 4 = 1 from by decide]
      refine ⟨fun e => absurd e (by decide), fun _ => ⟨fun _ => ⟨fun _ => ⟨by omega, ?_⟩, fun e => absurd rfl e⟩, fun e => absurd (show (st.length : Int) < 64 by omega) e⟩⟩
      rw [Int.toNat_natCast]
      refine nxt _ _ (1 :: st) (fr _ _) (ck_put rfl hc) rfl ?_
      rw [List.length_cons]; omega
    · -- not
      subst q1
      subst q2
      match st, hts, hc, hlen, nxt with
      | x :: s, hts, hc, hlen, nxt =>
        have hx : I (p + 2) s.length = x := hc.1
        simp only [List.length_cons] at hl hlen
        have et : ((s.length + 1 : Nat) : Int) - 1 = (s.length : Int) := by omega
        rw [show ax_and (cm 12) 15 = 2 from by decide, show ax_shr (cm 12) 4 = 0 from by decide]
        simp only [List.length_cons]
        rw [et, zb_w (x := (s.length : Int)) (by omega) (by omega), Int.toNat_natCast, hx]
        refine ⟨fun _ => ⟨fun e => absurd e (by decide), fun _ => ⟨fun e => absurd e (show ¬ ((s.length + 1 : Nat) : Int) < 1 by omega), fun _ => ⟨by omega, fun _ => ⟨by omega, ?_⟩, fun e => absurd trivial e⟩⟩⟩, fun e => absurd (by decide) e⟩
        refine nxt _ _ ((1 - x) :: s) (fr _ _) (ck_put rfl hc.2) rfl ?_
        rw [List.length_cons]
    · -- two
      subst q3
      match st, hts, hc, hlen, nxt with
      | x :: y :: s, hts, hc, hlen, nxt =>
        have hx : I (p + 2) (s.length + 1) = x := hc.1
        have hy : I (p + 2) s.length = y := hc.2.1
        simp only [List.length_cons] at hl hlen
        have ecm : 5 ≤ cm c ∧ cm c ≤ 15 := by
          unfold cm
          rw [if_neg (by omega), if_neg (by omega), if_neg (by omega), if_neg (by omega), if_neg (by omega)]
          split
          · omega
          · split <;> omega
        obtain ⟨n1, n2⟩ := nib (a := 0) (b := cm c) (by omega) (by omega)
        rw [show (0 : Int) * 16 + cm c = cm c by omega] at n1 n2
        rw [n1, n2]
        simp only [List.length_cons]
        rw [show ((s.length + 1 + 1 : Nat) : Int) + -1 - 1 = (s.length : Int) by omega, show ((s.length + 1 + 1 : Nat) : Int) + -1 = ((s.length + 1 : Nat) : Int) by omega, zb_w (x := (s.length : Int)) (by omega) (by omega), zb_w (x := ((s.length + 1 : Nat) : Int)) (by omega) (by omega), Int.toNat_natCast, Int.toNat_natCast, hx, hy, zb_w (x := cm c) (by omega) (by omega)]
        refine ⟨fun _ => ⟨fun _ => ⟨fun e => absurd e (show ¬ ((s.length + 1 + 1 : Nat) : Int) < 2 by omega), fun _ => ⟨by omega, by omega, sc_ofTwo ⟨q1, q2⟩ hts.2.2.1 hts.1 (fun w => ⟨hts.2.2.2.1 (q5 w).2, hts.2.1 (q5 w).1⟩) ⟨by omega, ?_⟩⟩⟩, fun e => absurd (show (4 : Int) < cm c by omega) e⟩, fun e => absurd (show (1 : Int) < cm c by omega) e⟩
        refine nxt _ _ (pf_two c y x :: s) (fr _ _) (ck_put rfl hc.2.2) ?_ ?_
        · unfold pf_step
          rw [if_neg (by omega), if_neg (by omega), if_neg (by omega), if_neg (by omega), if_neg (by omega)]
        · rw [List.length_cons]
theorem sc_run {p w kd : Nat} (hp : isP p) (hw : w < 97) (hk : zc_K w = (20, 24)) (hwp : w ≠ p + 2) {v : Int → Int} {q : Int → Int → Int} (hV : cV kd w v q I) {b : Bool} {cs : List Int} (hP : cP I p cs) (ht : cs = [] ∨ pf_tr kd cs [] = some [b]) (hPP : ∀ I', (∀ i j, i ≠ p + 2 → I' i j = I i j) → P (pf_res v q cs) I' J) : zc_i (d + 3) 52 [.inr (.inr (some p)), .inr (.inr (some w))] hf pf I J P := by
  refine zc_ini (M := ax_m52) rfl (Nat.le_of_ble_eq_true rfl) (zk_Program_run_0 hf pf I J w 24 hw hk p ?_)
  obtain ⟨h1, h2, h3⟩ := hP
  by_cases e : cs = []
  · subst e
    refine zk_Program_run_4 hf pf I J 0 0 w 24 hw hk p hp ?_
    rw [h1]
    exact ⟨fun c => absurd c (by decide), fun _ => ⟨fun _ => zc_Qi.of (hPP I (fun _ _ _ => rfl)), fun c => absurd (by decide) c⟩⟩
  · have ht' : pf_tr kd cs [] = some [b] := by
      rcases ht with q | q
      · exact absurd q e
      · exact q
    exact sc_run_l hp hw hk hwp hV h1 (by omega) cs 0 [] [] I (fun _ _ _ => rfl) trivial trivial (by decide) ht' (by decide) (by omega) h3 (fun I' a => zc_Qi.of (hPP I' a))
end ZC2
