/-! THE REFERENCE: seen, codes, doubt, reading, rain's test -/
theorem pf_to_rc {how r c : Int} (hc : 0 ≤ c ∧ c < 3) : pf_to how (3 * r + c) = 3 * (if how = 1 ∨ how = 2 then 4 - r else r) + (if how = 1 ∨ how = 3 then 2 - c else c) := by
  unfold pf_to
  rw [show (3 * r + c) / 3 = r by omega, show (3 * r + c) % 3 = c by omega]
section ZR2
variable {d : Nat} {I J : zF} {D : zD} {pg : zG} {P : Int → zF → zF → Prop} {P0 : zF → zF → Prop}
theorem sr_seenBy_l {g how : Int} (hg : g15 g) (hw : n32 how) {Q : Option ax_v → ax_S → Prop} : ∀ (m : Nat) (r c t : Int), 0 ≤ r → 0 ≤ c → c < 3 → 3 * r + c + m = 15 → 1 ≤ m → Q (some (.inl (pf_seenL g how m (3 * r + c) t))) (zr_S I J) → zb_W d ax_m222 (12, [some (.inl g), some (.inl how), some (.inl t), some (.inl r), some (.inl c), none, none], [], zr_S I J) Q := by
  intro m
  induction m with
  | zero => intro r c t _ _ _ _ h; omega
  | succ m ih =>
    intro r c t h0 h1 h2 he _ hQ
    have key : ∀ t', Q (some (.inl (pf_seenL g how m (3 * r + c + 1) t'))) (zr_S I J) → zb_W d ax_m222 (86, [some (.inl g), some (.inl how), some (.inl t'), some (.inl r), some (.inl c), none, none], [], zr_S I J) Q := by
      intro t' hQ'
      refine zq_seenBy_86 I J g how t' r c ?_
      by_cases hc : c < 2
      · exact ih r (c + 1) t' h0 (by omega) (by omega) (by omega) (by omega) (by rw [show 3 * r + (c + 1) = 3 * r + c + 1 by omega]; exact hQ')
      · refine zq_seenBy_12 I J g how t' r (c + 1) ⟨fun c1 => ?_, fun _ => zq_seenBy_4 I J g how t' (r + 1) ?_⟩
        · rw [zb_w (by omega) (by omega), zb_w (by omega) (by omega)] at c1; omega
        · rw [zb_w (x := r + 1) (by omega) (by omega), zb_w (x := 5) (by omega) (by omega)]
          refine ⟨fun c2 => ?_, fun c2 => ?_⟩
          · exact ih (r + 1) 0 t' (by omega) (by omega) (by omega) (by omega) (by omega) (by rw [show 3 * (r + 1) + 0 = 3 * r + c + 1 by omega]; exact hQ')
          · have hm : m = 0 := by omega
            subst hm
            exact hQ'
    unfold pf_seenL at hQ
    rw [pf_to_rc ⟨h1, h2⟩] at hQ
    refine zq_seenBy_12 I J g how t r c ?_
    have hb := bit01 hg.g31 (i := 3 * r + c) ⟨by omega, by omega⟩
    rw [hw.w, zb_w (x := ax_and (ax_shr g (3 * r + c)) 1) (by omega) (by omega)]
    simp (disch := omega) only [zb_w]
    refine ⟨fun _ => ⟨fun e => ?_, fun e => ?_⟩, fun c => by omega⟩
    · rw [if_pos e] at hQ; exact key t hQ
    · rw [if_neg e] at hQ
      refine ⟨fun e1 => ?_, fun e1 => ⟨fun e2 => ?_, fun e2 => ⟨fun e3 => by omega, fun _ => ⟨fun e3 => ?_, fun e3 => ?_⟩⟩⟩⟩
      · refine zq_seenBy_44 I J g how t r c ?_
        rw [hw.w]
        simp (disch := omega) only [zb_w]
        refine ⟨fun _ => zq_seenBy_63 I J g how t r c (4 - r) (key _ ?_), fun e2 => by omega⟩
        rw [if_pos (Or.inl e1), if_pos (Or.inl e1)] at hQ
        exact hQ
      · refine zq_seenBy_44 I J g how t r c ?_
        rw [hw.w]
        simp (disch := omega) only [zb_w]
        refine ⟨fun e2 => by omega, fun _ => ⟨fun e3 => by omega, fun _ => key _ ?_⟩⟩
        rw [if_pos (Or.inr e2), if_neg (by omega)] at hQ
        exact hQ
      · refine zq_seenBy_63 I J g how t r c r (key _ ?_)
        rw [if_neg (by omega), if_pos (Or.inr e3)] at hQ
        exact hQ
      · refine key _ ?_
        rw [if_neg (by omega), if_neg (by omega)] at hQ
        exact hQ
theorem sr_seenBy {g how : Int} (hg : g15 g) (hw : n32 how) (hP : P (pf_seen g how) I J) : zr_i (d + 1) 222 [.inl g, .inl how] I J P := by
  refine zr_ini (M := ax_m222) rfl (Nat.le_of_ble_eq_true rfl) (zq_seenBy_0 I J g how (zq_seenBy_4 I J g how 0 0 ⟨fun _ => ?_, fun c => absurd (by decide) c⟩))
  exact sr_seenBy_l hg hw 15 0 0 0 (by decide) (by decide) (by decide) (by decide) (by decide) (zr_Qi.of hP)
/-! codes -/
def rk (J : zF) : List Int → Prop
  | [] => True
  | x :: r => J 77 r.length = x ∧ rk J r
theorem rk_up {J : zF} {n : Nat} {x : Int} : ∀ {st : List Int}, st.length ≤ n → rk J st → rk (ax_u J 77 n x) st := by
  intro st
  induction st with
  | nil => intro _ _; trivial
  | cons y r ih =>
    intro hl h
    simp only [List.length_cons] at hl
    exact ⟨by rw [zu_ne (by omega)]; exact h.1, ih (by omega) h.2⟩
theorem rk_put {J : zF} {n : Nat} {x : Int} {st : List Int} (hn : st.length = n) (h : rk J st) : rk (ax_u J 77 n x) (x :: st) := by
  subst hn
  exact ⟨zu_eq, rk_up (Nat.le_refl _) h⟩
theorem sr_qClip {v : Int} (hv : n64 v) {P : Int → zF → zF → Prop} (hP : P (pf_clip v) I J) : zr_l (d + 1) 296 [.inr (.inl v)] I J P := by
  refine zr_inl (M := ax_m296) rfl (Nat.le_of_ble_eq_true rfl) (zq_qClip_0 I J v ?_)
  rw [zb_lc_gt hv ⟨by decide, by decide⟩, zb_lc_lt hv ⟨by decide, by decide⟩]
  unfold pf_clip at hP
  refine ⟨fun c => ?_, fun c => ⟨fun c2 => ?_, fun c2 => ?_⟩⟩
  · rw [if_pos c] at hP; exact zr_Ql.of hP
  · rw [if_neg c, if_pos c2] at hP; exact zr_Ql.of hP
  · rw [if_neg c, if_neg c2] at hP; exact zr_Ql.of hP
theorem zb_lc_eq {x y : Int} (hx : n64 x) (hy : n64 y) : ax_w (ax_lcmp x y) = ax_w 0 ↔ x = y := by
  unfold ax_lcmp
  rw [hx.w, hy.w]
  split
  · rename_i h; exact ⟨fun q => absurd q (by decide), fun q => by omega⟩
  · split
    · rename_i h; exact ⟨fun _ => h, fun _ => rfl⟩
    · rename_i h; exact ⟨fun q => absurd q (by decide), fun q => absurd q h⟩
theorem b6.n64 {x : Int} (h : b6 x) : n64 x := ⟨by have := h.1; omega, by have := h.2; omega⟩
theorem tmod_b {a b : Int} (h : b6 a) : n64 (Int.tmod a b) := by
  have h1 : (Int.tmod a b).natAbs ≤ a.natAbs := by rw [Int.natAbs_tmod]; exact Nat.mod_le _ _
  have := h.1
  have := h.2
  exact ⟨by omega, by omega⟩
theorem sr_qFloor {a b : Int} (ha : b6 a) (hb : b6 b) (hP : P (Int.fdiv a b) I J) : zr_l (d + 1) 297 [.inr (.inl a), .inr (.inl b)] I J P := by
  refine zr_inl (M := ax_m297) rfl (Nat.le_of_ble_eq_true rfl) (zq_qFloor_0 I J a b ?_)
  rw [ha.n64.w, hb.n64.w, zb_lc_eq hb.n64 ⟨by decide, by decide⟩, zb_lc_eq (tmod_b ha) ⟨by decide, by decide⟩, zb_lc_lt ha.n64 ⟨by decide, by decide⟩, zb_lc_lt hb.n64 ⟨by decide, by decide⟩]
  refine ⟨fun c => ?_, fun c => ⟨c, c, ⟨fun c2 => ?_, fun c2 => ?_⟩⟩⟩
  · subst c; rw [Int.fdiv_zero] at hP; exact zr_Ql.of hP
  · rw [Int.fdiv_eq_tdiv, if_pos (Int.dvd_of_tmod_eq_zero c2), Int.sub_zero] at hP
    exact zr_Ql.of hP
  · rw [Int.fdiv_eq_tdiv, if_neg (fun q => c2 (Int.tmod_eq_zero_of_dvd q))] at hP
    refine ⟨fun c3 => ⟨fun c4 => ⟨fun _ => ?_, fun e => absurd rfl e⟩, fun c4 => ⟨fun e => absurd e (by decide), fun _ => ?_⟩⟩, fun c3 => ⟨fun c4 => ⟨fun e => absurd e (by decide), fun _ => ?_⟩, fun c4 => ⟨fun _ => ?_, fun e => absurd rfl e⟩⟩⟩
    · rw [if_neg (by omega), if_neg (by omega), Int.sign_eq_neg_one_of_neg c4, show (1 : Int) + -1 = 0 from rfl, Int.sub_zero] at hP; exact zr_Ql.of hP
    · rw [if_neg (by omega), if_pos (by omega), Int.sign_eq_one_of_pos (by omega)] at hP; exact zr_Ql.of hP
    · rw [if_pos (by omega), if_neg (by omega)] at hP; exact zr_Ql.of hP
    · rw [if_pos (by omega), if_pos (by omega), Int.sub_zero] at hP; exact zr_Ql.of hP
theorem sr_qPuts {n : Nat} {v : Int} (hn : I 0 112 = (n : Int)) (hl : n < 1700) (hP : P0 (ax_u I 0 112 ((n : Int) + 1)) (ax_u J 77 n v)) : zr_v (d + 1) 298 [.inr (.inr (some 0)), .inr (.inl v)] I J P0 := by
  refine zr_inv (M := ax_m298) rfl (Nat.le_of_ble_eq_true rfl) (zq_qPuts_0 I J v ?_)
  rw [hn, zb_w (by omega) (by omega), Int.toNat_natCast]
  exact ⟨by omega, zr_Qv.of hP⟩
theorem b6_mul {a b : Int} (ha : b6 a) (hb : b6 b) : n64 (a * b) := by
  have h1 : (a * b).natAbs ≤ 1000000 * 1000000 := by
    rw [Int.natAbs_mul]
    exact Nat.mul_le_mul (by have := ha.1; have := ha.2; omega) (by have := hb.1; have := hb.2; omega)
  exact ⟨by omega, by omega⟩
theorem sr_qJoins {n : Nat} {a b c : Int} (hn : I 0 112 = ((n + 2 : Nat) : Int)) (hl : n < 1600) (hja : J 77 n = a) (hjb : J 77 (n + 1) = b) (ha : b6 a) (hb : b6 b) (hc : 1 ≤ c ∧ c ≤ 11) (hP : P0 (ax_u (ax_u I 0 112 (n : Int)) 0 112 ((n : Int) + 1)) (ax_u J 77 n (pf_two c a b))) : zr_v (d + 2) 299 [.inr (.inr (some 0)), .inl c] I J P0 := by
  refine zr_inv (M := ax_m299) rfl (Nat.le_of_ble_eq_true rfl) (zq_qJoins_0 I J c ?_)
  have e1 : (ax_w (I 0 112 - 1)) = ((n + 1 : Nat) : Int) := by rw [hn, zb_w (by omega) (by omega)]; omega
  have e2 : (ax_w (I 0 112 - 2)) = ((n : Nat) : Int) := by rw [hn, zb_w (by omega) (by omega)]; omega
  have e3 : I 0 112 - 2 = (n : Int) := by rw [hn]; omega
  rw [e1, e2, e3, Int.toNat_natCast, Int.toNat_natCast, hja, hjb, zb_w (x := c) (by omega) (by omega)]
  have p : ∀ v, v = pf_two c a b → zr_v (d + 1) 298 [.inr (.inr (some 0)), .inr (.inl v)] (ax_u I 0 112 (n : Int)) J (fun I' J' => zr_Qv P0 none (zr_S I' J')) := by
    intro v e
    subst e
    exact sr_qPuts zu_eq (by omega) (zr_Qv.of hP)
  have hab : n64 (a + b) := ⟨by have := ha.1; have := hb.1; omega, by have := ha.2; have := hb.2; omega⟩
  have hsb : n64 (a - b) := ⟨by have := ha.1; have := hb.2; omega, by have := ha.2; have := hb.1; omega⟩
  refine ⟨by omega, by omega, ⟨fun c1 => ?_, fun c1 => ⟨fun c2 => ?_, fun c2 => ⟨fun c3 => ?_, fun c3 => ⟨fun c4 => ?_, fun c4 => ⟨fun c5 => ?_, fun c5 => ⟨fun c6 => ?_, fun c6 => ⟨fun c7 => ?_, fun c7 => ⟨fun c8 => ?_, fun c8 => ⟨fun c9 => ?_, fun c9 => ⟨fun c10 => ?_, fun c10 => ?_⟩⟩⟩⟩⟩⟩⟩⟩⟩⟩⟩
  · exact sr_qClip hab (p _ (by unfold pf_two; rw [if_pos c1]))
  · exact sr_qClip hsb (p _ (by unfold pf_two; rw [if_neg c1, if_pos c2]))
  · exact sr_qClip (b6_mul ha hb) (p _ (by unfold pf_two; rw [if_neg c1, if_neg c2, if_pos c3]))
  · exact sr_qFloor ha hb (p _ (by unfold pf_two; rw [if_neg c1, if_neg c2, if_neg c3, if_pos c4]))
  · rw [zb_lc_lt ha.n64 hb.n64]
    exact ⟨fun q => p _ (by unfold pf_two; rw [if_neg c1, if_neg c2, if_neg c3, if_neg c4, if_pos c5, if_pos q]), fun q => p _ (by unfold pf_two; rw [if_neg c1, if_neg c2, if_neg c3, if_neg c4, if_pos c5, if_neg q])⟩
  · rw [zb_lc_gt ha.n64 hb.n64]
    exact ⟨fun q => p _ (by unfold pf_two; rw [if_neg c1, if_neg c2, if_neg c3, if_neg c4, if_neg c5, if_pos c6, if_pos q]), fun q => p _ (by unfold pf_two; rw [if_neg c1, if_neg c2, if_neg c3, if_neg c4, if_neg c5, if_pos c6, if_neg q])⟩
  · rw [zb_lc_lt ha.n64 hb.n64]
    exact ⟨fun q => p _ (by unfold pf_two; rw [if_neg c1, if_neg c2, if_neg c3, if_neg c4, if_neg c5, if_neg c6, if_pos c7, if_pos q]), fun q => p _ (by unfold pf_two; rw [if_neg c1, if_neg c2, if_neg c3, if_neg c4, if_neg c5, if_neg c6, if_pos c7, if_neg q])⟩
  · rw [zb_lc_gt ha.n64 hb.n64]
    exact ⟨fun q => p _ (by unfold pf_two; rw [if_neg c1, if_neg c2, if_neg c3, if_neg c4, if_neg c5, if_neg c6, if_neg c7, if_pos c8, if_pos q]), fun q => p _ (by unfold pf_two; rw [if_neg c1, if_neg c2, if_neg c3, if_neg c4, if_neg c5, if_neg c6, if_neg c7, if_pos c8, if_neg q])⟩
  · rw [zb_lc_eq ha.n64 hb.n64]
    exact ⟨fun q => p _ (by unfold pf_two; rw [if_neg c1, if_neg c2, if_neg c3, if_neg c4, if_neg c5, if_neg c6, if_neg c7, if_neg c8, if_pos c9, if_pos q]), fun q => p _ (by unfold pf_two; rw [if_neg c1, if_neg c2, if_neg c3, if_neg c4, if_neg c5, if_neg c6, if_neg c7, if_neg c8, if_pos c9, if_neg q])⟩
  · exact p _ (by unfold pf_two; rw [if_neg c1, if_neg c2, if_neg c3, if_neg c4, if_neg c5, if_neg c6, if_neg c7, if_neg c8, if_neg c9, if_pos c10])
  · rw [zb_lc_gt hab ⟨by decide, by decide⟩]
    exact ⟨fun q => p _ (by unfold pf_two; rw [if_neg c1, if_neg c2, if_neg c3, if_neg c4, if_neg c5, if_neg c6, if_neg c7, if_neg c8, if_neg c9, if_neg c10, if_pos q]), fun q => p _ (by unfold pf_two; rw [if_neg c1, if_neg c2, if_neg c3, if_neg c4, if_neg c5, if_neg c6, if_neg c7, if_neg c8, if_neg c9, if_neg c10, if_neg q])⟩
end ZR2
