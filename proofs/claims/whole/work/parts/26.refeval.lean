/-! THE REFERENCE: codesTell, doubtOf, readAs, nearOf, isLost -/
def rv (I : zF) (p : Int) : Int := if p = 0 then I 0 59 else if p = 1 then I 0 60 else if p = 2 then I 0 61 else if p = 3 then I 0 62 else if p = 4 then I 0 63 else if p = 5 then I 0 64 else if p = 6 then I 0 65 else I 40 0
theorem rv_u {I : zF} {x p : Int} : rv (ax_u I 0 112 x) p = rv I p := by
  unfold rv
  simp (disch := omega) only [zu_ne]
theorem rE.uI {I0 J0 I J : zF} (h : rE I0 J0 I J) {j : Nat} {x : Int} (hj : j = 56 ∨ (59 ≤ j ∧ j ≤ 65) ∨ j = 112) : rE I0 J0 (ax_u I 0 j x) J := ⟨fun a b k => by rw [zu_ne (by omega)]; exact h.1 a b k, h.2⟩
theorem rE.uJ {I0 J0 I J : zF} (h : rE I0 J0 I J) {j : Nat} {x : Int} : rE I0 J0 I (ax_u J 77 j x) := ⟨h.1, fun a b k => by rw [zu_ne (by omega)]; exact h.2 a b k⟩
theorem pf_al_lt {kd : Nat} (hkd : kd < 2) {c : Int} (h : pf_al kd c = true) : 40 ≤ c ∧ c ≤ 47 := by
  match kd, hkd with
  | 0, _ => have := of_decide_eq_true h; omega
  | 1, _ => have := of_decide_eq_true h; omega
theorem pf_res_ok {kd : Nat} {v : Int → Int} {q : Int → Int → Int} (hv : ∀ p, pf_al kd (p + 40) = true → b6 (v p)) (hq : ∀ c a, b6 (q c a)) {cs : List Int} {b : Bool} (ht : pf_tr kd cs [] = some [b]) : b6 (pf_res v q cs) ∧ (b = true → pf_res v q cs = 0 ∨ pf_res v q cs = 1) := by
  have h := pf_run_ok hv hq cs [] [b] [] ht trivial
  unfold pf_res
  match hr : pf_run v q cs [], h with
  | [x], h => exact ⟨h.1, h.2.1⟩
theorem q0_b : ∀ c a, b6 (pf_q0 c a) := fun _ _ => ⟨show (-1000000 : Int) ≤ 0 by decide, show (0 : Int) ≤ 1000000 by decide⟩
section ZR3
variable {d : Nat} {I J : zF} {D : zD} {pg : zG} {P : Int → zF → zF → Prop} {P0 : zF → zF → Prop}
theorem sr_qPartOf {kd : Nat} (hkd : kd < 2) {p i : Int} (hal : pf_al kd (p + 40) = true) (h56 : I 0 56 = (kd : Int)) (hb : n32 (rv I p)) (hP : P (rv I p) I J) : zr_l (d + 1) 300 [.inr (.inr (some 0)), .inl p, .inl i] I J P := by
  have hp := pf_al_lt hkd hal
  refine zr_inl (M := ax_m300) rfl (Nat.le_of_ble_eq_true rfl) (zq_qPartOf_0 I J p i ?_)
  rw [h56]
  have hc : p = 0 ∨ p = 1 ∨ p = 2 ∨ p = 3 ∨ p = 4 ∨ p = 5 ∨ p = 6 ∨ p = 7 := by omega
  rcases hc with rfl | rfl | rfl | rfl | rfl | rfl | rfl | rfl
  · have e : rv I 0 = I 0 59 := rfl
    rw [e] at hb hP
    rw [hb.w]
    exact ⟨fun _ => zr_Ql.of hP, fun e => absurd rfl e⟩
  · have e : rv I 1 = I 0 60 := rfl
    rw [e] at hb hP
    rw [hb.w]
    exact ⟨fun e => absurd e (by decide), fun _ => ⟨fun _ => zr_Ql.of hP, fun e => absurd rfl e⟩⟩
  · have e : rv I 2 = I 0 61 := rfl
    rw [e] at hb hP
    rw [hb.w, zb_w (x := (kd : Int)) (by omega) (by omega), zb_w (x := 2) (by omega) (by omega)]
    exact ⟨fun e => absurd e (by decide), fun _ => ⟨fun e => absurd e (by decide), fun _ => ⟨fun _ => ⟨fun e => by omega, fun _ => zr_Ql.of hP⟩, fun e => absurd rfl e⟩⟩⟩
  · have e : rv I 3 = I 0 62 := rfl
    rw [e] at hb hP
    rw [hb.w]
    exact ⟨fun e => absurd e (by decide), fun _ => ⟨fun e => absurd e (by decide), fun _ => ⟨fun e => absurd e (by decide), fun _ => ⟨fun _ => zr_Ql.of hP, fun e => absurd rfl e⟩⟩⟩⟩
  · have e : rv I 4 = I 0 63 := rfl
    rw [e] at hb hP
    rw [hb.w]
    exact ⟨fun e => absurd e (by decide), fun _ => ⟨fun e => absurd e (by decide), fun _ => ⟨fun e => absurd e (by decide), fun _ => ⟨fun e => absurd e (by decide), fun _ => ⟨fun _ => zr_Ql.of hP, fun e => absurd rfl e⟩⟩⟩⟩⟩
  · have e : rv I 5 = I 0 64 := rfl
    rw [e] at hb hP
    rw [hb.w]
    exact ⟨fun e => absurd e (by decide), fun _ => ⟨fun e => absurd e (by decide), fun _ => ⟨fun e => absurd e (by decide), fun _ => ⟨fun e => absurd e (by decide), fun _ => ⟨fun e => absurd e (by decide), fun _ => ⟨fun _ => zr_Ql.of hP, fun e => absurd rfl e⟩⟩⟩⟩⟩⟩
  · have e : rv I 6 = I 0 65 := rfl
    rw [e] at hb hP
    rw [hb.w]
    exact ⟨fun e => absurd e (by decide), fun _ => ⟨fun e => absurd e (by decide), fun _ => ⟨fun e => absurd e (by decide), fun _ => ⟨fun e => absurd e (by decide), fun _ => ⟨fun e => absurd e (by decide), fun _ => ⟨fun e => absurd e (by decide), fun _ => ⟨fun _ => zr_Ql.of hP, fun e => absurd rfl e⟩⟩⟩⟩⟩⟩⟩
  · have e : rv I 7 = I 40 0 := rfl
    rw [e] at hb hP
    rw [show (ax_w 0).toNat = 0 from rfl, hb.w]
    exact ⟨fun e => absurd e (by decide), fun _ => ⟨fun e => absurd e (by decide), fun _ => ⟨fun e => absurd e (by decide), fun _ => ⟨fun e => absurd e (by decide), fun _ => ⟨fun e => absurd e (by decide), fun _ => ⟨fun e => absurd e (by decide), fun _ => ⟨fun e => absurd e (by decide), fun _ => ⟨fun _ => zr_Ql.of hP, fun e => absurd rfl e⟩⟩⟩⟩⟩⟩⟩⟩
theorem b6.n32 {x : Int} (h : b6 x) : n32 x := ⟨by have := h.1; omega, by have := h.2; omega⟩
theorem sr_codesTell_l {I0 J0 : zF} {kd : Nat} (hkd : kd < 2) {v : Int → Int} {Q : Option ax_v → ax_S → Prop} {b : Bool} {en : Int} (hen : I0 38 (2 + (kd : Int)).toNat = en) (hen2 : en ≤ 1600) : ∀ (cs : List Int) (a : Int) (ts : List Bool) (st : List Int) (I J : zF), rE I0 J0 I J → I 0 56 = (kd : Int) → I 0 112 = ((st.length : Nat) : Int) → rk J st → pf_ts ts st → ts.length ≤ 40 → pf_tr kd cs ts = some [b] → 0 ≤ a → a + cs.length = en → rc I0 a cs → (∀ p, pf_al kd (p + 40) = true → rv I p = v p ∧ b6 (v p)) → (∀ I' J', rE I0 J0 I' J' → Q (some (.inr (.inl ((pf_run v pf_q0 cs st).headD 0)))) (zr_S I' J')) → zb_W (d + 2) ax_m223 (19, [some (.inr (.inr (some 0))), some (.inl (kd : Int)), some (.inl a), none], [], zr_S I J) Q := by
  intro cs
  induction cs with
  | nil =>
    intro a ts st I J hE h56 h112 hk hts hl ht h0 he hc hv hQ
    refine zq_codesTell_19 I J (kd : Int) a ?_
    rw [zb_w (x := 2 + (kd : Int)) (by omega) (by omega), hE.1 38 _ (by omega), hen]
    simp only [List.length_nil] at he
    simp (disch := omega) only [zb_w]
    refine ⟨by omega, fun c => by omega, fun _ => ?_⟩
    cases ht
    match st, hts, hk with
    | [x], hts, hk =>
      have := hQ I J hE
      have h0' : J 77 0 = x := hk.1
      rw [show (0 : Int).toNat = 0 from rfl, h0']
      exact this
  | cons c cs ih =>
    intro a ts st I J hE h56 h112 hk hts hl ht h0 he hc hv hQ
    have hlen := pf_ts_len hts
    simp only [List.length_cons] at he
    unfold pf_tr at ht
    split at ht
    case h_2 => cases ht
    rename_i ts1 ht1
    split at ht
    case isFalse => cases ht
    rename_i hl1
    have hts1 := pf_step_ok (fun p hp => (hv p hp).2) q0_b ht1 hts
    refine zq_codesTell_19 I J (kd : Int) a ?_
    rw [zb_w (x := 2 + (kd : Int)) (by omega) (by omega), hE.1 38 _ (by omega), hen, zb_w (x := a) (by omega) (by omega), zb_w (x := en) (by omega) (by omega), zb_w (x := 1600 + a) (by omega) (by omega), hE.1 39 _ (by omega), hc.1]
    have hcr : 1 ≤ c ∧ c ≤ 10999 := by
      unfold pf_t1 at ht1
      split at ht1
      · split at ht1
        · omega
        · cases ht1
      · split at ht1
        · split at ht1
          · rename_i hal; have := pf_al_lt hkd hal; omega
          · cases ht1
        · split at ht1
          · omega
          · split at ht1
            · omega
            · split at ht1
              · omega
              · split at ht1
                · omega
                · split at ht1
                  · omega
                  · cases ht1
    rw [zb_w (x := c) (by omega) (by omega)]
    simp (disch := omega) only [zb_w]
    -- pushing
    have push : ∀ x, pf_step v pf_q0 c st = x :: st → ts1.length = ts.length + 1 → zr_v (d + 2) 298 [.inr (.inr (some 0)), .inr (.inl x)] I J (fun I' J' => zb_W (d + 2) ax_m223 (136, [some (.inr (.inr (some 0))), some (.inl (kd : Int)), some (.inl a), none], [], zr_S I' J') Q) := by
      intro x hx htl
      refine sr_qPuts h112 (by omega) (zq_codesTell_136 _ _ (kd : Int) a ?_)
      refine ih (a + 1) ts1 (x :: st) _ _ (hE.uI (by omega)).uJ (by rw [zu_ne (by omega)]; exact h56) (by rw [zu_eq]; simp) (rk_put rfl hk) (by rw [← hx]; exact hts1) hl1 ht (by omega) (by omega) hc.2 (fun p hp => by rw [rv_u]; exact hv p hp) (fun I' J' h' => ?_)
      have := hQ I' J' h'
      unfold pf_run at this
      rw [hx] at this
      exact this
    refine ⟨by omega, fun _ => ⟨by omega, ⟨fun c1 => ⟨fun c2 => ⟨fun c3 => ?_, fun c3 => ⟨fun c4 => ?_, fun c4 => ?_⟩⟩, fun c2 => ?_⟩, fun c1 => ?_⟩⟩, fun q => by omega⟩
    · -- all
      subst c3
      refine push 1 rfl ?_
      cases ht1
      rfl
    · -- not
      subst c4
      unfold pf_t1 at ht1
      rw [if_neg (by omega), if_neg (by omega), if_neg (by omega), if_pos rfl] at ht1
      split at ht1
      case h_2 => cases ht1
      cases ht1
      match st, hts, hk with
      | x :: r, hts, hk =>
        simp only [List.length_cons] at h112
        rw [h112, show (((r.length + 1 : Nat) : Int) - 1) = ((r.length : Nat) : Int) by omega, Int.toNat_natCast, hk.1]
        have hl2 : r.length < 1700 := by have := hlen; simp only [List.length_cons] at this hl; omega
        refine ⟨by omega, by omega, zq_codesTell_136 _ _ (kd : Int) a ?_⟩
        refine ih (a + 1) _ ((1 - x) :: r) I _ hE.uJ h56 (by rw [h112]; simp) (rk_put rfl hk.2) hts1 hl1 ht (by omega) (by omega) hc.2 hv (fun I' J' h' => ?_)
        exact hQ I' J' h'
    · -- joins
      have hst : ∃ x y r, st = x :: y :: r ∧ pf_step v pf_q0 c st = pf_two c y x :: r ∧ b6 x ∧ b6 y ∧ ts1.length + 1 = ts.length ∧ (1 ≤ c ∧ c ≤ 11) := by
        unfold pf_t1 at ht1
        rw [if_neg (by omega), if_neg (by omega), if_neg c3, if_neg c4] at ht1
        have h3 : ∀ x y r, st = x :: y :: r → pf_step v pf_q0 c st = pf_two c y x :: r := by
          intro x y r e
          subst e
          unfold pf_step
          rw [if_neg (by omega), if_neg (by omega), if_neg (by omega), if_neg c3, if_neg c4]
        split at ht1
        · split at ht1
          case h_2 => cases ht1
          cases ht1
          match st, hts, h3 with
          | x :: y :: r, hts, h3 => exact ⟨x, y, r, rfl, h3 x y r rfl, hts.1, hts.2.2.1, rfl, by omega⟩
        · split at ht1
          · split at ht1
            case h_2 => cases ht1
            cases ht1
            match st, hts, h3 with
            | x :: y :: r, hts, h3 => exact ⟨x, y, r, rfl, h3 x y r rfl, hts.1, hts.2.2.1, rfl, by omega⟩
          · split at ht1
            · split at ht1
              case h_2 => cases ht1
              cases ht1
              match st, hts, h3 with
              | x :: y :: r, hts, h3 => exact ⟨x, y, r, rfl, h3 x y r rfl, hts.1, hts.2.2.1, rfl, by omega⟩
            · cases ht1
      obtain ⟨x, y, r, rfl, hx, hbx, hby, htl, hcc⟩ := hst
      simp only [List.length_cons] at h112 hlen
      refine sr_qJoins (n := r.length) h112 (by omega) hk.2.1 hk.1 hby hbx hcc (zq_codesTell_136 _ _ (kd : Int) a ?_)
      refine ih (a + 1) ts1 (pf_two c y x :: r) _ _ ((hE.uI (by omega)).uI (by omega)).uJ (by rw [zu_ne (by omega), zu_ne (by omega)]; exact h56) (by rw [zu_eq]; simp) (rk_put rfl hk.2.2) (by rw [← hx]; exact hts1) hl1 ht (by omega) (by omega) hc.2 (fun p hp => by rw [rv_u, rv_u]; exact hv p hp) (fun I' J' h' => ?_)
      have := hQ I' J' h'
      unfold pf_run at this
      rw [hx] at this
      exact this
    · -- part
      have hal : pf_al kd c = true := by
        unfold pf_t1 at ht1
        rw [if_neg (by omega), if_pos (by omega)] at ht1
        split at ht1
        · assumption
        · cases ht1
      have hlt := pf_al_lt hkd hal
      have hal' : pf_al kd (c - 40 + 40) = true := by rw [show c - 40 + 40 = c by omega]; exact hal
      have hvp := hv (c - 40) hal'
      have hvp1 := hvp.1
      refine sr_qPartOf (p := c - 40) hkd hal' h56 (by rw [hvp1]; exact hvp.2.n32) ?_
      rw [hvp1]
      refine push (v (c - 40)) ?_ ?_
      · unfold pf_step
        rw [if_neg (by omega), if_neg (by omega), if_pos (by omega)]
      · unfold pf_t1 at ht1
        rw [if_neg (by omega), if_pos (by omega), if_pos hal, if_neg (by omega)] at ht1
        cases ht1
        rfl
    · -- number
      refine push (c - 1000) ?_ ?_
      · unfold pf_step
        rw [if_pos (by omega)]
      · unfold pf_t1 at ht1
        rw [if_pos (by omega), if_pos (by omega)] at ht1
        cases ht1
        rfl
theorem sr_codesTell {kd : Nat} (hkd : kd < 2) {v : Int → Int} {b : Bool} {cs df : List Int} (hp : rP I (kd : Int) df cs) (h37 : I 37 (2 + (kd : Int)).toNat ≠ -1) (ht : pf_tr kd cs [] = some [b]) (hv : ∀ p, pf_al kd (p + 40) = true → rv I p = v p ∧ b6 (v p)) (hP : ∀ I' J', rE I J I' J' → P (pf_res v pf_q0 cs) I' J') : zr_l (d + 3) 223 [.inr (.inr (some 0)), .inl (kd : Int)] I J P := by
  refine zr_inl (M := ax_m223) rfl (Nat.le_of_ble_eq_true rfl) (zq_codesTell_0 I J (kd : Int) ?_)
  rcases hp with h | ⟨a, b', c, e⟩
  · exact absurd h.1 h37
  rw [zb_w (x := 2 + (kd : Int)) (by omega) (by omega), zu_ne (by omega), zu_ne (by omega)]
  refine ⟨by omega, sr_codesTell_l (I0 := I) (J0 := J) hkd rfl c cs _ [] [] _ _ (((rE.refl I J).uI (by omega)).uI (by omega)) (by rw [zu_ne (by omega), zu_eq]) (by rw [zu_eq]; rfl) trivial trivial (by decide) ht a b'.symm e.1 (fun p hp => ?_) (fun I' J' h' => zr_Ql.of (hP I' J' h'))⟩
  rw [rv_u]
  have : rv (ax_u I 0 56 (kd : Int)) p = rv I p := by
    unfold rv
    simp (disch := omega) only [zu_ne]
  rw [this]
  exact hv p hp
end ZR3
