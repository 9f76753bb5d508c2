/-! THE REFERENCE: doubtOf, readAs, nearOf, isLost -/
theorem pf_clip_id {x : Int} (h : b6 x) : pf_clip x = x := by
  have h1 := h.1
  have h2 := h.2
  unfold pf_clip
  rw [if_neg (by omega), if_neg (by omega)]
theorem pf_res_dd {v : Int → Int} (h0 : 0 ≤ v 0 ∧ v 0 ≤ 32767) (h1 : 0 ≤ v 1 ∧ v 1 ≤ 32767) : pf_res v pf_q0 pf_dd = v 0 + 2 * v 1 := by
  have e : pf_res v pf_q0 pf_dd = pf_clip (v 0 + pf_clip (v 1 * 2)) := by simp [pf_res, pf_dd, pf_run, pf_step, pf_two]
  rw [e, pf_clip_id (x := v 1 * 2) ⟨by omega, by omega⟩, pf_clip_id ⟨by omega, by omega⟩]
  omega
theorem pf_vd_b {a b c : Int} (ha : 0 ≤ a ∧ a ≤ 32767) (hb : 0 ≤ b ∧ b ≤ 32767) (hc : 0 ≤ c ∧ c ≤ 32767) (p : Int) : b6 (pf_vd a b c p) := by
  unfold pf_vd b6
  split
  · omega
  · split <;> omega
/-- a glyph's doubt by its three numbers -/
def pf_dw (pg : zG) (m l n : Int) : Int := if pf_res (pf_vd m l n) pf_q0 (pg 0) < 0 then 0 else pf_res (pf_vd m l n) pf_q0 (pg 0)
theorem pf_doubt_eq (D : zD) (pg : zG) (h k g : Int) : pf_doubt D pg h k g = pf_dw pg (pf_bits (ax_and g (ax_xor (D 2 h k) (-1)))) (pf_bits (ax_and (D 2 h k) (ax_xor g (-1)))) (pf_bits (D 2 h k)) := rfl
theorem pf_dw_in {D : zD} {pg : zG} (ok : zD_ok D pg) {a b c : Int} (ha : 0 ≤ a ∧ a ≤ 32767) (hb : 0 ≤ b ∧ b ≤ 32767) (hc : 0 ≤ c ∧ c ≤ 32767) : b6 (pf_res (pf_vd a b c) pf_q0 (pg 0)) := (pf_res_ok (kd := 0) (fun p _ => pf_vd_b ha hb hc p) q0_b ok.2.2.1).1
theorem pf_doubt_in {D : zD} {pg : zG} (ok : zD_ok D pg) (h k g : Int) : 0 ≤ pf_doubt D pg h k g ∧ pf_doubt D pg h k g ≤ 1000000 := by
  rw [pf_doubt_eq]
  have := pf_dw_in ok (pf_bits_b (ax_and g (ax_xor (D 2 h k) (-1)))) (pf_bits_b (ax_and (D 2 h k) (ax_xor g (-1)))) (pf_bits_b (D 2 h k))
  unfold pf_dw
  have h1 := this.1
  have h2 := this.2
  split
  · omega
  · omega
section ZR4
variable {d : Nat} {I J : zF} {D : zD} {pg : zG} {P : Int → zF → zF → Prop} {P0 : zF → zF → Prop}
theorem sr_doubtOf (hS : rS D pg I) {h k g : Int} (hh : 0 ≤ h ∧ h < 2) (hk : 0 ≤ k ∧ k < D 0 h 0) (hg : g15 g) (hP : ∀ I' J', rE I J I' J' → P (pf_doubt D pg h k g) I' J') : zr_i (d + 4) 224 [.inr (.inr (some 0)), .inl h, .inl k, .inl g] I J P := by
  have a2 := hS.ok.a2 h k
  refine zr_ini (M := ax_m224) rfl (Nat.le_of_ble_eq_true rfl) (zq_doubtOf_0 I J h k g (sr_glyphOf hS hh hk (sr_bits (g15_andn hg a2.g31) (sr_bits (g15_andn a2 hg.g31) (sr_bits a2 ?_)))))
  have b1 := pf_bits_b (ax_and g (ax_xor (D 2 h k) (-1)))
  have b2 := pf_bits_b (ax_and (D 2 h k) (ax_xor g (-1)))
  have b3 := pf_bits_b (D 2 h k)
  rw [pf_doubt_eq] at hP
  revert b1 b2 b3 hP
  generalize pf_bits (ax_and g (ax_xor (D 2 h k) (-1))) = m
  generalize pf_bits (ax_and (D 2 h k) (ax_xor g (-1))) = l
  generalize pf_bits (D 2 h k) = n
  intro hP b1 b2 b3
  have hE : rE I J (ax_u (ax_u (ax_u I 0 59 m) 0 60 l) 0 61 n) J := (((rE.refl I J).uI (by omega)).uI (by omega)).uI (by omega)
  have h59 : (ax_u (ax_u (ax_u I 0 59 m) 0 60 l) 0 61 n) 0 59 = m := by rw [zu_ne (by omega), zu_ne (by omega), zu_eq]
  have h60 : (ax_u (ax_u (ax_u I 0 59 m) 0 60 l) 0 61 n) 0 60 = l := by rw [zu_ne (by omega), zu_eq]
  have h61 : (ax_u (ax_u (ax_u I 0 59 m) 0 60 l) 0 61 n) 0 61 = n := zu_eq
  revert hE h59 h60 h61
  generalize ax_u (ax_u (ax_u I 0 59 m) 0 60 l) 0 61 n = I1
  intro hE h59 h60 h61
  have hS1 := hE.rS hS
  have hb := pf_dw_in hS.ok b1 b2 b3
  rw [h59, h60, show (ax_w 2).toNat = 2 from rfl, zb_w (x := m) (by omega) (by omega), zb_w (x := l) (by omega) (by omega)]
  unfold pf_dw at hP
  rcases hS1.p0 with ⟨e1, e2⟩ | hr
  · have e1' : I1 37 2 = -1 := e1
    rw [e1']
    rw [e2, pf_res_dd (v := pf_vd m l n) b1 b2] at hP
    have hP2 : ∀ I' J', rE I J I' J' → P (if m + 2 * l < 0 then 0 else m + 2 * l) I' J' := hP
    rw [if_neg (by omega)] at hP2
    refine ⟨fun _ => ⟨fun c => ?_, fun c => zr_Qi.of (hP2 _ _ hE)⟩, fun c => absurd rfl c⟩
    rw [zb_lc_lt ⟨by omega, by omega⟩ ⟨by decide, by decide⟩] at c
    omega
  · have hne : I1 37 2 ≠ -1 := by
      have : 0 ≤ I1 37 2 := hr.1
      omega
    have hle : I1 37 2 ≤ 1600 := by
      have h2 : I1 38 2 = I1 37 2 + (pg 0).length := hr.2.1
      have h3 : I1 38 2 ≤ 1600 := hr.2.2.1
      omega
    have hge : 0 ≤ I1 37 2 := hr.1
    rw [zb_w (x := I1 37 2) (by omega) (by omega)]
    refine ⟨fun c => absurd c hne, fun _ => sr_codesTell (kd := 0) (v := pf_vd m l n) (b := false) (by decide) hS1.p0 hne hS.ok.2.2.1 (fun p hp => ?_) (fun I' J' hE' => ?_)⟩
    · have hp' := of_decide_eq_true hp
      refine ⟨?_, pf_vd_b b1 b2 b3 p⟩
      unfold rv pf_vd
      rw [h59, h60, h61]
      have : p = 0 ∨ p = 1 ∨ p = 2 := by omega
      rcases this with rfl | rfl | rfl <;> rfl
    · rw [zb_lc_lt (y := 0) hb.n64 ⟨by decide, by decide⟩]
      have hq := hP I' J' (hE.trans hE')
      refine ⟨fun c => ?_, fun c => ?_⟩
      · rw [if_pos c] at hq; exact zr_Qi.of hq
      · rw [if_neg c] at hq; exact zr_Qi.of hq
theorem sr_readAs_l {I0 J0 : zF} (hS0 : rS D pg I0) {h g : Int} (hh : 0 ≤ h ∧ h < 2) (hg : g15 g) {Q : Option ax_v → ax_S → Prop} : ∀ (n : Nat) (k b lst l f : Int) (I J : zF), rE I0 J0 I J → 0 ≤ k → k + n = D 0 h 0 → ((b = -1 ∧ l = D 8 0 0 + 1 ∧ f = 0) ∨ (0 ≤ b ∧ b < D 0 h 0 ∧ f = D 1 h b ∧ l = lst ∧ lst ≤ D 8 0 0 ∧ 0 ≤ lst)) → (∀ I' J', rE I0 J0 I' J' → Q (some (.inl (pf_readL D pg h g n k l f))) (zr_S I' J')) → zb_W (d + 4) ax_m225 (8, [some (.inr (.inr (some 0))), some (.inl h), some (.inl g), some (.inl b), some (.inl lst), some (.inl k), none], [], zr_S I J) Q := by
  have hb := hS0.ok.a0 h 0
  have h8 := hS0.ok.a8 0 0
  intro n
  induction n with
  | zero =>
    intro k b lst l f I J hE h0 he hi hQ
    have hS := hE.rS hS0
    refine zq_readAs_8 I J h g b lst k ?_
    rw [zb_w (x := b) (by omega) (by omega)]
    simp (disch := omega) only [zb_w, hS.cn hh]
    refine ⟨by omega, fun c => by omega, fun _ => ⟨fun c => ?_, fun c => ?_⟩⟩
    · have hf : f = 0 := by omega
      have := hQ I J hE
      unfold pf_readL at this
      rw [hf] at this
      exact this
    · have hf : 0 ≤ b ∧ b < D 0 h 0 ∧ f = D 1 h b := by omega
      refine sr_nameOf hS hh ⟨hf.1, hf.2.1⟩ ?_
      have := hQ I J hE
      unfold pf_readL at this
      rw [hf.2.2] at this
      exact this
  | succ n ih =>
    intro k b lst l f I J hE h0 he hi hQ
    have hS := hE.rS hS0
    have hd := pf_doubt_in hS0.ok h k g
    refine zq_readAs_8 I J h g b lst k ?_
    rw [zb_w (x := b) (by omega) (by omega)]
    simp (disch := omega) only [zb_w, hS.cn hh]
    refine ⟨by omega, fun c => sr_doubtOf hS hh ⟨h0, c⟩ hg (fun I2 J2 hE2 => ?_), fun c => by omega⟩
    have hE3 := hE.trans hE2
    have hS3 := hE3.rS hS0
    rw [show (3 : Int).toNat = 3 from rfl, (hS3.rl (ndE hh (by omega))).1, zb_w (x := pf_doubt D pg h k g) (by omega) (by omega), zb_w (x := D 8 0 0) (by omega) (by omega)]
    unfold pf_readL at hQ
    have yes : pf_doubt D pg h k g ≤ D 8 0 0 → pf_doubt D pg h k g < l → zb_W (d + 4) ax_m225 (57, [some (.inr (.inr (some 0))), some (.inl h), some (.inl g), none, none, some (.inl k), some (.inl (pf_doubt D pg h k g))], [], zr_S I2 J2) Q := by
      intro q1 q2
      rw [if_pos q2] at hQ
      exact zq_readAs_57 I2 J2 h g k _ (zq_readAs_64 I2 J2 h g k _ k (ih (k + 1) k _ _ _ I2 J2 hE3 (by omega) (by omega) (Or.inr ⟨h0, c, rfl, rfl, q1, hd.1⟩) hQ))
    have no : ¬ pf_doubt D pg h k g < l → zb_W (d + 4) ax_m225 (64, [some (.inr (.inr (some 0))), some (.inl h), some (.inl g), some (.inl b), some (.inl lst), some (.inl k), none], [], zr_S I2 J2) Q := by
      intro q2
      rw [if_neg q2] at hQ
      exact zq_readAs_64 I2 J2 h g b lst k (ih (k + 1) b lst l f I2 J2 hE3 (by omega) (by omega) hi hQ)
    refine ⟨fun q => no (by omega), fun q => ⟨fun q2 => yes (by omega) (by omega), fun q2 => ?_⟩⟩
    rw [zb_w (x := lst) (by omega) (by omega)]
    exact ⟨fun q3 => yes (by omega) (by omega), fun q3 => no (by omega)⟩
theorem sr_readAs (hS : rS D pg I) {h g : Int} (hh : 0 ≤ h ∧ h < 2) (hg : g15 g) (hP : ∀ I' J', rE I J I' J' → P (pf_read D pg h g) I' J') : zr_i (d + 5) 225 [.inr (.inr (some 0)), .inl h, .inl g] I J P := by
  have hb := hS.ok.a0 h 0
  exact zr_ini (M := ax_m225) rfl (Nat.le_of_ble_eq_true rfl) (zq_readAs_0 I J h g (sr_readAs_l hS hh hg (D 0 h 0).toNat 0 (-1) 0 (D 8 0 0 + 1) 0 I J (rE.refl I J) (by omega) (by omega) (Or.inl ⟨rfl, rfl, rfl⟩) (fun I' J' hE => zr_Qi.of (hP I' J' hE))))
theorem pf_readL_in {ok : zD_ok D pg} {h g : Int} : ∀ (n : Nat) (k l f : Int), 0 ≤ f ∧ f ≤ 26 → 0 ≤ pf_readL D pg h g n k l f ∧ pf_readL D pg h g n k l f ≤ 26 := by
  intro n
  induction n with
  | zero => intro k l f hf; exact hf
  | succ n ih =>
    intro k l f hf
    unfold pf_readL
    split
    · exact ih _ _ _ (ok.a1 h k)
    · exact ih _ _ _ hf
theorem pf_read_in (ok : zD_ok D pg) (h g : Int) : 0 ≤ pf_read D pg h g ∧ pf_read D pg h g ≤ 26 := pf_readL_in (ok := ok) _ _ _ _ ⟨by decide, by decide⟩
theorem ite_p {c : Prop} {dc : Decidable c} {x : Int} (h : c) : (if c then x else 0) = x := if_pos h
theorem sr_nearOf {g i : Int} (hi : 0 ≤ i ∧ i < 15) (hP : P (pf_near g i) I J) : zr_i (d + 1) 226 [.inr (.inr (some 0)), .inl g, .inl (i / 3), .inl (i % 3)] I J P := by
  have e : 3 * (i / 3) + i % 3 = i := by omega
  have k64 : ∀ a, P (a + (if i % 3 < 2 then ax_and (ax_shr g (i + 1)) 1 else 0)) I J → zb_W d ax_m226 (64, [none, some (.inl g), some (.inl (i / 3)), some (.inl (i % 3)), some (.inl a)], [], zr_S I J) (zr_Qi P) := by
    intro a h
    refine zq_nearOf_64 I J g (i / 3) (i % 3) a ?_
    rw [e]
    simp (disch := omega) only [zb_w]
    refine ⟨fun c => ?_, fun c => ?_⟩
    · rw [if_pos c] at h; exact zr_Qi.of h
    · rw [if_neg c, Int.add_zero] at h; exact zr_Qi.of h
  have k44 : ∀ a, P (a + (if 0 < i % 3 then ax_and (ax_shr g (i - 1)) 1 else 0) + (if i % 3 < 2 then ax_and (ax_shr g (i + 1)) 1 else 0)) I J → zb_W d ax_m226 (44, [none, some (.inl g), some (.inl (i / 3)), some (.inl (i % 3)), some (.inl a)], [], zr_S I J) (zr_Qi P) := by
    intro a h
    refine zq_nearOf_44 I J g (i / 3) (i % 3) a ?_
    rw [e]
    simp (disch := omega) only [zb_w]
    refine ⟨fun c => k64 _ ?_, fun c => k64 _ ?_⟩
    · rw [if_pos c] at h; exact h
    · rw [if_neg c, Int.add_zero] at h; exact h
  have k23 : ∀ a, P (a + (if i < 12 then ax_and (ax_shr g (i + 3)) 1 else 0) + (if 0 < i % 3 then ax_and (ax_shr g (i - 1)) 1 else 0) + (if i % 3 < 2 then ax_and (ax_shr g (i + 1)) 1 else 0)) I J → zb_W d ax_m226 (23, [none, some (.inl g), some (.inl (i / 3)), some (.inl (i % 3)), some (.inl a)], [], zr_S I J) (zr_Qi P) := by
    intro a h
    refine zq_nearOf_23 I J g (i / 3) (i % 3) a ?_
    rw [e]
    simp (disch := omega) only [zb_w]
    refine ⟨fun c => k44 _ ?_, fun c => k44 _ ?_⟩
    · rw [if_pos (show i < 12 by omega)] at h; exact h
    · rw [if_neg (show ¬ i < 12 by omega), Int.add_zero] at h; exact h
  refine zr_ini (M := ax_m226) rfl (Nat.le_of_ble_eq_true rfl) (zq_nearOf_0 I J g (i / 3) (i % 3) ?_)
  rw [e]
  simp (disch := omega) only [zb_w]
  unfold pf_near at hP
  refine ⟨fun c => k23 _ ?_, fun c => k23 _ ?_⟩
  · rw [if_pos (show 3 ≤ i by omega)] at hP; rw [Int.zero_add]; exact hP
  · rw [if_neg (show ¬ 3 ≤ i by omega)] at hP; exact hP
theorem bit01' (g i : Int) : 0 ≤ ax_and (ax_shr g i) 1 ∧ ax_and (ax_shr g i) 1 ≤ 1 := by
  have h : ∀ x : BitVec 32, (x &&& 1#32).toInt = 0 ∨ (x &&& 1#32).toInt = 1 := by
    intro x
    rw [BitVec.toInt_eq_toNat_of_lt (by have : (x &&& 1#32).toNat ≤ 1 := by rw [BitVec.toNat_and]; exact Nat.and_le_right
                                        omega), BitVec.toNat_and]
    have : x.toNat &&& (1#32).toNat = x.toNat % 2 := Nat.and_one_is_mod _
    rw [this]
    omega
  unfold ax_and
  have h2 := h (Int32.ofInt (ax_shr g i)).toBitVec
  have e : (Int32.ofInt (ax_shr g i) &&& Int32.ofInt 1).toInt = ((Int32.ofInt (ax_shr g i)).toBitVec &&& 1#32).toInt := rfl
  rw [e]
  omega
theorem pf_near_in (g i : Int) : 0 ≤ pf_near g i ∧ pf_near g i ≤ 4 := by
  unfold pf_near
  have h1 := bit01' g (i - 3)
  have h2 := bit01' g (i + 3)
  have h3 := bit01' g (i - 1)
  have h4 := bit01' g (i + 1)
  split <;> split <;> split <;> split <;> omega
theorem sr_isLost (hS : rS D pg I) (h37 : I 37 3 ≠ -1) {g i place year : Int} (hy : I 40 0 = year) (hy2 : 0 ≤ year ∧ year ≤ 999) (hi : 0 ≤ i ∧ i < 15) (hp : 0 ≤ place ∧ place < 6) (hP : ∀ I' J', rE I J I' J' → P (if pf_lost pg g i place year = 1 then 1 else 0) I' J') : zr_i (d + 4) 227 [.inr (.inr (some 0)), .inl g, .inl i, .inl place] I J P := by
  have et : Int.tdiv i 3 = i / 3 := Int.tdiv_eq_ediv_of_nonneg hi.1
  have em : Int.tmod i 3 = i % 3 := Int.tmod_eq_emod_of_nonneg hi.1
  refine zr_ini (M := ax_m227) rfl (Nat.le_of_ble_eq_true rfl) (zq_isLost_0 I J g i place ?_)
  rw [zb_w (x := i) (by omega) (by omega), zb_w (x := 3) (by omega) (by omega)]
  rw [et, em]
  have e63 : (ax_u (ax_u (ax_u I 0 63 (i / 3)) 0 62 (i % 3)) 0 64 place) 0 63 = i / 3 := by rw [zu_ne (by omega), zu_ne (by omega), zu_eq]
  have e62 : (ax_u (ax_u (ax_u I 0 63 (i / 3)) 0 62 (i % 3)) 0 64 place) 0 62 = i % 3 := by rw [zu_ne (by omega), zu_eq]
  rw [e63, e62]
  refine sr_nearOf hi ?_
  have hE : rE I J (ax_u (ax_u (ax_u (ax_u I 0 63 (i / 3)) 0 62 (i % 3)) 0 64 place) 0 65 (pf_near g i)) J := ((((rE.refl I J).uI (by omega)).uI (by omega)).uI (by omega)).uI (by omega)
  have f3 : (ax_u (ax_u (ax_u (ax_u I 0 63 (i / 3)) 0 62 (i % 3)) 0 64 place) 0 65 (pf_near g i)) 0 63 = i / 3 := by rw [zu_ne (by omega)]; exact e63
  have f2 : (ax_u (ax_u (ax_u (ax_u I 0 63 (i / 3)) 0 62 (i % 3)) 0 64 place) 0 65 (pf_near g i)) 0 62 = i % 3 := by rw [zu_ne (by omega)]; exact e62
  have f4 : (ax_u (ax_u (ax_u (ax_u I 0 63 (i / 3)) 0 62 (i % 3)) 0 64 place) 0 65 (pf_near g i)) 0 64 = place := by rw [zu_ne (by omega), zu_eq]
  have f5 : (ax_u (ax_u (ax_u (ax_u I 0 63 (i / 3)) 0 62 (i % 3)) 0 64 place) 0 65 (pf_near g i)) 0 65 = pf_near g i := zu_eq
  revert hE f2 f3 f4 f5
  generalize ax_u (ax_u (ax_u (ax_u I 0 63 (i / 3)) 0 62 (i % 3)) 0 64 place) 0 65 (pf_near g i) = I1
  intro hE f3 f2 f4 f5
  have hS1 := hE.rS hS
  have h40 : I1 40 0 = year := by rw [hE.1 40 0 (by omega)]; exact hy
  have hne : I1 37 3 ≠ -1 := by rw [hE.1 37 3 (by omega)]; exact h37
  have hn := pf_near_in g i
  have hvb : ∀ p, b6 (pf_vr (i % 3) (i / 3) place (pf_near g i) year p) := by
    intro p
    unfold pf_vr b6
    split
    · omega
    · split
      · omega
      · split
        · omega
        · split <;> omega
  have ht : pf_tr 1 (pg 1) [] = some [true] := by
    rcases hS.ok.2.2.2.1 with q | q
    · rcases hS1.p1 with r | r
      · exact absurd r.1 hne
      · exact absurd q r.2.2.2.2
    · exact q
  have hres := pf_res_ok (kd := 1) (v := pf_vr (i % 3) (i / 3) place (pf_near g i) year) (q := pf_q0) (fun p _ => hvb p) q0_b ht
  refine sr_codesTell (kd := 1) (v := pf_vr (i % 3) (i / 3) place (pf_near g i) year) (b := true) (by decide) hS1.p1 hne ht (fun p hp => ?_) (fun I' J' hE' => ?_)
  · have hp' := of_decide_eq_true hp
    refine ⟨?_, hvb p⟩
    unfold rv pf_vr
    rw [f2, f3, f4, f5, h40]
    have : p = 3 ∨ p = 4 ∨ p = 5 ∨ p = 6 ∨ p = 7 := by omega
    rcases this with rfl | rfl | rfl | rfl | rfl <;> rfl
  · rw [zb_lc_eq (y := 1) hres.1.n64 ⟨by decide, by decide⟩]
    have hq := hP I' J' (hE.trans hE')
    unfold pf_lost at hq
    refine ⟨fun c => ?_, fun c => ?_⟩
    · rw [if_pos c] at hq; exact zr_Qi.of hq
    · rw [if_neg c] at hq; exact zr_Qi.of hq
end ZR4
