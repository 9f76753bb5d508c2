/-! OPERATIONS, BOTH SIDES: the acting ones -/
def bp (c : Nat) (st : Nat → Int) : Nat → Int := fun j => if j = c then st j + 1 else st j
theorem chS_31 {D : zD} : ∀ (n : Nat) (s : Int), s31 s → s31 (pf_chS D n s) := by
  intro n
  induction n with
  | zero => intro s h; exact h
  | succ n ih => intro s h; exact ih _ (by unfold pf_cS; split; exact pf_next_in _; exact pf_next_in _)
section ZOPB
variable {D : zD} {pg : zG} {W : zD} {U : Nat → zD} {u s : Int} {T : Nat → Int} {n : Int} {l : List Int} {e f : Int} {st : Nat → Int} {I J : zF} {hf pf : Nat}
theorem rB_fr (h : rB D pg W I) {I' : zF} (g : ∀ i j, 32 ≤ i → i ≤ 40 → I' i j = I i j) (h0 : I' 0 45 = I 0 45) (h1 : I' 0 48 = I 0 48) : rB D pg W I' := ⟨rS_cong h.S (fun i j a b _ => g i j a (by omega)) h0 h1, h.W, by rw [show I' 40 = I 40 from funext (fun j => g 40 j (by decide) (by decide))]; exact h.2.2⟩
theorem cB_fr (h : cB D pg W hf I) {I' : zF} (g : ∀ i j, i = 13 ∨ 39 ≤ i → I' i j = I i j) : cB D pg W hf I' := ⟨cS_cong h.S (fun i j q => by unfold cLk at q; exact g i j (by omega)) (g _ _ (by omega)) (fun j => g _ _ (by omega)) (g _ _ (by omega)) (fun j => g _ _ (by omega)), h.2.1, by rw [show I' 13 = I 13 from funext (fun j => g 13 j (by omega))]; exact h.2.2⟩
theorem RR_gen (h : RR D pg W U u s T n l e f st I J) {D' : zD} {pg' : zG} {W' : zD} {U' : Nat → zD} {u' s' : Int} {T' : Nat → Int} {n' : Int} {l' : List Int} {e' f' : Int} {st' : Nat → Int} {I' J' : zF} (hB : rB D' pg' W' I') (hU : uR D' U' u' I') (hJ : J' 0 80 = s' ∧ s31 s') (hT : tR T' n' I') (hO : oR l' I' ∧ l'.length ≤ 59) (hE : I' 0 7 = e' ∧ I' 0 8 = f') (hS : ∀ j, j < 6 → I' 2 j = st' j) (g : ∀ i j, (i = 0 ∧ j = 66) ∨ (3 ≤ i ∧ i ≤ 30) ∨ (51 ≤ i ∧ i ≤ 74) → I' i j = I i j) : RR D' pg' W' U' u' s' T' n' l' e' f' st' I' J' := by
  refine ⟨hB, hU, by rw [g 0 66 (by omega)]; exact h.2.2.1, hJ, hT, hO, rW_cong h.2.2.2.2.2.2.1 (fun i j q1 q2 q3 q4 => g i j ?_), hE, hS⟩
  have := kch i q3 (congrArg Prod.fst q4)
  omega
theorem RR_ref (h : RR D pg W U u s T n l e f st I J) {c : Nat} : RR D pg W U u s T n l e f (bp c st) (ax_u I 2 c (I 2 c + 1)) J := by
  have k := h.2.2.2.2.2.2.2
  refine RR_gen h (rB_fr h.1 (fun i j a b => zu_ne (by omega)) (zu_ne (by omega)) (zu_ne (by omega))) (uR_cong h.2.1 (fun j => zu_ne (by omega)) (zu_ne (by omega)) (zu_ne (by omega))) h.2.2.2.1 ⟨by rw [zu_ne (by omega)]; exact h.2.2.2.2.1.1, h.2.2.2.2.1.2.1, fun j hj => by rw [zu_ne (by omega)]; exact h.2.2.2.2.1.2.2 j hj⟩ ⟨⟨by rw [zu_ne (by omega)]; exact h.2.2.2.2.2.1.1.1, fun q hq => by rw [zu_ne (by omega)]; exact h.2.2.2.2.2.1.1.2 q hq⟩, h.2.2.2.2.2.1.2⟩ ⟨by rw [zu_ne (by omega)]; exact k.1.1, by rw [zu_ne (by omega)]; exact k.1.2⟩ (fun j hj => ?_) (fun i j q => zu_ne (by omega))
  have hs := k.2 j hj
  unfold bp
  by_cases q : j = c
  · rw [if_pos q, ← q, zu_eq, hs]
  · rw [if_neg q, zu_ne (by omega)]; exact hs
theorem CC_ref (h : CC D pg W U u s T n l e f st hf pf I J) {c : Nat} : CC D pg W U u s T n l e f (bp c st) hf pf (ax_u I 38 c (I 38 c + 1)) J := by
  obtain ⟨a1, a2, a3, a4, a5, a6, a7, a8, a9, b1⟩ := h
  refine ⟨a1, cB_fr a2 (fun i j q => zu_ne (by omega)), cM_cong (fun i j q => zu_ne (by omega)) a3, uC_cong a4 (zu_ne (by omega)) (zu_ne (by omega)) (fun i j _ _ => zu_ne (by omega)), a5, ⟨by rw [zu_ne (by omega)]; exact a6.1, a6.2.1, fun j hj => by rw [zu_ne (by omega)]; exact a6.2.2 j hj⟩, ⟨⟨by rw [zu_ne (by omega)]; exact a7.1.1, fun q hq => by rw [zu_ne (by omega)]; exact a7.1.2 q hq⟩, a7.2⟩, ⟨by rw [zu_ne (by omega)]; exact a8.1, by rw [zu_ne (by omega)]; exact a8.2⟩, fun j hj => ?_, fun j q1 q2 => by rw [zu_ne (by omega)]; exact b1 j q1 q2⟩
  have hs := a9 j hj
  unfold bp
  by_cases q : j = c
  · rw [if_pos q, ← q, zu_eq, hs]
  · rw [if_neg q, zu_ne (by omega)]; exact hs
theorem RR_cut (h : RR D pg W U u s T n l e f st I J) {m : Int} (hm : 0 ≤ m ∧ m ≤ n) : RR D pg W U u s T m l e f st (ax_u I 0 1 m) J := by
  have k := h.2.2.2.2.2.2.2
  have t := h.2.2.2.2.1.2.1
  exact RR_gen h (rB_0 h.1 (by decide)) (uR_cong h.2.1 (fun j => zu_ne (by omega)) (zu_ne (by omega)) (zu_ne (by omega))) h.2.2.2.1 ⟨zu_eq, by omega, fun j hj => by rw [zu_ne (by omega)]; exact h.2.2.2.2.1.2.2 j (by omega)⟩ ⟨⟨by rw [zu_ne (by omega)]; exact h.2.2.2.2.2.1.1.1, fun q hq => by rw [zu_ne (by omega)]; exact h.2.2.2.2.2.1.1.2 q hq⟩, h.2.2.2.2.2.1.2⟩ ⟨by rw [zu_ne (by omega)]; exact k.1.1, by rw [zu_ne (by omega)]; exact k.1.2⟩ (fun j hj => by rw [zu_ne (by omega)]; exact k.2 j hj) (fun i j q => zu_ne (by omega))
theorem CC_cut (h : CC D pg W U u s T n l e f st hf pf I J) {m : Int} (hm : 0 ≤ m ∧ m ≤ n) : CC D pg W U u s T m l e f st hf pf (ax_u I 1 1 m) J := by
  obtain ⟨a1, a2, a3, a4, a5, a6, a7, a8, a9, b1⟩ := h
  have t := a6.2.1
  exact ⟨a1, cB_fr a2 (fun i j q => zu_ne (by omega)), cM_cong (fun i j q => zu_ne (by omega)) a3, uC_cong a4 (zu_ne (by omega)) (zu_ne (by omega)) (fun i j _ _ => zu_ne (by omega)), a5, ⟨zu_eq, by omega, fun j hj => by rw [zu_ne (by omega)]; exact a6.2.2 j (by omega)⟩, ⟨⟨by rw [zu_ne (by omega)]; exact a7.1.1, fun q hq => by rw [zu_ne (by omega)]; exact a7.1.2 q hq⟩, a7.2⟩, ⟨by rw [zu_ne (by omega)]; exact a8.1, by rw [zu_ne (by omega)]; exact a8.2⟩, fun j hj => by rw [zu_ne (by omega)]; exact a9 j hj, fun j q1 q2 => by rw [zu_ne (by omega)]; exact b1 j q1 q2⟩
theorem RR_do (h : RR D pg W U u s T n l e f st I J) {W' : zD} {U' : Nat → zD} {u' s' : Int} {I2 I' J2 J' : zF} (hK : rK I I2) (hX : rX I2 J2 I' J') (hB : rB D pg W' I') (hU : uR D U' u' I') {J3 : zF} (hJ : J3 0 80 = s' ∧ s31 s') : RR D pg W' U' u' s' T n l e f st I' J3 := RR_mk h hB hU (fun i j q => (hX.1 i j (by omega) (by omega) (by omega)).trans (hK i j (by omega) (by omega))) hJ
theorem CC_do (h : CC D pg W U u s T n l e f st hf pf I J) {W' : zD} {U' : Nat → zD} {u' s' : Int} {I' : zF} (hA : cA hf I I') (hB : cB D pg W' hf I') (hU : uC D U' u' I') {J3 : zF} (hJ : J3 0 9 = s' ∧ s31 s') : CC D pg W' U' u' s' T n l e f st hf pf I' J3 := by
  have h1 := h.1
  exact CC_mk h h.1 hB (cM_cong (fun i j q => hA i j (by omega) (by omega) (by omega) (by omega) (by omega)) h.2.2.1) hU (fun i j q => hA i j (by omega) (by omega) (by omega) (by omega) (by omega)) hJ
theorem bo_years {m : Int} (hm : n32 m) : ∃ x D' pg' W' U' u' s' T' n' l' e' f' st', bo 269 149 [.inl m] (.inl x) (ZZ D pg W U u s T n l e f st) (ZZ D' pg' W' U' u' s' T' n' l' e' f' st') := by
  by_cases c : (1 ≤ m ∧ m ≤ 100) ∧ W 0 0 0 + m ≤ 999
  · exact ⟨pf_yl D pg m.toNat W 0, D, pg, pf_yearsN D pg m.toNat W, consU W U, (if u < 20 then u + 1 else u), s, T, n, l, e, f, st, fun I J h => toRi (sr_years (d := 41) h.1 h.2.1 h.2.2.1 hm (fun q => absurd c q) (fun _ I' J' I2 k1 k2 k3 k4 => ⟨rfl, RR_do h k1 k2 k3 k4 ⟨k2.2.trans h.2.2.2.1.1, h.2.2.2.1.2⟩⟩)), fun hf pf I J h => toCi (sc_years (d := 42) h.1 h.2.1 h.2.2.2.1 hm (fun q => absurd c q) (fun _ I' k1 k2 k3 => ⟨rfl, CC_do (pf := pf) h k1 k2 k3 h.2.2.2.2.1⟩))⟩
  · exact ⟨-1, D, pg, W, U, u, s, T, n, l, e, f, bp 3 st, fun I J h => toRi (sr_years (d := 41) h.1 h.2.1 h.2.2.1 hm (fun _ => ⟨rfl, RR_ref h⟩) (fun q => absurd q c)), fun hf pf I J h => toCi (sc_years (d := 42) h.1 h.2.1 h.2.2.2.1 hm (fun _ => ⟨rfl, CC_ref (pf := pf) h⟩) (fun q => absurd q c))⟩
theorem bo_chance {m : Int} (hm : n32 m) : ∃ x D' pg' W' U' u' s' T' n' l' e' f' st', bo 273 150 [.inl m] (.inl x) (ZZ D pg W U u s T n l e f st) (ZZ D' pg' W' U' u' s' T' n' l' e' f' st') := by
  by_cases c : (1 ≤ m ∧ m ≤ 100) ∧ W 0 0 0 + m ≤ 999
  · exact ⟨pf_chL D pg m.toNat W s 0, D, pg, pf_chW D pg m.toNat W s, consU W U, (if u < 20 then u + 1 else u), pf_chS D m.toNat s, T, n, l, e, f, st, fun I J h => toRi (sr_chance (d := 41) h.1 h.2.1 h.2.2.1 h.2.2.2.1.1 h.2.2.2.1.2 hm (fun q => absurd c q) (fun _ I' J' I2 k1 k2 kj k3 k4 => ⟨rfl, RR_do h k1 k2 k3 k4 ⟨kj, chS_31 _ _ h.2.2.2.1.2⟩⟩)), fun hf pf I J h => toCi (sc_chance (d := 42) h.1 h.2.1 h.2.2.2.1 h.2.2.2.2.1.1 h.2.2.2.2.1.2 hm (fun q => absurd c q) (fun _ I' J' k1 kj k2 k3 => ⟨rfl, CC_do (pf := pf) h k1 k2 k3 ⟨kj, chS_31 _ _ h.2.2.2.2.1.2⟩⟩))⟩
  · exact ⟨-1, D, pg, W, U, u, s, T, n, l, e, f, bp 3 st, fun I J h => toRi (sr_chance (d := 41) h.1 h.2.1 h.2.2.1 h.2.2.2.1.1 h.2.2.2.1.2 hm (fun _ => ⟨rfl, RR_ref h⟩) (fun q => absurd q c)), fun hf pf I J h => toCi (sc_chance (d := 42) h.1 h.2.1 h.2.2.2.1 h.2.2.2.2.1.1 h.2.2.2.2.1.2 hm (fun _ => ⟨rfl, CC_ref (pf := pf) h⟩) (fun q => absurd q c))⟩
theorem bo_stroke {b k i o : Int} (hb : n32 b) (hk : n32 k) (hi : n32 i) (ho : n32 o) : ∃ x D' pg' W' U' u' s' T' n' l' e' f' st', bo 275 151 [.inl b, .inl k, .inl i, .inl o] (.inl x) (ZZ D pg W U u s T n l e f st) (ZZ D' pg' W' U' u' s' T' n' l' e' f' st') := by
  by_cases c : (((0 ≤ b ∧ b < D 6 0 0) ∧ (0 ≤ k ∧ k < D 4 (W 1 b 0) 0)) ∧ (0 ≤ i ∧ i ≤ 14) ∧ (0 ≤ o ∧ o ≤ 1) ∧ ax_and (ax_shr (W 3 b k) i) 1 ≠ o)
  · exact ⟨1, D, pg, wu W 3 b k (ax_xor (W 3 b k) (ax_shl 1 i)), consU W U, (if u < 20 then u + 1 else u), s, T, n, l, e, f, st, fun I J h => toRi (sr_stroke (d := 46) h.1 h.2.1 hb hk hi ho (fun q => absurd c q) (fun _ I' I2 k1 k2 k3 k4 => ⟨rfl, RR_do h k1 (J2 := J) (J' := J) ⟨fun a c q _ _ => k2 a c q, rfl⟩ k3 k4 h.2.2.2.1⟩)), fun hf pf I J h => toCi (sc_stroke (d := 45) h.1 h.2.1 h.2.2.2.1 hb hk hi ho (fun q => absurd c q) (fun _ I' k1 k2 k3 => ⟨rfl, CC_do (pf := pf) h k1 k2 k3 h.2.2.2.2.1⟩))⟩
  · exact ⟨0, D, pg, W, U, u, s, T, n, l, e, f, bp 2 st, fun I J h => toRi (sr_stroke (d := 46) h.1 h.2.1 hb hk hi ho (fun _ => ⟨rfl, RR_ref h⟩) (fun q => absurd q c)), fun hf pf I J h => toCi (sc_stroke (d := 45) h.1 h.2.1 h.2.2.2.1 hb hk hi ho (fun _ => ⟨rfl, CC_ref (pf := pf) h⟩) (fun q => absurd q c))⟩
theorem bo_paint {b w h : Int} (hb : n32 b) (hw : n32 w) (hh : n32 h) : ∃ x D' pg' W' U' u' s' T' n' l' e' f' st', bo 276 152 [.inl b, .inl w, .inl h] (.inl x) (ZZ D pg W U u s T n l e f st) (ZZ D' pg' W' U' u' s' T' n' l' e' f' st') := by
  by_cases c : (0 ≤ b ∧ b < D 6 0 0) ∧ (0 ≤ w ∧ w < D 3 0 0) ∧ (0 ≤ h ∧ h ≤ 1) ∧ pf_canPaint D w h = 1
  · exact ⟨1, D, pg, pf_pt D W b w h, consU W U, (if u < 20 then u + 1 else u), s, T, n, l, e, f, st, fun I J z => toRi (sr_paint (d := 46) z.1 z.2.1 hb hw hh (fun q => absurd c q) (fun _ I' I2 k1 k2 k3 k4 => ⟨rfl, RR_do z k1 (J2 := J) (J' := J) ⟨fun a c q _ _ => k2 a c q, rfl⟩ k3 k4 z.2.2.2.1⟩)), fun hf pf I J z => toCi (sc_paint (d := 44) z.1 z.2.1 z.2.2.2.1 hb hw hh (fun q => absurd c q) (fun _ I' k1 k2 k3 => ⟨rfl, CC_do (pf := pf) z k1 k2 k3 z.2.2.2.2.1⟩))⟩
  · exact ⟨0, D, pg, W, U, u, s, T, n, l, e, f, bp 2 st, fun I J z => toRi (sr_paint (d := 46) z.1 z.2.1 hb hw hh (fun _ => ⟨rfl, RR_ref z⟩) (fun q => absurd q c)), fun hf pf I J z => toCi (sc_paint (d := 44) z.1 z.2.1 z.2.2.2.1 hb hw hh (fun _ => ⟨rfl, CC_ref (pf := pf) z⟩) (fun q => absurd q c))⟩
end ZOPB
