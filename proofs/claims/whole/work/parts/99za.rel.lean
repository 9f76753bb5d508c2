/-! THE TWO STORES SIDE BY SIDE -/
def RR (D : zD) (pg : zG) (W : zD) (U : Nat → zD) (u s : Int) (T : Nat → Int) (n : Int) (l : List Int) (e f : Int) (st : Nat → Int) (I J : zF) : Prop := rB D pg W I ∧ uR D U u I ∧ I 0 66 = 0 ∧ (J 0 80 = s ∧ s31 s) ∧ tR T n I ∧ (oR l I ∧ l.length ≤ 59) ∧ rW I ∧ (I 0 7 = e ∧ I 0 8 = f) ∧ ∀ j, j < 6 → I 2 j = st j
def CC (D : zD) (pg : zG) (W : zD) (U : Nat → zD) (u s : Int) (T : Nat → Int) (n : Int) (l : List Int) (e f : Int) (st : Nat → Int) (hf pf : Nat) (I J : zF) : Prop := (hf = 0 ∨ hf = 1) ∧ cB D pg W hf I ∧ cM D pg hf I ∧ uC D U u I ∧ (J 0 9 = s ∧ s31 s) ∧ tC T n I ∧ (oC l I ∧ l.length ≤ 59) ∧ (I 3 6 = e ∧ I 3 7 = f) ∧ (∀ j, j < 6 → I 38 j = st j) ∧ b11 I
def zP := (zF → zF → Prop) × (Nat → Nat → zF → zF → Prop)
def ZZ (D : zD) (pg : zG) (W : zD) (U : Nat → zD) (u s : Int) (T : Nat → Int) (n : Int) (l : List Int) (e f : Int) (st : Nat → Int) : zP := (RR D pg W U u s T n l e f st, CC D pg W U u s T n l e f st)
def rPo (x : ax_v) (Z : zF → zF → Prop) : Option ax_v → ax_S → Prop := fun v s' => v = some x ∧ ∃ I' J', s' = zr_S I' J' ∧ Z I' J'
def cPo (x : ax_v) (Z : Nat → Nat → zF → zF → Prop) : Option ax_v → ax_S → Prop := fun v s' => v = some x ∧ ∃ hf pf I' J', s' = zc_S hf pf I' J' ∧ Z hf pf I' J'
/-- one operation, both sides: the same answer, and side by side again -/
def bo (mr mc : Nat) (as : List ax_v) (x : ax_v) (A B : zP) : Prop := (∀ I J, A.1 I J → zb_C 50 mr (.inr (.inr (some 0)) :: as) (zr_S I J) (rPo x B.1)) ∧ (∀ hf pf I J, A.2 hf pf I J → zb_C 50 mc (.inr (.inr (some 0)) :: as) (zc_S hf pf I J) (cPo x B.2))
theorem toRi {d m : Nat} {as : List ax_v} {I J : zF} {x : Int} {Z : zF → zF → Prop} (h : zr_i d m as I J (fun r I' J' => r = x ∧ Z I' J')) : zb_C d m as (zr_S I J) (rPo (.inl x) Z) :=
  zb_imp h (fun v s' hh => by
    obtain ⟨y, I', J', e1, e2, e3, e4⟩ := hh
    exact ⟨by rw [e1, e3], I', J', e2, e4⟩)
theorem toRl {d m : Nat} {as : List ax_v} {I J : zF} {x : Int} {Z : zF → zF → Prop} (h : zr_l d m as I J (fun r I' J' => r = x ∧ Z I' J')) : zb_C d m as (zr_S I J) (rPo (.inr (.inl x)) Z) :=
  zb_imp h (fun v s' hh => by
    obtain ⟨y, I', J', e1, e2, e3, e4⟩ := hh
    exact ⟨by rw [e1, e3], I', J', e2, e4⟩)
theorem toCi {d m : Nat} {as : List ax_v} {hf pf : Nat} {I J : zF} {x : Int} {Z : Nat → Nat → zF → zF → Prop} (h : zc_i d m as hf pf I J (fun r I' J' => r = x ∧ Z hf pf I' J')) : zb_C d m as (zc_S hf pf I J) (cPo (.inl x) Z) :=
  zb_imp h (fun v s' hh => by
    obtain ⟨y, I', J', e1, e2, e3, e4⟩ := hh
    exact ⟨by rw [e1, e3], hf, pf, I', J', e2, e4⟩)
theorem toCl {d m : Nat} {as : List ax_v} {hf pf : Nat} {I J : zF} {x : Int} {Z : Nat → Nat → zF → zF → Prop} (h : zc_l d m as hf pf I J (fun r I' J' => r = x ∧ Z hf pf I' J')) : zb_C d m as (zc_S hf pf I J) (cPo (.inr (.inl x)) Z) :=
  zb_imp h (fun v s' hh => by
    obtain ⟨y, I', J', e1, e2, e3, e4⟩ := hh
    exact ⟨by rw [e1, e3], hf, pf, I', J', e2, e4⟩)
theorem kch : ∀ i, i < 79 → ((zr_K i).1 = 21 → i ≤ 31 ∨ (51 ≤ i ∧ i ≤ 74)) := by decide
section ZREL
variable {D : zD} {pg : zG} {W : zD} {U : Nat → zD} {u s : Int} {T : Nat → Int} {n : Int} {l : List Int} {e f : Int} {st : Nat → Int} {I J : zF} {hf pf : Nat}
theorem RR_mk (h : RR D pg W U u s T n l e f st I J) {D' : zD} {pg' : zG} {W' : zD} {U' : Nat → zD} {u' s' : Int} {I' J' : zF} (hB : rB D' pg' W' I') (hU : uR D' U' u' I') (g : ∀ i j, (i = 0 ∧ (j = 1 ∨ j = 7 ∨ j = 8 ∨ j = 66 ∨ j = 116)) ∨ i = 1 ∨ i = 2 ∨ i = 78 ∨ (3 ≤ i ∧ i ≤ 30) ∨ (51 ≤ i ∧ i ≤ 74) → I' i j = I i j) (hJ : J' 0 80 = s' ∧ s31 s') : RR D' pg' W' U' u' s' T n l e f st I' J' := by
  obtain ⟨_, _, a3, _, a5, a6, a7, a8, a9⟩ := h
  refine ⟨hB, hU, by rw [g 0 66 (by omega)]; exact a3, hJ, ⟨by rw [g 0 1 (by omega)]; exact a5.1, a5.2.1, fun j hj => by rw [g 1 j (by omega)]; exact a5.2.2 j hj⟩, ⟨⟨by rw [g 0 116 (by omega)]; exact a6.1.1, fun q hq => by rw [g 78 q (by omega)]; exact a6.1.2 q hq⟩, a6.2⟩, rW_cong a7 (fun i j q1 q2 q3 q4 => g i j ?_), ⟨by rw [g 0 7 (by omega)]; exact a8.1, by rw [g 0 8 (by omega)]; exact a8.2⟩, fun j hj => by rw [g 2 j (by omega)]; exact a9 j hj⟩
  have := kch i q3 (congrArg Prod.fst q4)
  omega
theorem CC_mk (h : CC D pg W U u s T n l e f st hf pf I J) {D' : zD} {pg' : zG} {W' : zD} {U' : Nat → zD} {u' s' : Int} {hf' pf' : Nat} {I' J' : zF} (eh : hf' = 0 ∨ hf' = 1) (hB : cB D' pg' W' hf' I') (hM : cM D' pg' hf' I') (hU : uC D' U' u' I') (g : ∀ i j, i = 1 ∨ i = 2 ∨ (i = 3 ∧ (j = 6 ∨ j = 7)) ∨ i = 11 ∨ i = 36 ∨ i = 37 ∨ i = 38 → I' i j = I i j) (hJ : J' 0 9 = s' ∧ s31 s') : CC D' pg' W' U' u' s' T n l e f st hf' pf' I' J' := by
  obtain ⟨_, _, _, _, _, a6, a7, a8, a9, b1⟩ := h
  exact ⟨eh, hB, hM, hU, hJ, ⟨by rw [g 1 1 (by omega)]; exact a6.1, a6.2.1, fun j hj => by rw [g 2 j (by omega)]; exact a6.2.2 j hj⟩, ⟨⟨by rw [g 36 1 (by omega)]; exact a7.1.1, fun q hq => by rw [g 37 q (by omega)]; exact a7.1.2 q hq⟩, a7.2⟩, ⟨by rw [g 3 6 (by omega)]; exact a8.1, by rw [g 3 7 (by omega)]; exact a8.2⟩, fun j hj => by rw [g 38 j (by omega)]; exact a9 j hj, fun j q1 q2 => by rw [g 11 j (by omega)]; exact b1 j q1 q2⟩
theorem RR_X (h : RR D pg W U u s T n l e f st I J) {I' J' : zF} (hX : rX I J I' J') (hB : rB D pg W I') : RR D pg W U u s T n l e f st I' J' := RR_mk h hB (hX.uR h.2.1) (fun i j q => hX.1 i j (by omega) (by omega) (by omega)) ⟨hX.2.trans h.2.2.2.1.1, h.2.2.2.1.2⟩
theorem RR_E (h : RR D pg W U u s T n l e f st I J) {I' J' : zF} (hE : rE I J I' J') : RR D pg W U u s T n l e f st I' J' := RR_X h ⟨fun i j _ _ c => hE.1 i j (by omega), hE.2 0 80 (by decide)⟩ (hE.rB h.1)
theorem CC_E (h : CC D pg W U u s T n l e f st hf pf I J) {I' : zF} (hE : cE hf I I') : CC D pg W U u s T n l e f st hf pf I' J := CC_mk h h.1 (hE.B h.1 h.2.1) (hE.M h.2.2.1) (uC_cong h.2.2.2.1 (hE 12 3 (by omega) (by omega) (by omega) (by omega)) (hE 12 4 (by omega) (by omega) (by omega) (by omega)) (fun i j a b => hE i j (by omega) (by omega) (by omega) (by omega))) (fun i j q => hE i j (by omega) (by omega) (by omega) (by omega)) h.2.2.2.2.1
theorem CC_U (h : CC D pg W U u s T n l e f st hf pf I J) {I' : zF} (hE : cU hf I I') (hB : cB D pg W hf I') : CC D pg W U u s T n l e f st hf pf I' J := CC_mk h h.1 hB (cM_cong (fun i j q => hE i j (by omega) (by omega) (by omega) (by omega) (by omega)) h.2.2.1) (uC_cong h.2.2.2.1 (hE 12 3 (by omega) (by omega) (by omega) (by omega) (by omega)) (hE 12 4 (by omega) (by omega) (by omega) (by omega) (by omega)) (fun i j a b => hE i j (by omega) (by omega) (by omega) (by omega) (by omega))) (fun i j q => hE i j (by omega) (by omega) (by omega) (by omega) (by omega)) h.2.2.2.2.1
theorem CC_G (h : CC D pg W U u s T n l e f st hf pf I J) {I' : zF} (hE : cG hf I I') (hM : cM D pg hf I') : CC D pg W U u s T n l e f st hf pf I' J := by
  have e13 : I' 13 = I 13 := funext (fun j => hE 13 j (by omega) (by omega) (by omega) (by omega) (by omega) (by omega))
  exact CC_mk h h.1 ⟨hE.S h.2.1.1, h.2.1.2.1, by rw [e13]; exact h.2.1.2.2⟩ hM (uC_cong h.2.2.2.1 (hE 12 3 (by omega) (by omega) (by omega) (by omega) (by omega) (by omega)) (hE 12 4 (by omega) (by omega) (by omega) (by omega) (by omega) (by omega)) (fun i j a b => hE i j (by omega) (by omega) (by omega) (by omega) (by omega) (by omega))) (fun i j q => hE i j (by omega) (by omega) (by omega) (by omega) (by omega) (by omega)) h.2.2.2.2.1
end ZREL
