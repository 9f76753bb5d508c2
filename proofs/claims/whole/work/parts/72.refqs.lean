/-! THE REFERENCE: brackets and what is on top -/
def f60 (x : Int) : Bool := decide (60 ≤ x)
def bR : List Int → List Int
  | [] => []
  | x :: r => if isBr x = true then x :: r else bR r
section ZRE
variable {d : Nat} {I J : zF} {cs B : List Int} {kd : Int} {P : Int → zF → zF → Prop} {P0 : zF → zF → Prop}
theorem sr_qOpens {F : List Int} {dep base x p : Int} (hQ : rQ cs F dep base kd I) (he : I 0 5 = 0) (hd : -1700 ≤ dep ∧ dep ≤ 6) (hx : 0 ≤ x ∧ x ≤ 100) (hl : F.length < 1700) (hP1 : dep ≠ 6 → ∀ I', (∀ i j, i ≠ 76 → ¬ (i = 0 ∧ (j = 108 ∨ j = 109)) → I' i j = I i j) → rQ cs (x :: F) (dep + 1) base kd I' → P0 I' J) (hP0 : dep = 6 → ∀ I', rY I I' → rBad 4 p I' → P0 I' J) : zr_v (d + 2) 278 [.inr (.inr (some 0)), .inl x, .inl p] I J P0 := by
  obtain ⟨a, b, e, f, g, k, l, m⟩ := hQ
  refine zr_inv (M := ax_m278) rfl (Nat.le_of_ble_eq_true rfl) (zq_qOpens_0 I J x p ⟨fun _ => ?_, fun q => absurd (by rw [he]) q⟩)
  have e1 : (ax_u I 0 109 (I 0 109 + 1)) 0 108 = (F.length : Int) := by rw [zu_ne (by omega)]; exact e
  have e2 : (ax_u (ax_u I 0 109 (I 0 109 + 1)) 76 F.length x) 0 108 = (F.length : Int) := by rw [zu_ne (by omega)]; exact e1
  rw [e1, zb_w (x := (F.length : Int)) (by omega) (by omega), show (F.length : Int).toNat = F.length by omega, e2, g, zb_w (x := dep) (by omega) (by omega)]
  refine ⟨fun q => sr_fail he (by decide) (fun I' y _ hb => zr_Qv.of (hP0 q I' y hb)), fun q => ⟨by omega, zr_Qv.of (hP1 q _ (fun i j q1 q2 => by rw [zu_ne (by omega), zu_ne (by omega), zu_ne (by omega)]) ⟨?_, fun i hi => ?_, ?_, ?_, ?_, ?_, ?_, fun y hy => ?_⟩)⟩⟩
  · rw [zu_ne (by omega), zu_ne (by omega), zu_ne (by omega)]; exact a
  · rw [zu_ne (by omega), zu_ne (by omega), zu_ne (by omega)]; exact b i hi
  · rw [zu_eq, List.length_cons]; omega
  · refine ck_cong (I := ax_u (ax_u I 0 109 (dep + 1)) 76 F.length x) (fun j => zu_ne (by omega)) _ (ck_put rfl (ck_cong (fun j => zu_ne (by omega)) F f))
  · rw [zu_ne (by omega), zu_ne (by omega), zu_eq]
  · rw [zu_ne (by omega), zu_ne (by omega), zu_ne (by omega)]; exact k
  · rw [zu_ne (by omega), zu_ne (by omega), zu_ne (by omega)]; exact l
  · rcases List.mem_cons.mp hy with rfl | h
    · exact hx
    · exact m y h
theorem sr_qEndsPart_l {I0 : zF} {Q : Option ax_v → ax_S → Prop} : ∀ (st cs : List Int) (dep : Int) (I : zF), rQ cs (st ++ B) dep (B.length : Int) kd I → I 0 5 = 0 → cs.length + (st ++ B).length ≤ 1700 → (∀ i j, i ≠ 75 → ¬ (i = 0 ∧ (j = 106 ∨ j = 108 ∨ j = 109)) → I i j = I0 i j) → (∀ I', (∀ i j, i ≠ 75 → ¬ (i = 0 ∧ (j = 106 ∨ j = 108 ∨ j = 109)) → I' i j = I0 i j) → rQ (cs ++ pU f60 st) (pD f60 st ++ B) (dep - (pU f60 st).length) (B.length : Int) kd I' → Q none (zr_S I' J)) → zb_W (d + 2) ax_m287 (0, [some (.inr (.inr (some 0)))], [], zr_S I J) Q := by
  intro st
  induction st with
  | nil =>
    intro cs dep I hQ he hl hF hP
    obtain ⟨a, b, e, f, g, k, l, m⟩ := id hQ
    simp only [List.nil_append] at e hl
    refine zq_qEndsPart_0 I J ⟨fun _ => ?_, fun q => absurd (by rw [he]) q⟩
    rw [e, k]
    refine ⟨fun q => absurd q (Int.lt_irrefl _), fun _ => hP I hF ?_⟩
    have e0 : pU f60 [] = [] := rfl
    rw [e0, List.append_nil, show dep - (([] : List Int).length : Int) = dep by simp]
    exact hQ
  | cons x r ih =>
    intro cs dep I hQ he hl hF hP
    obtain ⟨a, b, e, f, g, k, l, m⟩ := id hQ
    have hx := m x (by simp)
    have hlen : ((x :: r) ++ B).length = (r ++ B).length + 1 := rfl
    have hrb : (r ++ B).length = r.length + B.length := List.length_append
    have fx : I 76 (r ++ B).length = x := f.1
    refine zq_qEndsPart_0 I J ⟨fun _ => ?_, fun q => absurd (by rw [he]) q⟩
    rw [show I 0 108 - 1 = ((r ++ B).length : Int) by omega, zb_w (x := ((r ++ B).length : Int)) (by omega) (by omega), show ((r ++ B).length : Int).toNat = (r ++ B).length by omega, fx, k, zb_w (x := I 0 108) (by omega) (by omega), zb_w (x := (B.length : Int)) (by omega) (by omega), zb_w (x := x) (by omega) (by omega)]
    refine ⟨fun _ => ⟨by omega, fun q => hP I hF ?_, fun q => ?_⟩, fun q => absurd (show (B.length : Int) < I 0 108 by omega) q⟩
    · have q' : x < 60 := q
      have c : ¬ f60 x = true := fun z => by have := of_decide_eq_true z; omega
      rw [show pU f60 (x :: r) = [] from if_neg c, show pD f60 (x :: r) = x :: r from if_neg c, List.append_nil, show dep - (([] : List Int).length : Int) = dep by simp]
      exact hQ
    · have q' : ¬ x < 60 := q
      have c : f60 x = true := decide_eq_true (by omega)
      have hQ1 : rQ cs (x :: (r ++ B)) (dep - 1) (B.length : Int) kd (ax_u I 0 109 (I 0 109 - 1)) := ⟨by rw [zu_ne (by omega)]; exact a, fun i hi => by rw [zu_ne (by omega)]; exact b i hi, by rw [zu_ne (by omega)]; exact e, ck_cong (fun j => zu_ne (by omega)) _ f, by rw [zu_eq, g], by rw [zu_ne (by omega)]; exact k, by rw [zu_ne (by omega)]; exact l, m⟩
      refine sr_qDrops hQ1 (by rw [List.length_cons]; omega) (fun I1 h1 h2 => ih (cs ++ [x]) (dep - 1) I1 h2 ?_ ?_ (fun i j q1 q2 => ?_) (fun I' h3 h4 => hP I' h3 ?_))
      · rw [h1 0 5 (by omega) (by omega), zu_ne (by omega)]; exact he
      · simp only [List.length_append, List.length_cons, List.length_nil] at *
        omega
      · rw [h1 i j q1 (by omega), zu_ne (by omega)]; exact hF i j q1 q2
      · rw [show pU f60 (x :: r) = x :: pU f60 r from if_pos c, show pD f60 (x :: r) = pD f60 r from if_pos c]
        rw [List.append_assoc] at h4
        rw [List.length_cons, show dep - (((pU f60 r).length + 1 : Nat) : Int) = dep - 1 - ((pU f60 r).length : Int) by omega]
        exact h4
end ZRE
section ZRF
variable {d : Nat} {I J : zF} {cs B : List Int} {dep kd : Int} {P : Int → zF → zF → Prop} {P0 : zF → zF → Prop}
theorem sr_qBracket_7 {F : List Int} (hQ : rQ cs F dep (B.length : Int) kd I) (hl : F.length ≤ 1700) {Q : Option ax_v → ax_S → Prop} : ∀ (st : List Int), ck I 76 (st ++ B) → (∀ x, x ∈ st → 0 ≤ x ∧ x ≤ 100) → (st ++ B).length ≤ F.length → Q (some (.inl (bX st))) (zr_S I J) → zb_W (d + 1) ax_m282 (7, [some (.inr (.inr (some 0))), some (.inl (((st ++ B).length : Int) - 1))], [], zr_S I J) Q := by
  have k := hQ.2.2.2.2.2.1
  intro st
  induction st with
  | nil =>
    intro hc hm hle hq
    simp only [List.nil_append] at *
    refine zq_qBracket_7 I J _ ?_
    rw [k, zb_w (x := (B.length : Int) - 1) (by omega) (by omega), zb_w (x := (B.length : Int)) (by omega) (by omega)]
    refine ⟨fun _ => zq_qBracket_33 I J _ ?_, fun q => absurd (show (B.length : Int) - 1 < B.length by omega) q⟩
    rw [k, zb_w (x := (B.length : Int) - 1) (by omega) (by omega), zb_w (x := (B.length : Int)) (by omega) (by omega)]
    exact ⟨fun _ => hq, fun q => absurd (show (B.length : Int) - 1 < B.length by omega) q⟩
  | cons x r ih =>
    intro hc hm hle hq
    have hx := hm x (by simp)
    have hlen : ((x :: r) ++ B).length = (r ++ B).length + 1 := rfl
    have hrb : (r ++ B).length = r.length + B.length := List.length_append
    have fx : I 76 (r ++ B).length = x := hc.1
    rw [show ((((x :: r) ++ B).length : Nat) : Int) - 1 = ((r ++ B).length : Int) by omega]
    refine zq_qBracket_7 I J _ ?_
    rw [k, zb_w (x := ((r ++ B).length : Int)) (by omega) (by omega), zb_w (x := (B.length : Int)) (by omega) (by omega), show ((r ++ B).length : Int).toNat = (r ++ B).length by omega, fx]
    refine ⟨fun q => by omega, fun _ => ⟨by omega, sr_qIsBracket ⟨by omega, by omega⟩ (bc (fun c => zq_qBracket_33 I J _ ?_) (fun c => ?_))⟩⟩
    · rw [k, zb_w (x := ((r ++ B).length : Int)) (by omega) (by omega), zb_w (x := (B.length : Int)) (by omega) (by omega), show ((r ++ B).length : Int).toNat = (r ++ B).length by omega, fx]
      refine ⟨fun q => by omega, fun _ => ⟨by omega, ?_⟩⟩
      rwa [show bX (x :: r) = x from if_pos c] at hq
    · rw [show bX (x :: r) = bX r from if_neg c] at hq
      have := ih hc.2 (fun y hy => hm y (List.mem_cons_of_mem _ hy)) (by omega) hq
      rw [show (((r ++ B).length : Nat) : Int) - 1 = ((r ++ B).length : Int) + -1 by omega] at this
      exact this
theorem sr_qBracket {st : List Int} (hQ : rQ cs (st ++ B) dep (B.length : Int) kd I) (hl : (st ++ B).length ≤ 1700) (hP : P (bX st) I J) : zr_i (d + 2) 282 [.inr (.inr (some 0))] I J P := by
  obtain ⟨a, b, e, f, g, k, l, m⟩ := id hQ
  refine zr_ini (M := ax_m282) rfl (Nat.le_of_ble_eq_true rfl) (zq_qBracket_0 I J ?_)
  rw [e]
  exact sr_qBracket_7 hQ hl st f (fun x hx => m x (List.mem_append.mpr (Or.inl hx))) (Nat.le_refl _) (zr_Qi.of hP)
end ZRF
