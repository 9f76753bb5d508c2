/-! THE CLASS: a word is weighed, whole -/
/-- what a question's weighing writes -/
def cGq (hs : Nat) (I I' : zF) : Prop := ∀ i j, i ≠ 11 → i ≠ 6 → ¬ (i = 10 ∧ j = 6) → i ≠ 44 + 29 * hs → i ≠ 47 + 29 * hs → i ≠ 60 + 29 * hs → i ≠ 61 + 29 * hs → i ≠ 67 + 29 * hs → ¬ (48 + 29 * hs ≤ i ∧ i ≤ 57 + 29 * hs) → I' i j = I i j
theorem cGq.trans {hs : Nat} {I I' I2 : zF} (h : cGq hs I I') (h2 : cGq hs I' I2) : cGq hs I I2 := fun i j a b c e f g k l m => (h2 i j a b c e f g k l m).trans (h i j a b c e f g k l m)
theorem cGq.refl (hs : Nat) (I : zF) : cGq hs I I := fun _ _ _ _ _ _ _ _ _ _ _ => rfl
theorem cG.q {hs : Nat} {I I' : zF} (h : cG hs I I') : cGq hs I I' := fun i j _ _ _ e f g k l m => h i j e f g k l m
theorem cGq.u {hs : Nat} {I I' : zF} (h : cGq hs I I') {j : Nat} {x : Int} : cGq hs I (ax_u I' 11 j x) := fun i j a b c e f g k l m => by rw [zu_ne (by omega)]; exact h i j a b c e f g k l m
theorem cGq.S {D : zD} {pg : zG} {hs : Nat} {I I' : zF} (h : cGq hs I I') (eh : hs = 0 ∨ hs = 1) (hS : cS D pg hs I) : cS D pg hs I' := cS_cong hS (fun i j q => by unfold cLk at q; exact h i j (by omega) (by omega) (by omega) (by omega) (by omega) (by omega) (by omega) (by omega) (by omega)) (h _ _ (by omega) (by omega) (by omega) (by omega) (by omega) (by omega) (by omega) (by omega) (by omega)) (fun j => h _ _ (by omega) (by omega) (by omega) (by omega) (by omega) (by omega) (by omega) (by omega) (by omega)) (h _ _ (by omega) (by omega) (by omega) (by omega) (by omega) (by omega) (by omega) (by omega) (by omega)) (fun j => h _ _ (by omega) (by omega) (by omega) (by omega) (by omega) (by omega) (by omega) (by omega) (by omega))
theorem cGq.P {hs : Nat} {I I' : zF} {cs : List Int} (h : cGq hs I I') (hc : cP I 4 cs) : cP I' 4 cs := cP_cong (h 4 2 (by omega) (by omega) (by omega) (by omega) (by omega) (by omega) (by omega) (by omega) (by omega)) (fun j => h 5 j (by omega) (by omega) (by omega) (by omega) (by omega) (by omega) (by omega) (by omega) (by omega)) hc
def wV (D : zD) (y i : Int) (m : Int) (I : zF) : Prop := I 11 2 = pf_ink D i ∧ I 11 7 = y ∧ I 11 8 = i ∧ I 11 9 = D 4 i 0 ∧ ∀ k, 0 ≤ k → k < m → I 11 (10 + k).toNat = (if k < D 4 i 0 then D 5 i k else -1)
def b11 (I : zF) : Prop := ∀ j, 16 ≤ j → j < 24 → b6 (I 11 j)
theorem wV_cong {D : zD} {y i m : Int} {I I' : zF} (hm : m ≤ 6) (h : wV D y i m I) (g : ∀ j, j < 16 → I' 11 j = I 11 j) : wV D y i m I' := by
  obtain ⟨a, b, c, e, f⟩ := h
  refine ⟨by rw [g 2 (by omega)]; exact a, by rw [g 7 (by omega)]; exact b, by rw [g 8 (by omega)]; exact c, by rw [g 9 (by omega)]; exact e, fun k h0 h1 => ?_⟩
  rw [g _ (by omega)]; exact f k h0 h1
section ZCX
variable {d hf pf hs : Nat} {I J : zF} {D : zD} {pg : zG} {W : zD} {P0 : zF → zF → Prop} {Q : Option ax_v → ax_S → Prop} {k i r : Int} {nw : Bool} {cs : List Int} {b : Bool}
theorem sc_weigh_run (hi : 0 ≤ i ∧ i < D 3 0 0) (ok : zD_ok D pg) (hW : wOk D W) (hk : 0 ≤ k ∧ k ≤ 5) (h4 : I 10 4 = k) (hc : cP I 4 cs) (ht : pf_tr 2 cs [] = some [b]) (hb3 : b = decide (k < 3)) (h11 : b11 I) (hV : wV D (W 0 0 0) i 6 I) (hl : us cs ≠ 0 → ∀ t, 0 ≤ t → t < 8 → I 11 (16 + t).toNat = (if t < D 3 0 0 then (pf_L D pg i t 0 0 0).1 else -1)) (hr : n64 r) (hJ : J 10 7 = r) (h6 : I 10 6 = if nw = true then 0 else 1) (hQ : ∀ I' J', (∀ a c, a ≠ 6 → ¬ (a = 10 ∧ c = 6) → I' a c = I a c) → I' 10 6 = 1 → fk J J' → J' 10 7 = pTk k (pf_res (qv D (W 0 0 0) i) (qq D pg i) cs) i nw r → P0 I' J') : zc_i (d + 3) 52 [.inr (.inr (some 4)), .inr (.inr (some 11))] hf pf I J (fun r6 I3 J4 => zc_v (d + 3) 60 [.inr (.inr (some 10)), .inl i, .inl r6] hf pf I3 J4 P0) := by
  have a3 := ok.a3 0 0
  have a4 := ok.a4 i 0
  obtain ⟨v2, v7, v8, v9, vl⟩ := hV
  have qvb := fun p => qv_b ok hW hi p
  have hres := pf_res_ok (kd := 2) (v := qv D (W 0 0 0) i) (q := qq D pg i) (fun p _ => qvb p) (fun c a => qq_b ok c a) ht
  have key : ∃ q, cV 2 11 (qv D (W 0 0 0) i) q I ∧ pf_res (qv D (W 0 0 0) i) q cs = pf_res (qv D (W 0 0 0) i) (qq D pg i) cs := by
    have hv : ∀ p, pf_al 2 (p + 40) = true → p ≤ 9 → I 11 p.toNat = qv D (W 0 0 0) i p ∧ b6 (qv D (W 0 0 0) i p) := fun p hp h9 => by
      have := of_decide_eq_true hp
      refine ⟨?_, qvb p⟩
      have hc : p = 2 ∨ p = 7 ∨ p = 8 ∨ p = 9 := by omega
      rcases hc with rfl | rfl | rfl | rfl
      · exact v2
      · exact v7
      · exact v8
      · exact v9
    have ha : ∀ a, qq D pg i 1 a = (if (0 ≤ a ∧ a < 6) ∧ 10 + a < ((24 : Nat) : Int) then I 11 (10 + a).toNat else -1) := fun a => by
      show (if 0 ≤ a ∧ a < D 4 i 0 then D 5 i a else -1) = _
      by_cases h : 0 ≤ a ∧ a < 6
      · rw [if_pos (show (0 ≤ a ∧ a < 6) ∧ 10 + a < ((24 : Nat) : Int) by omega), vl a h.1 h.2]
        exact ic ⟨fun q => q.2, fun q => ⟨h.1, q⟩⟩
      · rw [if_neg (by omega), if_neg (by omega)]
    by_cases hu : us cs = 0
    · refine ⟨fun c a => if c = 0 then (if (0 ≤ a ∧ a < 8) ∧ 16 + a < ((24 : Nat) : Int) then I 11 (16 + a).toNat else -1) else qq D pg i c a, ⟨hv, fun _ a _ => ⟨rfl, ha a⟩, fun c a => ?_, fun p _ => qvb p⟩, ?_⟩
      · show b6 (if c = 0 then _ else _)
        split
        · split
          · exact h11 _ (by omega) (by omega)
          · exact ⟨by decide, by decide⟩
        · exact qq_b ok c a
      · exact congrArg (fun l => List.headD l 0) (run_us (q' := qq D pg i) (by intro a; rfl) cs [] _ [] ht hu)
    · refine ⟨qq D pg i, ⟨hv, fun _ a _ => ⟨?_, ha a⟩, fun c a => qq_b ok c a, fun p _ => qvb p⟩, rfl⟩
      show (if 0 ≤ a ∧ a < D 3 0 0 then (pf_L D pg i a 0 0 0).1 else -1) = _
      by_cases h : 0 ≤ a ∧ a < 8
      · rw [if_pos (show (0 ≤ a ∧ a < 8) ∧ 16 + a < ((24 : Nat) : Int) by omega), hl hu a h.1 h.2]
        exact ic ⟨fun q => q.2, fun q => ⟨h.1, q⟩⟩
      · rw [if_neg (by omega), if_neg (by omega)]
  obtain ⟨q, hcv, heq⟩ := key
  refine sc_run (p := 4) (w := 11) (kd := 2) (Or.inl rfl) (by decide) (by decide) (by decide) hcv hc (Or.inr ht) (fun I1 f1 => ?_)
  rw [heq]
  have f1' : ∀ a c, a ≠ 6 → I1 a c = I a c := f1
  refine sc_take hk (by rw [f1' 10 4 (by omega)]; exact h4) hres.1 (fun h3 => hres.2 (by rw [hb3]; exact decide_eq_true h3)) ⟨by omega, by omega⟩ hr hJ (nw := nw) (by rw [f1' 10 6 (by omega)]; exact h6) (fun J2 k2 t2 => hQ _ J2 (fun a c g1 g2 => ?_) zu_eq k2 t2)
  rw [zu_ne (by omega)]
  exact f1' a c g1
end ZCX
