/-! A SHOP THAT IS READ, pure -/
def dLet (D : zD) (h x g : Int) : zD := fun i a b => if i = 0 ∧ a = h then D 0 h 0 + 1 else if i = 1 ∧ a = h ∧ b = D 0 h 0 then x else if i = 2 ∧ a = h ∧ b = D 0 h 0 then g else D i a b
def dWrd (D : zD) (sd : Int → Int) (L : Int) : zD := fun i a b => if i = 3 then D 3 0 0 + 1 else if i = 4 ∧ a = D 3 0 0 then L else if i = 5 ∧ a = D 3 0 0 then (if 0 ≤ b ∧ b < L then sd b else 0) else D i a b
def dBrd (D : zD) (w h : Int) : zD := fun i a b => if i = 6 then D 6 0 0 + 1 else if i = 7 ∧ a = D 6 0 0 then (if b = 0 then w else h) else D i a b
def dRul (D : zD) (k v : Int) : zD := fun i a b => if i = 8 ∧ a = k then v else D i a b
def dNew : zD := fun i a _ => if i = 8 then (if a = 0 then 2 else if a = 1 then 9 else 0) else 0
def gNew : zG := fun i => if i = 0 then pf_dd else []
def gPut (pg : zG) (k : Nat) (cs : List Int) : zG := fun i => if i = k then cs else pg i
/-- the boards that are told -/
def bOk (D : zD) : Prop := ∀ b, 0 ≤ b → b < D 6 0 0 → (0 ≤ D 7 b 0 ∧ D 7 b 0 < D 3 0 0) ∧ (0 ≤ D 7 b 1 ∧ D 7 b 1 < 2) ∧ pf_canPaint D (D 7 b 0) (D 7 b 1) = 1
theorem find_ne {f : Int → Int} {x : Int} : ∀ (n : Nat) (k : Int), 0 ≤ k → (pf_find f x n k ≠ -1 ↔ ∃ j, k ≤ j ∧ j < k + n ∧ f j = x) := by
  intro n
  induction n with
  | zero => intro k h0; exact ⟨fun h => absurd rfl h, fun ⟨j, a, b, _⟩ => by omega⟩
  | succ n ih =>
    intro k h0
    unfold pf_find
    by_cases c : f k = x
    · rw [if_pos c]
      exact ⟨fun _ => ⟨k, by omega, by omega, c⟩, fun _ => by omega⟩
    · rw [if_neg c, ih (k + 1) (by omega)]
      constructor
      · rintro ⟨j, a, b, e⟩; exact ⟨j, by omega, by omega, e⟩
      · rintro ⟨j, a, b, e⟩
        have : j ≠ k := fun q => c (by rw [← q]; exact e)
        exact ⟨j, by omega, by omega, e⟩
theorem at_ne {D : zD} {h x : Int} (h0 : 0 ≤ D 0 h 0) : pf_at D h x ≠ -1 ↔ ∃ j, 0 ≤ j ∧ j < D 0 h 0 ∧ D 1 h j = x := by
  unfold pf_at
  rw [find_ne _ 0 (by decide)]
  constructor
  · rintro ⟨j, a, b, e⟩; exact ⟨j, a, by omega, e⟩
  · rintro ⟨j, a, b, e⟩; exact ⟨j, a, by omega, e⟩
theorem can_1 {D : zD} {w h : Int} : ∀ (n : Nat) (k : Int), (pf_can D w h n k = 1 ↔ ∀ j, k ≤ j → j < k + n → pf_at D h (D 5 w j) ≠ -1) := by
  intro n
  induction n with
  | zero => intro k; exact ⟨fun _ j a b => by omega, fun _ => rfl⟩
  | succ n ih =>
    intro k
    unfold pf_can
    by_cases c : pf_at D h (D 5 w k) = -1
    · rw [if_pos c]
      exact ⟨fun z => absurd z (by decide), fun z => absurd c (z k (by omega) (by omega))⟩
    · rw [if_neg c, ih (k + 1)]
      constructor
      · intro z j a b
        by_cases q : j = k
        · rw [q]; exact c
        · exact z j (by omega) (by omega)
      · intro z j a b; exact z j (by omega) (by omega)
theorem canP {D : zD} {w h : Int} (h4 : 0 ≤ D 4 w 0) : pf_canPaint D w h = 1 ↔ ∀ j, 0 ≤ j → j < D 4 w 0 → pf_at D h (D 5 w j) ≠ -1 := by
  unfold pf_canPaint
  rw [can_1]
  constructor
  · intro z j a b; exact z j a (by omega)
  · intro z j a b; exact z j a (by omega)
section ZDR
variable {D : zD} {pg : zG}
theorem dLet_at {h x g h2 y : Int} (ok : zD_ok D pg) (hy : pf_at D h2 y ≠ -1) : pf_at (dLet D h x g) h2 y ≠ -1 := by
  have a0 := ok.a0 h2 0
  obtain ⟨j, j0, j1, e⟩ := (at_ne a0.1).mp hy
  have e0 : dLet D h x g 0 h2 0 = if h2 = h then D 0 h 0 + 1 else D 0 h2 0 := by
    unfold dLet
    by_cases c : h2 = h
    · rw [if_pos ⟨rfl, c⟩, if_pos c]
    · rw [if_neg (by omega), if_neg (by omega), if_neg (by omega), if_neg c]
  have e1 : dLet D h x g 1 h2 j = D 1 h2 j := by
    unfold dLet
    rw [if_neg (by omega), if_neg (fun q => ?_), if_neg (by omega)]
    rw [q.2.1, ← q.2.2] at j1
    omega
  refine (at_ne ?_).mpr ⟨j, j0, ?_, ?_⟩
  · rw [e0]; split
    · rename_i c; rw [← c]; omega
    · omega
  · rw [e0]; split
    · rename_i c; rw [← c]; omega
    · omega
  · rw [e1]; exact e
theorem dLet_5 {h x g : Int} {i : Nat} {a b : Int} (hi : 3 ≤ i) : dLet D h x g i a b = D i a b := by
  unfold dLet
  rw [if_neg (by omega), if_neg (by omega), if_neg (by omega)]
theorem dLet_ok {h x g : Int} (ok : zD_ok D pg) (hx : 1 ≤ x ∧ x ≤ 26) (hg : g15 g) (hl : D 0 h 0 < 12) : zD_ok (dLet D h x g) pg := by
  obtain ⟨⟨a0, a1, a2, a3, a4, a5, a6, a8⟩, ⟨p1, p2, p3, p4, p5⟩, q⟩ := ok
  have ok' : zD_ok D pg := ⟨⟨a0, a1, a2, a3, a4, a5, a6, a8⟩, ⟨p1, p2, p3, p4, p5⟩, q⟩
  refine ⟨⟨fun a b => ?_, fun a b => ?_, fun a b => ?_, fun a b => by rw [dLet_5 (by decide)]; exact a3 a b, fun a b => by rw [dLet_5 (by decide)]; exact a4 a b, fun a b => by rw [dLet_5 (by decide)]; exact a5 a b, fun a b => by rw [dLet_5 (by decide)]; exact a6 a b, fun a b => by rw [dLet_5 (by decide)]; exact a8 a b⟩, ⟨fun h2 k r1 r2 r3 r4 => ?_, fun w r1 r2 => ?_, fun w k r1 r2 r3 r4 => ?_, fun w k r1 r2 r3 => ?_, fun w r1 r2 => ?_⟩, q⟩
  · unfold dLet
    by_cases c : (0 : Nat) = 0 ∧ a = h
    · rw [if_pos c]; have := a0 h 0; omega
    · rw [if_neg c, if_neg (by omega), if_neg (by omega)]; exact a0 a b
  · unfold dLet
    rw [if_neg (by omega)]
    by_cases c : (1 : Nat) = 1 ∧ a = h ∧ b = D 0 h 0
    · rw [if_pos c]; omega
    · rw [if_neg c, if_neg (by omega)]; exact a1 a b
  · unfold dLet
    rw [if_neg (by omega), if_neg (by omega)]
    by_cases c : (2 : Nat) = 2 ∧ a = h ∧ b = D 0 h 0
    · rw [if_pos c]; exact hg
    · rw [if_neg c]; exact a2 a b
  · unfold dLet at r4 ⊢
    rw [if_neg (show ¬ ((1 : Nat) = 0 ∧ h2 = h) by omega)]
    by_cases c : (1 : Nat) = 1 ∧ h2 = h ∧ k = D 0 h 0
    · rw [if_pos c]; omega
    · rw [if_neg c, if_neg (by omega)]
      refine p1 h2 k r1 r2 r3 ?_
      by_cases c2 : h2 = h
      · rw [if_pos ⟨rfl, c2⟩] at r4
        rw [c2]
        have : k ≠ D 0 h 0 := fun z => c ⟨rfl, c2, z⟩
        omega
      · rw [if_neg (by omega), if_neg (by omega), if_neg (by omega)] at r4
        exact r4
  · rw [dLet_5 (by decide)] at r2 ⊢; exact p2 w r1 r2
  · rw [dLet_5 (by decide)] at r2 r4 ⊢; exact p3 w k r1 r2 r3 r4
  · rw [dLet_5 (by decide)] at r2 r3 ⊢; exact p4 w k r1 r2 r3
  · rw [dLet_5 (by decide)] at r2
    rw [canP (by rw [dLet_5 (by decide)]; exact (a4 w 0).1)]
    intro j j0 j1
    rw [dLet_5 (by decide)] at j1
    rw [dLet_5 (by decide)]
    exact dLet_at ok' ((canP (a4 w 0).1).mp (p5 w r1 r2) j j0 j1)
theorem dLet_b {h x g : Int} (ok : zD_ok D pg) (hb : bOk D) : bOk (dLet D h x g) := by
  intro b b0 b1
  rw [dLet_5 (by decide)] at b1
  obtain ⟨c1, c2, c3⟩ := hb b b0 b1
  have a4 := ok.a4 (D 7 b 0) 0
  rw [dLet_5 (i := 7) (by decide), dLet_5 (i := 7) (by decide), dLet_5 (i := 3) (by decide)]
  refine ⟨c1, c2, ?_⟩
  rw [canP (by rw [dLet_5 (by decide)]; exact a4.1)]
  intro j j0 j1
  rw [dLet_5 (by decide)] at j1
  rw [dLet_5 (by decide)]
  exact dLet_at ok ((canP a4.1).mp c3 j j0 j1)
theorem dWrd_lo {sd : Int → Int} {L : Int} {i : Nat} {a b : Int} (hi : i ≠ 3) (h4 : ¬ (i = 4 ∧ a = D 3 0 0)) (h5 : ¬ (i = 5 ∧ a = D 3 0 0)) : dWrd D sd L i a b = D i a b := by
  unfold dWrd
  rw [if_neg hi, if_neg h4, if_neg h5]
theorem dWrd_at {sd : Int → Int} {L h x : Int} : pf_at (dWrd D sd L) h x = pf_at D h x := by
  have e1 : dWrd D sd L 1 h = D 1 h := funext (fun j => dWrd_lo (by decide) (by omega) (by omega))
  unfold pf_at
  rw [e1, dWrd_lo (i := 0) (by decide) (by omega) (by omega)]
theorem dWrd_can {sd : Int → Int} {L w h : Int} (ok : zD_ok D pg) (hw : w < D 3 0 0) : pf_canPaint (dWrd D sd L) w h = 1 ↔ pf_canPaint D w h = 1 := by
  have a4 := ok.a4 w 0
  have e4 : dWrd D sd L 4 w 0 = D 4 w 0 := dWrd_lo (by decide) (by omega) (by omega)
  rw [canP (by rw [e4]; exact a4.1), canP a4.1, e4]
  constructor
  · intro z j j0 j1
    have := z j j0 j1
    rwa [dWrd_at, dWrd_lo (i := 5) (by decide) (by omega) (by omega)] at this
  · intro z j j0 j1
    rw [dWrd_at, dWrd_lo (i := 5) (by decide) (by omega) (by omega)]
    exact z j j0 j1
theorem dWrd_ok {sd : Int → Int} {L : Int} (ok : zD_ok D pg) (hL : 1 ≤ L ∧ L ≤ 6) (hs : ∀ k, 0 ≤ k → k < L → 1 ≤ sd k ∧ sd k ≤ 26) (hl : D 3 0 0 < 8) (hc : ∀ k, 0 ≤ k → k < L → pf_at D 0 (sd k) ≠ -1) : zD_ok (dWrd D sd L) pg := by
  obtain ⟨⟨a0, a1, a2, a3, a4, a5, a6, a8⟩, ⟨p1, p2, p3, p4, p5⟩, q⟩ := ok
  have ok' : zD_ok D pg := ⟨⟨a0, a1, a2, a3, a4, a5, a6, a8⟩, ⟨p1, p2, p3, p4, p5⟩, q⟩
  have h3 := a3 0 0
  have e3 : ∀ a b, dWrd D sd L 3 a b = D 3 0 0 + 1 := fun a b => if_pos rfl
  have e4 : ∀ b, dWrd D sd L 4 (D 3 0 0) b = L := fun b => by unfold dWrd; rw [if_neg (by decide), if_pos ⟨rfl, rfl⟩]
  have e5 : ∀ b, dWrd D sd L 5 (D 3 0 0) b = if 0 ≤ b ∧ b < L then sd b else 0 := fun b => by unfold dWrd; rw [if_neg (by decide), if_neg (by omega), if_pos ⟨rfl, rfl⟩]
  refine ⟨⟨fun a b => by rw [dWrd_lo (by decide) (by omega) (by omega)]; exact a0 a b, fun a b => by rw [dWrd_lo (by decide) (by omega) (by omega)]; exact a1 a b, fun a b => by rw [dWrd_lo (by decide) (by omega) (by omega)]; exact a2 a b, fun a b => by rw [e3]; omega, fun a b => ?_, fun a b => ?_, fun a b => by rw [dWrd_lo (by decide) (by omega) (by omega)]; exact a6 a b, fun a b => by rw [dWrd_lo (by decide) (by omega) (by omega)]; exact a8 a b⟩, ⟨fun h2 k r1 r2 r3 r4 => ?_, fun w r1 r2 => ?_, fun w k r1 r2 r3 r4 => ?_, fun w k r1 r2 r3 => ?_, fun w r1 r2 => ?_⟩, q⟩
  · by_cases c : a = D 3 0 0
    · rw [c, e4]; omega
    · rw [dWrd_lo (by decide) (by omega) (by omega)]; exact a4 a b
  · by_cases c : a = D 3 0 0
    · rw [c, e5]; split
      · rename_i z; have := hs b z.1 z.2; omega
      · omega
    · rw [dWrd_lo (by decide) (by omega) (by omega)]; exact a5 a b
  · rw [dWrd_lo (i := 0) (by decide) (by omega) (by omega)] at r4
    rw [dWrd_lo (i := 1) (by decide) (by omega) (by omega)]; exact p1 h2 k r1 r2 r3 r4
  · rw [e3] at r2
    by_cases c : w = D 3 0 0
    · rw [c, e4]; omega
    · rw [dWrd_lo (by decide) (by omega) (by omega)]; exact p2 w r1 (by omega)
  · rw [e3] at r2
    by_cases c : w = D 3 0 0
    · rw [c, e4] at r4
      rw [c, e5, if_pos ⟨r3, r4⟩]; exact (hs k r3 r4).1
    · rw [dWrd_lo (i := 4) (by decide) (by omega) (by omega)] at r4
      rw [dWrd_lo (i := 5) (by decide) (by omega) (by omega)]; exact p3 w k r1 (by omega) r3 r4
  · rw [e3] at r2
    by_cases c : w = D 3 0 0
    · rw [c, e4] at r3
      rw [c, e5, if_neg (by omega)]
    · rw [dWrd_lo (i := 4) (by decide) (by omega) (by omega)] at r3
      rw [dWrd_lo (i := 5) (by decide) (by omega) (by omega)]; exact p4 w k r1 (by omega) r3
  · rw [e3] at r2
    by_cases c : w = D 3 0 0
    · rw [c, canP (by rw [e4]; omega), e4]
      intro j j0 j1
      rw [dWrd_at, e5, if_pos ⟨j0, j1⟩]
      exact hc j j0 j1
    · exact (dWrd_can ok' (by omega)).mpr (p5 w r1 (by omega))
theorem dWrd_b {sd : Int → Int} {L : Int} (ok : zD_ok D pg) (hb : bOk D) : bOk (dWrd D sd L) := by
  intro b b0 b1
  rw [dWrd_lo (by decide) (by omega) (by omega)] at b1
  obtain ⟨c1, c2, c3⟩ := hb b b0 b1
  have e3 : dWrd D sd L 3 0 0 = D 3 0 0 + 1 := if_pos rfl
  rw [dWrd_lo (i := 7) (by decide) (by omega) (by omega), dWrd_lo (i := 7) (by decide) (by omega) (by omega), e3]
  exact ⟨by omega, c2, (dWrd_can ok c1.2).mpr c3⟩
theorem dBrd_lo {w h : Int} {i : Nat} {a b : Int} (hi : i ≠ 6) (h7 : i ≠ 7) : dBrd D w h i a b = D i a b := by
  unfold dBrd
  rw [if_neg hi, if_neg (by omega)]
theorem dRul_lo {k v : Int} {i : Nat} {a b : Int} (hi : i ≠ 8) : dRul D k v i a b = D i a b := by
  unfold dRul
  rw [if_neg (by omega)]
theorem at_cong {D2 : zD} (e0 : ∀ a b, D2 0 a b = D 0 a b) (e1 : ∀ a b, D2 1 a b = D 1 a b) {h x : Int} : pf_at D2 h x = pf_at D h x := by
  unfold pf_at
  rw [e0, show D2 1 h = D 1 h from funext (e1 h)]
theorem can_cong {D2 : zD} (e0 : ∀ a b, D2 0 a b = D 0 a b) (e1 : ∀ a b, D2 1 a b = D 1 a b) (e4 : ∀ a b, D2 4 a b = D 4 a b) (e5 : ∀ a b, D2 5 a b = D 5 a b) (ok : zD_ok D pg) {w h : Int} : pf_canPaint D2 w h = 1 ↔ pf_canPaint D w h = 1 := by
  have a4 := ok.a4 w 0
  rw [canP (by rw [e4]; exact a4.1), canP a4.1, e4]
  constructor
  · intro z j j0 j1; have := z j j0 j1; rwa [at_cong e0 e1, e5] at this
  · intro z j j0 j1; rw [at_cong e0 e1, e5]; exact z j j0 j1
theorem ok_cong {D2 : zD} (ok : zD_ok D pg) (e : ∀ i a b, i < 6 → D2 i a b = D i a b) (e6 : ∀ a b, 0 ≤ D2 6 a b ∧ D2 6 a b ≤ 4) (e8 : ∀ a b, 0 ≤ D2 8 a b ∧ D2 8 a b ≤ 100) : zD_ok D2 pg := by
  obtain ⟨⟨a0, a1, a2, a3, a4, a5, a6, a8⟩, ⟨p1, p2, p3, p4, p5⟩, q⟩ := ok
  have ok' : zD_ok D pg := ⟨⟨a0, a1, a2, a3, a4, a5, a6, a8⟩, ⟨p1, p2, p3, p4, p5⟩, q⟩
  refine ⟨⟨fun a b => by rw [e 0 a b (by decide)]; exact a0 a b, fun a b => by rw [e 1 a b (by decide)]; exact a1 a b, fun a b => by rw [e 2 a b (by decide)]; exact a2 a b, fun a b => by rw [e 3 a b (by decide)]; exact a3 a b, fun a b => by rw [e 4 a b (by decide)]; exact a4 a b, fun a b => by rw [e 5 a b (by decide)]; exact a5 a b, e6, e8⟩, ⟨fun h k r1 r2 r3 r4 => ?_, fun w r1 r2 => ?_, fun w k r1 r2 r3 r4 => ?_, fun w k r1 r2 r3 => ?_, fun w r1 r2 => ?_⟩, q⟩
  · rw [e 0 _ _ (by decide)] at r4; rw [e 1 _ _ (by decide)]; exact p1 h k r1 r2 r3 r4
  · rw [e 3 _ _ (by decide)] at r2; rw [e 4 _ _ (by decide)]; exact p2 w r1 r2
  · rw [e 3 _ _ (by decide)] at r2; rw [e 4 _ _ (by decide)] at r4; rw [e 5 _ _ (by decide)]; exact p3 w k r1 r2 r3 r4
  · rw [e 3 _ _ (by decide)] at r2; rw [e 4 _ _ (by decide)] at r3; rw [e 5 _ _ (by decide)]; exact p4 w k r1 r2 r3
  · rw [e 3 _ _ (by decide)] at r2
    exact (can_cong (fun a b => e 0 a b (by decide)) (fun a b => e 1 a b (by decide)) (fun a b => e 4 a b (by decide)) (fun a b => e 5 a b (by decide)) ok').mpr (p5 w r1 r2)
theorem dBrd_ok {w h : Int} (ok : zD_ok D pg) (hl : D 6 0 0 < 4) : zD_ok (dBrd D w h) pg := by
  have h6 := ok.a6 0 0
  refine ok_cong ok (fun i a b hi => dBrd_lo (by omega) (by omega)) (fun a b => ?_) (fun a b => by rw [dBrd_lo (by decide) (by decide)]; exact ok.a8 a b)
  rw [show dBrd D w h 6 a b = D 6 0 0 + 1 from if_pos rfl]; omega
theorem dBrd_b {w h : Int} (ok : zD_ok D pg) (hb : bOk D) (hw : 0 ≤ w ∧ w < D 3 0 0) (hh : 0 ≤ h ∧ h < 2) (hc : pf_canPaint D w h = 1) : bOk (dBrd D w h) := by
  have cc : ∀ {w2 h2 : Int}, pf_canPaint (dBrd D w h) w2 h2 = 1 ↔ pf_canPaint D w2 h2 = 1 := can_cong (fun a b => dBrd_lo (by decide) (by decide)) (fun a b => dBrd_lo (by decide) (by decide)) (fun a b => dBrd_lo (by decide) (by decide)) (fun a b => dBrd_lo (by decide) (by decide)) ok
  intro b b0 b1
  rw [show dBrd D w h 6 0 0 = D 6 0 0 + 1 from if_pos rfl] at b1
  rw [dBrd_lo (i := 3) (by decide) (by decide)]
  have e7 : ∀ c, dBrd D w h 7 b c = if b = D 6 0 0 then (if c = 0 then w else h) else D 7 b c := fun c => by
    unfold dBrd
    rw [if_neg (by decide)]
    by_cases q : b = D 6 0 0
    · rw [if_pos ⟨rfl, q⟩, if_pos q]
    · rw [if_neg (by omega), if_neg q]
  by_cases q : b = D 6 0 0
  · rw [e7, e7, if_pos q, if_pos q, if_pos rfl, if_neg (by decide)]
    exact ⟨hw, hh, cc.mpr hc⟩
  · rw [e7, e7, if_neg q, if_neg q]
    obtain ⟨c1, c2, c3⟩ := hb b b0 (by omega)
    exact ⟨c1, c2, cc.mpr c3⟩
theorem dRul_ok {k v : Int} (ok : zD_ok D pg) (hv : 0 ≤ v ∧ v ≤ 100) : zD_ok (dRul D k v) pg := by
  refine ok_cong ok (fun i a b hi => dRul_lo (by omega)) (fun a b => by rw [dRul_lo (by decide)]; exact ok.a6 a b) (fun a b => ?_)
  unfold dRul
  split
  · exact hv
  · exact ok.a8 a b
theorem dRul_b {k v : Int} (ok : zD_ok D pg) (hb : bOk D) : bOk (dRul D k v) := by
  intro b b0 b1
  rw [dRul_lo (by decide)] at b1
  obtain ⟨c1, c2, c3⟩ := hb b b0 b1
  rw [dRul_lo (i := 7) (by decide), dRul_lo (i := 7) (by decide), dRul_lo (i := 3) (by decide)]
  exact ⟨c1, c2, (can_cong (fun a b => dRul_lo (by decide)) (fun a b => dRul_lo (by decide)) (fun a b => dRul_lo (by decide)) (fun a b => dRul_lo (by decide)) ok).mpr c3⟩
theorem gPut_0 {cs : List Int} (ok : zD_ok D pg) (h : pf_tr 0 cs [] = some [false]) (hl : cs.length ≤ 1600) : zD_ok D (gPut pg 0 cs) := ⟨ok.1, ok.2.1, h, by show pg 1 = [] ∨ pf_tr 1 (pg 1) [] = some [true]; exact ok.2.2.2.1, hl, ok.2.2.2.2.2⟩
theorem gPut_1 {cs : List Int} (ok : zD_ok D pg) (h : pf_tr 1 cs [] = some [true]) (hl : cs.length ≤ 1600) : zD_ok D (gPut pg 1 cs) := ⟨ok.1, ok.2.1, ok.2.2.1, Or.inr h, ok.2.2.2.2.1, hl⟩
theorem dNew_ok : zD_ok dNew gNew := by
  have z : ∀ i a b, i ≠ 8 → dNew i a b = 0 := fun i a b h => if_neg h
  refine ⟨⟨fun a b => by rw [z _ _ _ (by decide)]; decide, fun a b => by rw [z _ _ _ (by decide)]; decide, fun a b => by rw [z _ _ _ (by decide)]; exact ⟨by decide, by decide⟩, fun a b => by rw [z _ _ _ (by decide)]; decide, fun a b => by rw [z _ _ _ (by decide)]; decide, fun a b => by rw [z _ _ _ (by decide)]; decide, fun a b => by rw [z _ _ _ (by decide)]; decide, fun a b => ?_⟩, ⟨fun h k r1 r2 r3 r4 => ?_, fun w r1 r2 => ?_, fun w k r1 r2 => ?_, fun w k r1 r2 => ?_, fun w r1 r2 => ?_⟩, by decide, Or.inl rfl, by decide, by decide⟩
  · unfold dNew
    rw [if_pos rfl]
    split
    · decide
    · split
      · decide
      · decide
  · rw [z 0 _ _ (by decide)] at r4; omega
  · rw [z 3 _ _ (by decide)] at r2; omega
  · rw [z 3 _ _ (by decide)] at r2; omega
  · rw [z 3 _ _ (by decide)] at r2; omega
  · rw [z 3 _ _ (by decide)] at r2; omega
theorem dNew_b : bOk dNew := fun b b0 b1 => by
  rw [show dNew 6 0 0 = 0 from rfl] at b1; omega
end ZDR
