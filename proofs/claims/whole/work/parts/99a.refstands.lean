/-! THE REFERENCE: the shop that was read stands -/
def wNew : zD := fun _ _ _ => 0
def wHang (D : zD) : Nat → Int → zD → zD
  | 0, _, W => W
  | m + 1, b, W => wHang D m (b + 1) (pf_pt D W b (D 7 b 0) (D 7 b 1))
theorem wNew_ok {D : zD} {pg : zG} (ok : zD_ok D pg) (hb : bOk D) : wOk D wNew := by
  have z1 : (0 : Int) ≤ 0 ∧ (0 : Int) < 32768 := by decide
  have z2 : ((0 : Int) ≤ 0 ∧ (0 : Int) ≤ 999) ∧ ((0 : Int) ≤ 0 ∧ (0 : Int) < 8) ∧ ((0 : Int) ≤ 0 ∧ (0 : Int) < 8) := by decide
  have z3 : (0 : Int) ≤ 0 ∧ (0 : Int) < 2 := by decide
  refine ⟨by decide, fun b b0 b1 => ?_, fun b k => z1, by decide, fun k => z2, fun b _ _ => ⟨rfl, rfl, fun _ => rfl⟩⟩
  obtain ⟨c1, _, _⟩ := hb b b0 b1
  have z4 : (0 : Int) ≤ 0 ∧ (0 : Int) < D 3 0 0 := by omega
  exact ⟨z4, z3, ok.2.1.2.2.2.2 0 (by decide) (by omega)⟩
theorem wHang_ok {D : zD} {pg : zG} (ok : zD_ok D pg) (hb : bOk D) : ∀ (m : Nat) (b : Int) (W : zD), 0 ≤ b → b + m = D 6 0 0 → wOk D W → wOk D (wHang D m b W) := by
  intro m
  induction m with
  | zero => intro b W _ _ h; exact h
  | succ m ih =>
    intro b W h0 hm h
    obtain ⟨c1, c2, c3⟩ := hb b h0 (by omega)
    exact ih (b + 1) _ (by omega) (by omega) (wOk_pt ok h ⟨h0, by omega⟩ c1 c2 c3)
def wShop (D : zD) : zD := wHang D (D 6 0 0).toNat 0 wNew
/-- cell c is copied up by off, so many -/
def cpI (c off k : Nat) (I0 I : zF) : Prop := (∀ i j, i ≠ c → I i j = I0 i j) ∧ (∀ j, j < off → I c j = I0 c j) ∧ (∀ j, j < k → I c (off + j) = I0 c j)
theorem cpI.step {c off k : Nat} {I0 I : zF} (h : cpI c off k I0 I) (hk : k < off) : cpI c off (k + 1) I0 (ax_u I c (off + k) (I c k)) := by
  obtain ⟨a, b, e⟩ := h
  refine ⟨fun i j q => by rw [zu_ne (by omega)]; exact a i j q, fun j q => by rw [zu_ne (by omega)]; exact b j q, fun j q => ?_⟩
  by_cases z : j = k
  · rw [z, zu_eq]; exact b k hk
  · rw [zu_ne (by omega)]; exact e j (by omega)
def cp3 (k : Nat) (I0 I : zF) : Prop := (∀ i j, i ≠ 32 → i ≠ 37 → i ≠ 38 → I i j = I0 i j) ∧ ∀ c, c = 32 ∨ c = 37 ∨ c = 38 → (∀ j, j < 2 → I c j = I0 c j) ∧ (∀ j, j < k → I c (2 + j) = I0 c j)
theorem rc_of {I : zF} : ∀ (cs : List Int) (a : Int), 0 ≤ a → (∀ j : Nat, j < cs.length → I 39 ((1600 + a).toNat + j) = cs.getD j 0) → rc I a cs := by
  intro cs
  induction cs with
  | nil => intro a _ _; trivial
  | cons c r ih =>
    intro a h0 h
    refine ⟨?_, ih (a + 1) (by omega) (fun j j1 => ?_)⟩
    · have := h 0 (by simp)
      exact this
    · have := h (j + 1) (by rw [List.length_cons]; omega)
      rw [show (1600 + (a + 1)).toNat + j = (1600 + a).toNat + (j + 1) by omega]
      exact this
section ZRS3
variable {d : Nat} {J : zF} {X : zX} {P0 : zF → zF → Prop} {Q : Option ax_v → ax_S → Prop}
theorem sn_2 {I0 : zF} : ∀ (m k : Nat) (I : zF), k + m = 2 → cp3 k I0 I → (∀ I', cp3 2 I0 I' → zb_W d ax_m201 (57, [some (.inr (.inr (some 0))), some (.inl 0)], [], zr_S I' J) Q) → zb_W d ax_m201 (2, [some (.inr (.inr (some 0))), some (.inl ((k : Int)))], [], zr_S I J) Q := by
  intro m
  induction m with
  | zero =>
    intro k I hm h hQ
    have k2 : k = 2 := by omega
    subst k2
    exact zq_stands_2 I J _ ⟨fun q => absurd q (by decide), fun _ => hQ I h⟩
  | succ m ih =>
    intro k I hm h hQ
    refine zq_stands_2 I J (k : Int) ?_
    rw [zb_w (x := (k : Int)) (by omega) (by omega), zb_w (x := 2 + (k : Int)) (by omega) (by omega), show ((k : Int)).toNat = k by omega, show (2 + (k : Int)).toNat = 2 + k by omega]
    refine ⟨fun _ => ⟨by omega, by omega, by omega, by omega, by omega, by omega, ?_⟩, fun q => absurd (show (k : Int) < 2 by omega) q⟩
    have e37 : (ax_u I 32 (2 + k) (I 32 k)) 37 k = I 37 k := zu_ne (by omega)
    rw [e37]
    have e38 : (ax_u (ax_u I 32 (2 + k) (I 32 k)) 37 (2 + k) (I 37 k)) 38 k = I 38 k := by rw [zu_ne (by omega), zu_ne (by omega)]
    rw [e38]
    have := ih (k + 1) (ax_u (ax_u (ax_u I 32 (2 + k) (I 32 k)) 37 (2 + k) (I 37 k)) 38 (2 + k) (I 38 k)) (by omega) ?_ hQ
    · rw [show ((k + 1 : Nat) : Int) = (k : Int) + 1 by omega] at this
      exact this
    · refine ⟨fun i j a b c => by rw [zu_ne (by omega), zu_ne (by omega), zu_ne (by omega)]; exact h.1 i j a b c, fun c hc => ?_⟩
      obtain ⟨h1, h2⟩ := h.2 c hc
      refine ⟨fun j j1 => by rw [zu_ne (by omega), zu_ne (by omega), zu_ne (by omega)]; exact h1 j j1, fun j j1 => ?_⟩
      by_cases z : j = k
      · rw [z]
        rcases hc with q | q | q
        · subst q; rw [zu_ne (by omega), zu_ne (by omega), zu_eq]; exact h1 k (by omega)
        · subst q; rw [zu_ne (by omega), zu_eq]; exact h1 k (by omega)
        · subst q; rw [zu_eq]; exact h1 k (by omega)
      · rw [zu_ne (by omega), zu_ne (by omega), zu_ne (by omega)]; exact h2 j (by omega)
theorem sn_57 {I0 : zF} : ∀ (m k : Nat) (I : zF), k + m = 48 → cpI 33 48 k I0 I → (∀ I', cpI 33 48 48 I0 I' → zb_W d ax_m201 (94, [some (.inr (.inr (some 0))), some (.inl 0)], [], zr_S (ax_u I' 0 45 (I' 0 44)) J) Q) → zb_W d ax_m201 (57, [some (.inr (.inr (some 0))), some (.inl ((k : Int)))], [], zr_S I J) Q := by
  intro m
  induction m with
  | zero =>
    intro k I hm h hQ
    have k2 : k = 48 := by omega
    subst k2
    exact zq_stands_57 I J _ ⟨fun q => absurd q (by decide), fun _ => hQ I h⟩
  | succ m ih =>
    intro k I hm h hQ
    refine zq_stands_57 I J (k : Int) ?_
    rw [zb_w (x := (k : Int)) (by omega) (by omega), zb_w (x := 48 + (k : Int)) (by omega) (by omega), show ((k : Int)).toNat = k by omega, show (48 + (k : Int)).toNat = 48 + k by omega]
    refine ⟨fun _ => ⟨by omega, by omega, ?_⟩, fun q => absurd (show (k : Int) < 48 by omega) q⟩
    have := ih (k + 1) _ (by omega) (h.step (by omega)) hQ
    rw [show ((k + 1 : Nat) : Int) = (k : Int) + 1 by omega] at this
    exact this
theorem sn_94 {I0 : zF} : ∀ (m k : Nat) (I : zF), k + m = 56 → cpI 34 56 k I0 I → (∀ I', cpI 34 56 56 I0 I' → zb_W d ax_m201 (131, [some (.inr (.inr (some 0))), some (.inl 0)], [], zr_S (ax_u I' 0 48 (I' 0 47)) J) Q) → zb_W d ax_m201 (94, [some (.inr (.inr (some 0))), some (.inl ((k : Int)))], [], zr_S I J) Q := by
  intro m
  induction m with
  | zero =>
    intro k I hm h hQ
    have k2 : k = 56 := by omega
    subst k2
    exact zq_stands_94 I J _ ⟨fun q => absurd q (by decide), fun _ => hQ I h⟩
  | succ m ih =>
    intro k I hm h hQ
    refine zq_stands_94 I J (k : Int) ?_
    rw [zb_w (x := (k : Int)) (by omega) (by omega), zb_w (x := 56 + (k : Int)) (by omega) (by omega), show ((k : Int)).toNat = k by omega, show (56 + (k : Int)).toNat = 56 + k by omega]
    refine ⟨fun _ => ⟨by omega, by omega, ?_⟩, fun q => absurd (show (k : Int) < 56 by omega) q⟩
    have := ih (k + 1) _ (by omega) (h.step (by omega)) hQ
    rw [show ((k + 1 : Nat) : Int) = (k : Int) + 1 by omega] at this
    exact this
theorem sn_131 {I0 : zF} : ∀ (m k : Nat) (I : zF), k + m = 3 → cpI 36 3 k I0 I → (∀ I', cpI 36 3 3 I0 I' → zb_W d ax_m201 (158, [some (.inr (.inr (some 0))), some (.inl 0)], [], zr_S I' J) Q) → zb_W d ax_m201 (131, [some (.inr (.inr (some 0))), some (.inl ((k : Int)))], [], zr_S I J) Q := by
  intro m
  induction m with
  | zero =>
    intro k I hm h hQ
    have k2 : k = 3 := by omega
    subst k2
    exact zq_stands_131 I J _ ⟨fun q => absurd q (by decide), fun _ => hQ I h⟩
  | succ m ih =>
    intro k I hm h hQ
    refine zq_stands_131 I J (k : Int) ?_
    rw [zb_w (x := (k : Int)) (by omega) (by omega), zb_w (x := 3 + (k : Int)) (by omega) (by omega), show ((k : Int)).toNat = k by omega, show (3 + (k : Int)).toNat = 3 + k by omega]
    refine ⟨fun _ => ⟨by omega, by omega, ?_⟩, fun q => absurd (show (k : Int) < 3 by omega) q⟩
    have := ih (k + 1) _ (by omega) (h.step (by omega)) hQ
    rw [show ((k + 1 : Nat) : Int) = (k : Int) + 1 by omega] at this
    exact this
theorem sn_158 {I0 : zF} {c : Nat} (hc : c ≤ 1600) (h54 : I0 0 54 = (c : Int)) : ∀ (m k : Nat) (I : zF), k + m = c → cpI 39 1600 k I0 I → (∀ I', cpI 39 1600 c I0 I' → zb_W d ax_m201 (190, [some (.inr (.inr (some 0))), some (.inl 0)], [], zr_S I' J) Q) → zb_W d ax_m201 (158, [some (.inr (.inr (some 0))), some (.inl ((k : Int)))], [], zr_S I J) Q := by
  intro m
  induction m with
  | zero =>
    intro k I hm h hQ
    have k2 : k = c := by omega
    subst k2
    refine zq_stands_158 I J _ ?_
    rw [h.1 0 54 (by decide), h54]
    exact ⟨fun q => absurd q (Int.lt_irrefl _), fun _ => hQ I h⟩
  | succ m ih =>
    intro k I hm h hQ
    refine zq_stands_158 I J (k : Int) ?_
    rw [h.1 0 54 (by decide), h54, zb_w (x := (k : Int)) (by omega) (by omega), zb_w (x := (c : Int)) (by omega) (by omega), zb_w (x := 1600 + (k : Int)) (by omega) (by omega), show ((k : Int)).toNat = k by omega, show (1600 + (k : Int)).toNat = 1600 + k by omega]
    refine ⟨fun _ => ⟨by omega, by omega, ?_⟩, fun q => absurd (show (k : Int) < c by omega) q⟩
    have := ih (k + 1) _ (by omega) (h.step (by omega)) hQ
    rw [show ((k + 1 : Nat) : Int) = (k : Int) + 1 by omega] at this
    exact this
theorem sn_190 {I0 : zF} : ∀ (m k : Nat) (I : zF), k + m = 154 → (∀ i j, i ≠ 40 → I i j = I0 i j) → (∀ j, j < k → I 40 j = 0) → (∀ I', (∀ i j, i ≠ 40 → I' i j = I0 i j) → (∀ j, j < 154 → I' 40 j = 0) → zb_W d ax_m201 (212, [some (.inr (.inr (some 0))), some (.inl 0)], [], zr_S I' J) Q) → zb_W d ax_m201 (190, [some (.inr (.inr (some 0))), some (.inl ((k : Int)))], [], zr_S I J) Q := by
  intro m
  induction m with
  | zero =>
    intro k I hm h1 h2 hQ
    have k2 : k = 154 := by omega
    subst k2
    exact zq_stands_190 I J _ ⟨fun q => absurd q (by decide), fun _ => hQ I h1 h2⟩
  | succ m ih =>
    intro k I hm h1 h2 hQ
    refine zq_stands_190 I J (k : Int) ?_
    rw [zb_w (x := (k : Int)) (by omega) (by omega), show ((k : Int)).toNat = k by omega]
    refine ⟨fun _ => ⟨by omega, ?_⟩, fun q => absurd (show (k : Int) < 154 by omega) q⟩
    have := ih (k + 1) (ax_u I 40 k 0) (by omega) (fun i j a => by rw [zu_ne (by omega)]; exact h1 i j a) (fun j j1 => ?_) hQ
    · rw [show ((k + 1 : Nat) : Int) = (k : Int) + 1 by omega] at this
      exact this
    · by_cases z : j = k
      · rw [z, zu_eq]
      · rw [zu_ne (by omega)]; exact h2 j (by omega)
theorem sn_212 {I0 : zF} {D : zD} {pg : zG} (hb : bOk D) (h35 : ∀ b : Int, 0 ≤ b → b < D 6 0 0 → I0 35 (2 * b).toNat = D 7 b 0 ∧ I0 35 (2 * b + 1).toNat = D 7 b 1) (hS0 : rS D pg I0) : ∀ (m : Nat) (b : Int) (W : zD) (I : zF), 0 ≤ b → b + m = D 6 0 0 → (∀ i j, i ≠ 40 → I i j = I0 i j) → rS D pg I → wOk D W → rowR W (I 40) → (∀ I', (∀ i j, i ≠ 40 → I' i j = I0 i j) → rS D pg I' → rowR (wHang D m b W) (I' 40) → Q none (zr_S (ax_u I' 0 78 0) J)) → zb_W (d + 3) ax_m201 (212, [some (.inr (.inr (some 0))), some (.inl b)], [], zr_S I J) Q := by
  have a6 := hS0.ok.a6 0 0
  intro m
  induction m with
  | zero =>
    intro b W I h0 hm hF hS hW hr hQ
    have e48 : I 0 48 = D 6 0 0 := hS.2.2.2.2.2.2.1
    refine zq_stands_212 I J b ?_
    rw [e48, zb_w (x := b) (by omega) (by omega), zb_w (x := D 6 0 0) (by omega) (by omega)]
    exact ⟨fun q => by omega, fun _ => hQ I hF hS hr⟩
  | succ m ih =>
    intro b W I h0 hm hF hS hW hr hQ
    have e48 : I 0 48 = D 6 0 0 := hS.2.2.2.2.2.2.1
    obtain ⟨g1, g2⟩ := h35 b h0 (by omega)
    obtain ⟨c1, c2, c3⟩ := hb b h0 (by omega)
    have k1 : I 35 (2 * b).toNat = D 7 b 0 := by rw [hF 35 _ (by decide)]; exact g1
    have k2 : I 35 (2 * b + 1).toNat = D 7 b 1 := by rw [hF 35 _ (by decide)]; exact g2
    refine zq_stands_212 I J b ?_
    rw [e48, zb_w (x := b) (by omega) (by omega), zb_w (x := D 6 0 0) (by omega) (by omega), zb_w (x := 2 * b) (by omega) (by omega), zb_w (x := 2 * b + 1) (by omega) (by omega), k1, k2]
    refine ⟨fun _ => ⟨by omega, by omega, sr_paints hS hW.2.2.2.1 hr ⟨h0, by omega⟩ c1 c2 c3 (fun I1 f1 r1 => ih (b + 1) _ I1 (by omega) (by omega) (fun i j a => by rw [f1 i j a]; exact hF i j a) ?_ (wOk_pt hS.ok hW ⟨h0, by omega⟩ c1 c2 c3) r1 hQ)⟩, fun q => absurd (show b < D 6 0 0 by omega) q⟩
    exact rS_cong hS (fun i j q1 q2 _ => f1 i j (by omega)) (f1 0 45 (by decide)) (f1 0 48 (by decide))
end ZRS3
