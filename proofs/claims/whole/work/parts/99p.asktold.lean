/-! QUESTIONS: what they are answered; the reference weighs a word -/
def qv (D : zD) (y i p : Int) : Int := if p = 2 then pf_ink D i else if p = 7 then y else if p = 8 then i else D 4 i 0
def qq (D : zD) (pg : zG) (i c a : Int) : Int := if c = 0 then (if 0 ≤ a ∧ a < D 3 0 0 then (pf_L D pg i a 0 0 0).1 else -1) else (if 0 ≤ a ∧ a < D 4 i 0 then D 5 i a else -1)
def pTk (k v i : Int) (nw : Bool) (r : Int) : Int :=
  if k = 0 then (if v = 1 ∧ r = -1 then i else r) else if k = 1 then (if v = 1 then i else r) else if k = 2 then (if v = 1 then r + 1 else r) else if k = 3 then r + v
  else if k = 4 then (if nw = true ∨ r < v then v else r) else (if nw = true ∨ v < r then v else r)
def pAn (D : zD) (pg : zG) (y k : Int) (cs : List Int) : Nat → Int → Bool → Int → Int
  | 0, _, _, r => r
  | n + 1, i, nw, r => pAn D pg y k cs n (i + 1) false (pTk k (pf_res (qv D y i) (qq D pg i) cs) i nw r)
def an_ask (D : zD) (pg : zG) (W : zD) (k : Int) (cs : List Int) : Int := pAn D pg (W 0 0 0) k cs (D 3 0 0).toNat 0 true (if k < 2 then -1 else 0)
theorem inkL_b {D : zD} {w : Int} : ∀ (n : Nat) (k a : Int), 0 ≤ a → 0 ≤ pf_inkL D w n k a ∧ pf_inkL D w n k a ≤ a + 32767 * n := by
  intro n
  induction n with
  | zero => intro k a h; exact ⟨h, by show a ≤ a + _; omega⟩
  | succ n ih =>
    intro k a h
    have hb := pf_bits_b (pf_pg D w 0 k)
    have := ih (k + 1) (a + pf_bits (pf_pg D w 0 k)) (by omega)
    unfold pf_inkL
    omega
theorem ink_b {D : zD} {pg : zG} (ok : zD_ok D pg) (w : Int) : b6 (pf_ink D w) := by
  have h4 := ok.a4 w 0
  have := inkL_b (D := D) (w := w) (D 4 w 0).toNat 0 0 (by decide)
  unfold pf_ink b6
  omega
theorem qv_b {D W : zD} {pg : zG} (ok : zD_ok D pg) (hW : wOk D W) {i : Int} (hi : 0 ≤ i ∧ i < D 3 0 0) (p : Int) : b6 (qv D (W 0 0 0) i p) := by
  have h1 := ink_b ok i
  have h2 := hW.y
  have h3 := ok.a3 0 0
  have h4 := ok.a4 i 0
  unfold qv
  unfold b6 at h1 ⊢
  split
  · exact h1
  · split
    · omega
    · split
      · omega
      · omega
theorem qq_b {D : zD} {pg : zG} (ok : zD_ok D pg) {i : Int} (c a : Int) : b6 (qq D pg i c a) := by
  have h1 := (pf_L_b ok i a 0 0 0 (by decide) (by decide)).1
  have h2 := ok.a5 i a
  unfold qq
  unfold b6
  split
  · split
    · omega
    · omega
  · split
    · omega
    · omega
section ZAT
variable {d : Nat} {I J : zF} {D : zD} {pg : zG} {W : zD} {P : Int → zF → zF → Prop} {P0 : zF → zF → Prop}
theorem clip_id {x : Int} (h : b6 x) : pf_clip x = x := by
  have h1 := h.1
  have h2 := h.2
  unfold pf_clip
  rw [if_neg (by omega), if_neg (by omega)]
theorem sr_qPart2 (hB : rB D pg W I) {p i : Int} (hi : 0 ≤ i ∧ i < D 3 0 0) (hal : pf_al 2 (p + 40) = true) (hp9 : p ≤ 9) (h56 : I 0 56 = 2) (hP : P (qv D (W 0 0 0) i p) I J) : zr_l (d + 4) 300 [.inr (.inr (some 0)), .inl p, .inl i] I J P := by
  have hp := of_decide_eq_true hal
  have hb := (qv_b hB.S.ok hB.W hi p).n32
  have h40 : I 40 0 = W 0 0 0 := hB.2.2.1
  refine zr_inl (M := ax_m300) rfl (Nat.le_of_ble_eq_true rfl) (zq_qPartOf_0 I J p i ?_)
  rw [show (ax_w 0).toNat = 0 from rfl, h56, h40]
  have hc : p = 2 ∨ p = 7 ∨ p = 8 ∨ p = 9 := by omega
  rcases hc with rfl | rfl | rfl | rfl
  · exact ⟨fun e => absurd e (by decide), fun _ => ⟨fun e => absurd e (by decide), fun _ => ⟨fun _ => ⟨fun _ => sr_inkOf hB.S hi (zr_Ql.of (by rw [(ink_b hB.S.ok i).n32.w]; exact hP)), fun e => absurd rfl e⟩, fun e => absurd rfl e⟩⟩⟩
  · exact ⟨fun e => absurd e (by decide), fun _ => ⟨fun e => absurd e (by decide), fun _ => ⟨fun e => absurd e (by decide), fun _ => ⟨fun e => absurd e (by decide), fun _ => ⟨fun e => absurd e (by decide), fun _ => ⟨fun e => absurd e (by decide), fun _ => ⟨fun e => absurd e (by decide), fun _ => ⟨fun _ => zr_Ql.of (by rw [show ax_w (W 0 0 0) = qv D (W 0 0 0) i 7 from hb.w]; exact hP), fun e => absurd rfl e⟩⟩⟩⟩⟩⟩⟩⟩
  · exact ⟨fun e => absurd e (by decide), fun _ => ⟨fun e => absurd e (by decide), fun _ => ⟨fun e => absurd e (by decide), fun _ => ⟨fun e => absurd e (by decide), fun _ => ⟨fun e => absurd e (by decide), fun _ => ⟨fun e => absurd e (by decide), fun _ => ⟨fun e => absurd e (by decide), fun _ => ⟨fun e => absurd e (by decide), fun _ => ⟨fun _ => zr_Ql.of (by rw [show ax_w (i) = qv D (W 0 0 0) i 8 from hb.w]; exact hP), fun e => absurd rfl e⟩⟩⟩⟩⟩⟩⟩⟩⟩
  · exact ⟨fun e => absurd e (by decide), fun _ => ⟨fun e => absurd e (by decide), fun _ => ⟨fun e => absurd e (by decide), fun _ => ⟨fun e => absurd e (by decide), fun _ => ⟨fun e => absurd e (by decide), fun _ => ⟨fun e => absurd e (by decide), fun _ => ⟨fun e => absurd e (by decide), fun _ => ⟨fun e => absurd e (by decide), fun _ => ⟨fun e => absurd e (by decide), fun _ => sr_longOf hB.S hi (zr_Ql.of (by rw [show ax_w ((D 4 i 0)) = qv D (W 0 0 0) i 9 from hb.w]; exact hP))⟩⟩⟩⟩⟩⟩⟩⟩⟩
def lnR (D : zD) (pg : zG) (i : Int) (I : zF) : Prop := ∀ a, 0 ≤ a → a < D 3 0 0 → I 47 (8 * i + a).toNat = (pf_L D pg i a 0 0 0).1
theorem sr_qOf (hS : rS D pg I) {c a i : Int} (hc : c = 0 ∨ c = 1) (ha : b6 a) (hi : 0 ≤ i ∧ i < D 3 0 0) (hl : lnR D pg i I) (hP : P (qq D pg i c a) I J) : zr_l (d + 4) 301 [.inr (.inr (some 0)), .inl c, .inr (.inl a), .inl i] I J P := by
  have h3 := hS.ok.a3 0 0
  have h4 := hS.ok.a4 i 0
  have hb := (qq_b hS.ok (i := i) c a).n32
  have hq1 := ha.1
  have hq2 := ha.2
  refine zr_inl (M := ax_m301) rfl (Nat.le_of_ble_eq_true rfl) (zq_qOf_0 I J c a i ?_)
  rcases hc with rfl | rfl
  · have e : qq D pg i 0 a = if 0 ≤ a ∧ a < D 3 0 0 then (pf_L D pg i a 0 0 0).1 else -1 := rfl
    rw [e] at hP hb
    refine ⟨fun _ => sr_isWord hS ha.n64 ?_, fun z => absurd rfl z⟩
    by_cases hw : 0 ≤ a ∧ a < D 3 0 0
    · rw [if_pos hw] at hP hb ⊢
      refine b1 ?_
      rw [zb_w (x := 8 * i + a) (by omega) (by omega), hl a hw.1 hw.2, hb.w]
      exact ⟨by omega, zr_Ql.of hP⟩
    · rw [if_neg hw] at hP ⊢
      exact b0 (zr_Ql.of hP)
  · have e : qq D pg i 1 a = if 0 ≤ a ∧ a < D 4 i 0 then D 5 i a else -1 := rfl
    rw [e] at hP hb
    refine ⟨fun z => absurd z (by decide), fun _ => sr_longOf hS hi ?_⟩
    rw [zb_w (x := D 4 i 0 - 1) (by omega) (by omega)]
    refine sr_isIn ha.n64 ⟨by decide, by decide⟩ ⟨by omega, by omega⟩ ?_
    by_cases hw : 0 ≤ a ∧ a < D 4 i 0
    · rw [if_pos hw] at hP hb
      rw [if_pos (by omega)]
      exact b1 (sr_letterOf hS hi hw (zr_Ql.of (by rw [hb.w]; exact hP)))
    · rw [if_neg hw] at hP
      rw [if_neg (by omega)]
      exact b0 (zr_Ql.of hP)
end ZAT
