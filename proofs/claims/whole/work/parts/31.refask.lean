/-! THE REFERENCE: what is asked of letters, words, boards -/
theorem bc {c A B : Prop} {dc : Decidable c} (h1 : c → B) (h0 : ¬ c → A) : (ax_w (if c then (1 : Int) else 0) = ax_w 0 → A) ∧ (¬ ax_w (if c then (1 : Int) else 0) = ax_w 0 → B) := by
  by_cases h : c
  · rw [if_pos h]; exact ⟨fun e => absurd e (by decide), fun _ => h1 h⟩
  · rw [if_neg h]; exact ⟨fun _ => h0 h, fun e => absurd rfl e⟩
theorem b1 {A B : Prop} (h : B) : (ax_w 1 = ax_w 0 → A) ∧ (¬ ax_w 1 = ax_w 0 → B) := ⟨fun e => absurd e (by decide), fun _ => h⟩
theorem b0 {A B : Prop} (h : A) : (ax_w 0 = ax_w 0 → A) ∧ (¬ ax_w 0 = ax_w 0 → B) := ⟨fun _ => h, fun e => absurd rfl e⟩
theorem b01 {x : Int} {A B : Prop} (hx : x = 0 ∨ x = 1) (h1 : x = 1 → B) (h0 : x = 0 → A) : (ax_w x = ax_w 0 → A) ∧ (¬ ax_w x = ax_w 0 → B) := by
  rcases hx with rfl | rfl
  · exact b0 (h0 rfl)
  · exact b1 (h1 rfl)
/-- a branch on whole numbers of 32 bits -/
theorem be {x y : Int} {A B : Prop} (hx : n32 x) (hy : n32 y) (h1 : x = y → A) (h0 : x ≠ y → B) : (ax_w x = ax_w y → A) ∧ (¬ ax_w x = ax_w y → B) := by
  rw [hx.w, hy.w]
  exact ⟨h1, h0⟩
theorem bl {x y : Int} {A B : Prop} (hx : n32 x) (hy : n32 y) (h1 : x < y → A) (h0 : ¬ x < y → B) : (ax_w x < ax_w y → A) ∧ (¬ ax_w x < ax_w y → B) := by
  rw [hx.w, hy.w]
  exact ⟨h1, h0⟩
theorem lt32 {x : Int} (h : -1000000 ≤ x ∧ x ≤ 2000000) : n32 x := ⟨by omega, by omega⟩
/-- a place of a board -/
def isPl (D W : zD) (b k : Int) : Prop := (0 ≤ b ∧ b < D 6 0 0) ∧ (0 ≤ k ∧ k < D 4 (W 1 b 0) 0)
noncomputable section
def an_letter (D : zD) (h k c : Int) : Int := if (0 ≤ h ∧ h < 2) ∧ (0 ≤ k ∧ k < D 0 h 0) then (if c = 0 then D 1 h k else if c = 1 then D 2 h k else if c = 2 then pf_bits (D 2 h k) else -1) else -1
def an_word (D : zD) (w k : Int) : Int := if 0 ≤ w ∧ w < D 3 0 0 then (if 0 ≤ k ∧ k ≤ 5 then D 5 w k else -1) else -1
def an_board (D W : zD) (b c : Int) : Int := if 0 ≤ b ∧ b < D 6 0 0 then (if c = 0 then W 1 b 0 else if c = 1 then W 2 b 0 else if c = 2 then D 4 (W 1 b 0) 0 else -1) else -1
def an_glyph (D W : zD) (b k : Int) : Int := if (0 ≤ b ∧ b < D 6 0 0) ∧ (0 ≤ k ∧ k < D 4 (W 1 b 0) 0) then W 3 b k else -1
def an_kept (W : zD) (k c : Int) : Int := if 0 ≤ k ∧ k < W 4 0 0 then (if 0 ≤ c ∧ c ≤ 2 then W 5 k c else -1) else -1
def an_seen (g how : Int) : Int := if 0 ≤ g ∧ g < 32768 then (if 0 ≤ how ∧ how ≤ 3 then pf_seen g how else -1) else -1
def an_doubt (D : zD) (pg : zG) (h k g : Int) : Int := if (0 ≤ h ∧ h < 2) ∧ (0 ≤ k ∧ k < D 0 h 0) then (if 0 ≤ g ∧ g < 32768 then pf_doubt D pg h k g else -1000000000000000) else -1000000000000000
def an_reads (D : zD) (pg : zG) (h g how : Int) : Int := if 0 ≤ h ∧ h ≤ 1 then (if 0 ≤ g ∧ g < 32768 then (if 0 ≤ how ∧ how ≤ 3 then pf_read D pg h (pf_seen g how) else -1) else -1) else -1
end
section ZR7
variable {d : Nat} {I J : zF} {D : zD} {pg : zG} {W : zD} {P : Int → zF → zF → Prop} {P0 : zF → zF → Prop}
theorem sr_isPlace (hB : rB D pg W I) {b k : Int} (hb : n32 b) (hk : n32 k) (hP : P (if (0 ≤ b ∧ b < D 6 0 0) ∧ (0 ≤ k ∧ k < D 4 (W 1 b 0) 0) then 1 else 0) I J) : zr_i (d + 3) 241 [.inr (.inr (some 0)), .inl b, .inl k] I J P := by
  refine zr_ini (M := ax_m241) rfl (Nat.le_of_ble_eq_true rfl) (zq_isPlace_0 I J b k (sr_isBoard hB.S hb (bc (fun c => sr_wordOf hB c (sr_longOf hB.S (hB.W.w c) ?_)) (fun c => zr_Qi.of (by rwa [if_neg (fun q => c q.1)] at hP)))))
  have h4 := hB.S.ok.a4 (W 1 b 0) 0
  rw [hk.w, zb_w (x := D 4 (W 1 b 0) 0 - 1) (by omega) (by omega)]
  exact sr_isIn hk.n64 ⟨by decide, by decide⟩ ⟨by omega, by omega⟩ (bc (fun c2 => zr_Qi.of (by rwa [if_pos ⟨c, by omega⟩] at hP)) (fun c2 => zr_Qi.of (by rwa [if_neg (fun q => c2 (by omega))] at hP)))
theorem sr_glyph (hB : rB D pg W I) {b k : Int} (hb : n32 b) (hk : n32 k) (hP : P (an_glyph D W b k) I J) : zr_i (d + 4) 242 [.inr (.inr (some 0)), .inl b, .inl k] I J P := by
  unfold an_glyph at hP
  exact zr_ini (M := ax_m242) rfl (Nat.le_of_ble_eq_true rfl) (zq_glyph_0 I J b k (sr_isPlace hB hb hk (bc (fun c => sr_glyphAt hB c.1 (by have := hB.S.ok.a4 (W 1 b 0) 0; omega) (zr_Qi.of (by rwa [if_pos c] at hP))) (fun c => zr_Qi.of (by rwa [if_neg c] at hP)))))
theorem sr_letter (hS : rS D pg I) {h k c : Int} (hh : n32 h) (hk : n32 k) (hc : n32 c) (hP : P (an_letter D h k c) I J) : zr_i (d + 4) 238 [.inr (.inr (some 0)), .inl h, .inl k, .inl c] I J P := by
  unfold an_letter at hP
  refine zr_ini (M := ax_m238) rfl (Nat.le_of_ble_eq_true rfl) (zq_letter_0 I J h k c (sr_isLetterOf hS hh hk (bc (fun q => ?_) (fun q => zr_Qi.of (by rwa [if_neg q] at hP)))))
  rw [if_pos q] at hP
  exact be hc (lt32 (by omega)) (fun e => sr_nameOf hS q.1 q.2 (zr_Qi.of (by rwa [if_pos e] at hP))) (fun e => be hc (lt32 (by omega)) (fun e2 => sr_glyphOf hS q.1 q.2 (zr_Qi.of (by rwa [if_neg e, if_pos e2] at hP))) (fun e2 => be hc (lt32 (by omega)) (fun e3 => sr_glyphOf hS q.1 q.2 (sr_bits (hS.ok.a2 _ _) (zr_Qi.of (by rwa [if_neg e, if_neg e2, if_pos e3] at hP)))) (fun e3 => zr_Qi.of (by rwa [if_neg e, if_neg e2, if_neg e3] at hP))))
theorem sr_word (hS : rS D pg I) {w k : Int} (hw : n32 w) (hk : n32 k) (hP : P (an_word D w k) I J) : zr_i (d + 3) 239 [.inr (.inr (some 0)), .inl w, .inl k] I J P := by
  unfold an_word at hP
  refine zr_ini (M := ax_m239) rfl (Nat.le_of_ble_eq_true rfl) (zq_word_0 I J w k ?_)
  rw [hw.w]
  refine sr_isWord hS hw.n64 (bc (fun q => ?_) (fun q => zr_Qi.of (by rwa [if_neg q] at hP)))
  rw [if_pos q] at hP
  have h4 := hS.ok.a4 w 0
  rw [hk.w]
  refine sr_isIn hk.n64 ⟨by decide, by decide⟩ ⟨by decide, by decide⟩ (bc (fun q2 => sr_longOf hS q ?_) (fun q2 => zr_Qi.of (by rwa [if_neg q2] at hP)))
  rw [if_pos q2] at hP
  rw [zb_w (x := D 4 w 0) (by omega) (by omega)]
  refine ⟨fun c => sr_letterOf hS q ⟨q2.1, c⟩ (zr_Qi.of hP), fun c => zr_Qi.of ?_⟩
  rw [hS.ok.2.1.2.2.2.1 w k q.1 q.2 (by omega)] at hP
  exact hP
theorem sr_board (hB : rB D pg W I) {b c : Int} (hb : n32 b) (hc : n32 c) (hP : P (an_board D W b c) I J) : zr_i (d + 3) 240 [.inr (.inr (some 0)), .inl b, .inl c] I J P := by
  unfold an_board at hP
  refine zr_ini (M := ax_m240) rfl (Nat.le_of_ble_eq_true rfl) (zq_board_0 I J b c (sr_isBoard hB.S hb (bc (fun q => ?_) (fun q => zr_Qi.of (by rwa [if_neg q] at hP)))))
  rw [if_pos q] at hP
  exact be hc (lt32 (by omega)) (fun e => sr_wordOf hB q (zr_Qi.of (by rwa [if_pos e] at hP))) (fun e => be hc (lt32 (by omega)) (fun e2 => sr_handOf hB q (zr_Qi.of (by rwa [if_neg e, if_pos e2] at hP))) (fun e2 => be hc (lt32 (by omega)) (fun e3 => sr_wordOf hB q (sr_longOf hB.S (hB.W.w q) (zr_Qi.of (by rwa [if_neg e, if_neg e2, if_pos e3] at hP)))) (fun e3 => zr_Qi.of (by rwa [if_neg e, if_neg e2, if_neg e3] at hP))))
theorem sr_kept (hB : rB D pg W I) {k c : Int} (hk : n32 k) (hc : n32 c) (hP : P (an_kept W k c) I J) : zr_i (d + 2) 243 [.inr (.inr (some 0)), .inl k, .inl c] I J P := by
  unfold an_kept at hP
  have hn := hB.W.n
  refine zr_ini (M := ax_m243) rfl (Nat.le_of_ble_eq_true rfl) (zq_kept_0 I J k c ?_)
  rw [show (ax_w 33).toNat = 33 from rfl, hB.n, hk.w, hc.w, zb_w (x := W 4 0 0 - 1) (by omega) (by omega)]
  refine sr_isIn hk.n64 ⟨by decide, by decide⟩ ⟨by omega, by omega⟩ (bc (fun q => ?_) (fun q => zr_Qi.of (by rwa [if_neg (by omega)] at hP)))
  rw [if_pos (by omega)] at hP
  refine sr_isIn hc.n64 ⟨by decide, by decide⟩ ⟨by decide, by decide⟩ (bc (fun q2 => ?_) (fun q2 => zr_Qi.of (by rwa [if_neg q2] at hP)))
  rw [if_pos q2] at hP
  rw [zb_w (x := 34 + 3 * k + c) (by omega) (by omega), hB.k (by omega) (by omega)]
  exact ⟨by omega, zr_Qi.of hP⟩
theorem sr_seen {g how : Int} (hg : n32 g) (hh : n32 how) (hP : P (an_seen g how) I J) : zr_i (d + 3) 244 [.inr (.inr (some 0)), .inl g, .inl how] I J P := by
  unfold an_seen at hP
  refine zr_ini (M := ax_m244) rfl (Nat.le_of_ble_eq_true rfl) (zq_seen_0 I J g how (sr_isGlyph hg (bc (fun q => ?_) (fun q => zr_Qi.of (by rwa [if_neg q] at hP)))))
  rw [if_pos q] at hP
  rw [hh.w]
  refine sr_isIn hh.n64 ⟨by decide, by decide⟩ ⟨by decide, by decide⟩ (bc (fun q2 => sr_seenBy q hh (zr_Qi.of (by rwa [if_pos q2] at hP))) (fun q2 => zr_Qi.of (by rwa [if_neg q2] at hP)))
theorem sr_doubt (hS : rS D pg I) {h k g : Int} (hh : n32 h) (hk : n32 k) (hg : n32 g) (hP : ∀ I' J', rE I J I' J' → P (an_doubt D pg h k g) I' J') : zr_l (d + 5) 245 [.inr (.inr (some 0)), .inl h, .inl k, .inl g] I J P := by
  unfold an_doubt at hP
  refine zr_inl (M := ax_m245) rfl (Nat.le_of_ble_eq_true rfl) (zq_doubt_0 I J h k g (sr_isLetterOf hS hh hk (bc (fun q => ?_) (fun q => zr_Ql.of (by have := hP I J (rE.refl I J); rwa [if_neg q] at this)))))
  rw [if_pos q] at hP
  refine sr_isGlyph hg (bc (fun q2 => sr_doubtOf hS q.1 q.2 q2 (fun I' J' hE => ?_)) (fun q2 => zr_Ql.of (by have := hP I J (rE.refl I J); rwa [if_neg q2] at this)))
  have hd := pf_doubt_in hS.ok h k g
  rw [zb_w (x := pf_doubt D pg h k g) (by omega) (by omega)]
  rw [if_pos q2] at hP
  exact zr_Ql.of (hP I' J' hE)
theorem sr_reads (hS : rS D pg I) {h g how : Int} (hh : n32 h) (hg : n32 g) (hw : n32 how) (hP : ∀ I' J', rE I J I' J' → P (an_reads D pg h g how) I' J') : zr_i (d + 6) 246 [.inr (.inr (some 0)), .inl h, .inl g, .inl how] I J P := by
  unfold an_reads at hP
  refine zr_ini (M := ax_m246) rfl (Nat.le_of_ble_eq_true rfl) (zq_reads_0 I J h g how (sr_isHand hh (bc (fun q => ?_) (fun q => zr_Qi.of (by have := hP I J (rE.refl I J); rwa [if_neg q] at this)))))
  rw [if_pos q] at hP
  refine sr_isGlyph hg (bc (fun q2 => ?_) (fun q2 => zr_Qi.of (by have := hP I J (rE.refl I J); rwa [if_neg q2] at this)))
  rw [if_pos q2] at hP
  rw [hw.w]
  refine sr_isIn hw.n64 ⟨by decide, by decide⟩ ⟨by decide, by decide⟩ (bc (fun q3 => sr_seenBy q2 hw (sr_readAs hS (by omega) (pf_seen_15 _ _) (fun I' J' hE => ?_))) (fun q3 => zr_Qi.of (by have := hP I J (rE.refl I J); rwa [if_neg q3] at this)))
  rw [if_pos q3] at hP
  exact zr_Qi.of (hP I' J' hE)
/-! strokes on all boards -/
def pf_stK (W : zD) (b : Int) : Nat → Int → Int → Int
  | 0, _, l => l
  | n + 1, k, l => pf_stK W b n (k + 1) (l + pf_bits (W 3 b k))
def pf_stB (W : zD) : Nat → Int → Int → Int
  | 0, _, l => l
  | n + 1, b, l => pf_stB W n (b + 1) (pf_stK W b 6 0 l)
theorem sr_strokeMany_14 (hB : rB D pg W I) {b : Int} (hb : 0 ≤ b ∧ b < D 6 0 0) {Q : Option ax_v → ax_S → Prop} : ∀ (n : Nat) (k l : Int), 0 ≤ k → k + n = 6 → zb_W (d + 1) ax_m236 (4, [some (.inr (.inr (some 0))), some (.inl (pf_stK W b n k l)), some (.inl (b + 1)), none], [], zr_S I J) Q → zb_W (d + 1) ax_m236 (14, [some (.inr (.inr (some 0))), some (.inl l), some (.inl b), some (.inl k)], [], zr_S I J) Q := by
  intro n
  induction n with
  | zero =>
    intro k l h0 he hQ
    refine zq_strokeMany_14 I J l b k ?_
    simp (disch := omega) only [zb_w]
    exact ⟨fun c => by omega, fun _ => hQ⟩
  | succ n ih =>
    intro k l h0 he hQ
    refine zq_strokeMany_14 I J l b k ?_
    simp (disch := omega) only [zb_w]
    exact ⟨fun c => sr_glyphAt hB hb ⟨h0, c⟩ (sr_bits (hB.W.g b k) (ih (k + 1) _ (by omega) (by omega) hQ)), fun c => by omega⟩
theorem sr_strokeMany_4 (hB : rB D pg W I) {Q : Option ax_v → ax_S → Prop} : ∀ (n : Nat) (b l : Int), 0 ≤ b → b + n = D 6 0 0 → Q (some (.inl (pf_stB W n b l))) (zr_S I J) → zb_W (d + 1) ax_m236 (4, [some (.inr (.inr (some 0))), some (.inl l), some (.inl b), none], [], zr_S I J) Q := by
  have h6 := hB.S.ok.a6 0 0
  intro n
  induction n with
  | zero =>
    intro b l h0 he hQ
    refine zq_strokeMany_4 I J l b (sr_boardMany hB.S ?_)
    simp (disch := omega) only [zb_w]
    exact ⟨fun c => by omega, fun _ => hQ⟩
  | succ n ih =>
    intro b l h0 he hQ
    refine zq_strokeMany_4 I J l b (sr_boardMany hB.S ?_)
    simp (disch := omega) only [zb_w]
    exact ⟨fun c => sr_strokeMany_14 hB ⟨h0, c⟩ 6 0 l (by decide) (by decide) (ih (b + 1) _ (by omega) (by omega) hQ), fun c => by omega⟩
theorem sr_strokeMany (hB : rB D pg W I) (hP : P (pf_stB W (D 6 0 0).toNat 0 0) I J) : zr_i (d + 2) 236 [.inr (.inr (some 0))] I J P := by
  have h6 := hB.S.ok.a6 0 0
  exact zr_ini (M := ax_m236) rfl (Nat.le_of_ble_eq_true rfl) (zq_strokeMany_0 I J (sr_strokeMany_4 hB (D 6 0 0).toNat 0 0 (by decide) (by omega) (zr_Qi.of hP)))
def an_has (D W : zD) (u c : Int) : Int := if c = 0 then D 0 0 0 else if c = 1 then D 0 1 0 else if c = 2 then D 3 0 0 else if c = 3 then D 6 0 0 else if c = 4 then W 0 0 0 else if c = 5 then pf_stB W (D 6 0 0).toNat 0 0 else if c = 6 then W 4 0 0 else if c = 7 then u else -1
theorem sr_has (hB : rB D pg W I) {c u : Int} (hc : n32 c) (hu : I 0 78 = u) (hP : P (an_has D W u c) I J) : zr_i (d + 3) 237 [.inr (.inr (some 0)), .inl c] I J P := by
  unfold an_has at hP
  refine zr_ini (M := ax_m237) rfl (Nat.le_of_ble_eq_true rfl) (zq_has_0 I J c ?_)
  rw [hc.w]
  refine ⟨fun e => ?_, fun e => ⟨fun e1 => ?_, fun e1 => ⟨fun e2 => sr_wordMany hB.S (zr_Qi.of ?_), fun e2 => ⟨fun e3 => sr_boardMany hB.S (zr_Qi.of ?_), fun e3 => ⟨fun e4 => zr_Qi.of ?_, fun e4 => ⟨fun e5 => sr_strokeMany hB (zr_Qi.of ?_), fun e5 => ⟨fun e6 => zr_Qi.of ?_, fun e6 => ⟨fun e7 => zr_Qi.of ?_, fun e7 => zr_Qi.of ?_⟩⟩⟩⟩⟩⟩⟩⟩
  · subst e
    rw [zb_w (x := 2 + 0) (by decide) (by decide), hB.S.cn ⟨by decide, by decide⟩]
    exact ⟨⟨by decide, by decide⟩, zr_Qi.of hP⟩
  · subst e1
    rw [zb_w (x := 2 + 1) (by decide) (by decide), hB.S.cn ⟨by decide, by decide⟩]
    exact ⟨⟨by decide, by decide⟩, zr_Qi.of hP⟩
  · rwa [if_neg e, if_neg e1, if_pos e2] at hP
  · rwa [if_neg e, if_neg e1, if_neg e2, if_pos e3] at hP
  · rw [if_neg e, if_neg e1, if_neg e2, if_neg e3, if_pos e4, ← hB.y] at hP; exact hP
  · rwa [if_neg e, if_neg e1, if_neg e2, if_neg e3, if_neg e4, if_pos e5] at hP
  · rw [if_neg e, if_neg e1, if_neg e2, if_neg e3, if_neg e4, if_neg e5, if_pos e6, ← hB.n] at hP; exact hP
  · rw [if_neg e, if_neg e1, if_neg e2, if_neg e3, if_neg e4, if_neg e5, if_neg e6, if_pos e7, ← hu] at hP; exact hP
  · rwa [if_neg e, if_neg e1, if_neg e2, if_neg e3, if_neg e4, if_neg e5, if_neg e6, if_neg e7] at hP
theorem sr_isAhead (hB : rB D pg W I) {n a b : Int} (hn : n32 n) (ha : n32 a) (hb : n32 b) (hb2 : b ≤ 1000) (ha2 : -1000 ≤ a) (hP : P (if (a ≤ n ∧ n ≤ b) ∧ W 0 0 0 + n ≤ 999 then 1 else 0) I J) : zr_i (d + 2) 235 [.inr (.inr (some 0)), .inl n, .inl a, .inl b] I J P := by
  have hy := hB.W.y
  refine zr_ini (M := ax_m235) rfl (Nat.le_of_ble_eq_true rfl) (zq_isAhead_0 I J n a b ?_)
  rw [hn.w, ha.w, hb.w]
  refine sr_isIn hn.n64 ha.n64 hb.n64 (bc (fun q => ?_) (fun q => zr_Qi.of (by rwa [if_neg (fun r => q r.1)] at hP)))
  rw [show (ax_w 0).toNat = 0 from rfl, hB.y, zb_w (x := W 0 0 0 + n) (by omega) (by omega), zb_w (x := 999) (by omega) (by omega)]
  refine ⟨fun c => zr_Qi.of ?_, fun c => zr_Qi.of ?_⟩
  · rwa [if_neg (by omega)] at hP
  · rwa [if_pos ⟨q, by omega⟩] at hP
end ZR7
