/-! THE REFERENCE: lines asked, boards painted, images -/
def an_line (D : zD) (pg : zG) (o t h c : Int) : Int :=
  if (0 ≤ o ∧ o < D 3 0 0) ∧ (0 ≤ t ∧ t < D 3 0 0) then (if 0 ≤ h ∧ h ≤ 1 then (if 0 ≤ c ∧ c ≤ 2 then (if pf_canPaint D o h = 1 ∧ pf_canPaint D t h = 1 then (if c = 0 then (pf_L D pg o t h 0 0).1 else if c = 1 then (pf_L D pg o t h 0 0).2.1 else ((pf_ps D pg o t h).length : Int)) else -1) else -1) else -1) else -1
def an_piece (D : zD) (pg : zG) (o t h k c : Int) : Int :=
  if (0 ≤ o ∧ o < D 3 0 0) ∧ (0 ≤ t ∧ t < D 3 0 0) then (if 0 ≤ h ∧ h ≤ 1 then (if 0 ≤ c ∧ c ≤ 1 then (if (pf_canPaint D o h = 1 ∧ pf_canPaint D t h = 1) ∧ 0 ≤ k ∧ k < ((pf_ps D pg o t h).length : Int) then (if c = 0 then ((pf_ps D pg o t h).getD k.toNat (0, 0)).1 else ((pf_ps D pg o t h).getD k.toNat (0, 0)).2) else -1) else -1) else -1) else -1
def pf_bst (D : zD) (pg : zG) (w : Int) : Nat → Int → Int → Int → Int
  | 0, _, b, _ => b
  | n + 1, v, b, l => if b = -1 ∨ (pf_L D pg w v 0 0 0).1 < l then pf_bst D pg w n (v + 1) v (pf_L D pg w v 0 0 0).1 else pf_bst D pg w n (v + 1) b l
def an_best (D : zD) (pg : zG) (w : Int) : Int := if 0 ≤ w ∧ w < D 3 0 0 then pf_bst D pg w (D 3 0 0).toNat 0 (-1) 0 else -1
def an_hand (D : zD) (pg : zG) (o t : Int) : Int :=
  if (0 ≤ o ∧ o < D 3 0 0) ∧ (0 ≤ t ∧ t < D 3 0 0) then (if (pf_canPaint D o 1 = 1 ∧ pf_canPaint D t 1 = 1) ∧ (pf_L D pg o t 1 0 0).1 < (pf_L D pg o t 0 0 0).1 then 1 else 0) else -1
theorem can0 {D : zD} {pg : zG} (ok : zD_ok D pg) {w : Int} (hw : 0 ≤ w ∧ w < D 3 0 0) : pf_canPaint D w 0 = 1 := ok.2.1.2.2.2.2 w hw.1 hw.2
theorem pf_pg_0 {D : zD} {pg : zG} (ok : zD_ok D pg) {w h k : Int} (hw : 0 ≤ w ∧ w < D 3 0 0) (hh : 0 ≤ h ∧ h < 2) (hk : D 4 w 0 ≤ k) : pf_pg D w h k = 0 := by
  unfold pf_pg
  rw [ok.2.1.2.2.2.1 w k hw.1 hw.2 hk]
  rcases pf_at_in ok h 0 with q | ⟨q1, q2, q3⟩
  · rw [if_pos q]
  · have := ok.2.1.1 h _ hh.1 hh.2 q1 q2
    omega
def pf_pt (D W : zD) (b w h : Int) : zD := pf_paTo D W b w h 6
theorem wOk_pt {D W : zD} {pg : zG} (ok : zD_ok D pg) (h : wOk D W) {b w hd : Int} (hb : 0 ≤ b ∧ b < D 6 0 0) (hw : 0 ≤ w ∧ w < D 3 0 0) (hh : 0 ≤ hd ∧ hd < 2) (hc : pf_canPaint D w hd = 1) : wOk D (pf_pt D W b w hd) := by
  obtain ⟨a, b', c, d, e, f⟩ := h
  have o : ∀ (i : Nat) (x y : Int), (i ≠ 1 ∧ i ≠ 2 ∧ i ≠ 3) ∨ x ≠ b → pf_pt D W b w hd i x y = W i x y := by
    intro i x y q
    unfold pf_pt pf_paTo
    rw [if_neg (by omega), if_neg (by omega), if_neg (by omega)]
  have e1 : pf_pt D W b w hd 1 b 0 = w := by unfold pf_pt pf_paTo; rw [if_pos ⟨rfl, rfl, rfl⟩]
  have e2 : pf_pt D W b w hd 2 b 0 = hd := by unfold pf_pt pf_paTo; rw [if_neg (by omega), if_pos ⟨rfl, rfl, rfl⟩]
  refine ⟨?_, fun x y z => ?_, fun x y => ?_, ?_, fun x => ?_, fun x y z => ?_⟩
  · rw [o 0 _ _ (by omega)]; exact a
  · by_cases q : x = b
    · subst q
      rw [e1, e2]
      exact ⟨hw, hh, hc⟩
    · rw [o 1 _ _ (by omega), o 2 _ _ (by omega)]; exact b' x y z
  · unfold pf_pt pf_paTo
    rw [if_neg (by omega), if_neg (by omega)]
    split
    · exact pf_pg_15 ok _ _ _
    · exact c x y
  · rw [o 4 _ _ (by omega)]; exact d
  · rw [o 5 _ _ (by omega), o 5 _ _ (by omega), o 5 _ _ (by omega)]; exact e x
  · have := f x y z
    rw [o 1 _ _ (by omega), o 2 _ _ (by omega)]
    exact ⟨this.1, this.2.1, fun k => by rw [o 3 _ _ (by omega)]; exact this.2.2 k⟩
/-! the tape -/
def tR (T : Nat → Int) (n : Int) (I : zF) : Prop := I 0 1 = n ∧ (0 ≤ n ∧ n ≤ 1600) ∧ ∀ j : Nat, (j : Int) < n → I 1 j = T j ∧ 0 ≤ T j ∧ T j ≤ 255
def pf_by (w r : Int) : Int := ax_and (ax_shr w (8 * (3 - r))) 255
theorem and255 (x : Int) : 0 ≤ ax_and x 255 ∧ ax_and x 255 ≤ 255 := by
  have h : ∀ x : BitVec 32, 0 ≤ (x &&& 255#32).toInt ∧ (x &&& 255#32).toInt ≤ 255 := by
    intro x
    have h2 : (x &&& 255#32).toNat ≤ 255 := by rw [BitVec.toNat_and]; exact Nat.and_le_right
    rw [BitVec.toInt_eq_toNat_of_lt (by omega)]
    omega
  unfold ax_and
  have e : (Int32.ofInt x &&& Int32.ofInt 255).toInt = ((Int32.ofInt x).toBitVec &&& 255#32).toInt := rfl
  rw [e]
  exact h _
def pf_w5 (a b c d e k : Int) : Int := if k < 4 then a else if k < 8 then b else if k < 12 then c else if k < 16 then d else e
def pf_fT (T : Nat → Int) (n a b c d e : Int) : Nat → Int := fun j => if (j : Int) < n then T j else pf_by (pf_w5 a b c d e (j - n)) ((j - n) % 4)
/-! images -/
def oR (l : List Int) (I : zF) : Prop := I 0 116 = (l.length : Int) ∧ ∀ q, q < l.length → I 78 q = l.getD q 0
def pf_ck (l : List Int) : Int := l.foldl (fun c x => (3 * c + x) % 251) 223
def pf_imK (W : zD) (b : Int) : Nat → Int → List Int → List Int
  | 0, _, l => l
  | n + 1, k, l => pf_imK W b n (k + 1) (l ++ [W 3 b k / 256] ++ [W 3 b k % 256])
def pf_imB (W : zD) : Nat → Int → List Int → List Int
  | 0, _, l => l
  | n + 1, b, l => pf_imB W n (b + 1) (pf_imK W b 6 0 (l ++ [W 1 b 0] ++ [W 2 b 0]))
def pf_im0 (D W : zD) : List Int := pf_imB W (D 6 0 0).toNat 0 ([] ++ [W 0 0 0 / 256] ++ [W 0 0 0 % 256])
def pf_im (D W : zD) : List Int := pf_im0 D W ++ [pf_ck (pf_im0 D W)]
def bytes (l : List Int) : Prop := ∀ x, x ∈ l → 0 ≤ x ∧ x ≤ 255
theorem bytes_1 {l : List Int} (h : bytes l) {v : Int} (hv : 0 ≤ v ∧ v ≤ 255) : bytes (l ++ [v]) := by
  intro x hx
  rw [List.mem_append] at hx
  rcases hx with q | q
  · exact h x q
  · rw [List.mem_singleton] at q; subst q; exact hv
theorem getD_app {l : List Int} {v : Int} {q : Nat} : (l ++ [v]).getD q 0 = if q < l.length then l.getD q 0 else if q = l.length then v else 0 := by
  by_cases h : q < l.length
  · rw [if_pos h, List.getD_eq_getElem?_getD, List.getElem?_append_left h, List.getD_eq_getElem?_getD]
  · rw [if_neg h, List.getD_eq_getElem?_getD, List.getElem?_append_right (by omega)]
    by_cases h2 : q = l.length
    · rw [if_pos h2, h2, Nat.sub_self]; rfl
    · rw [if_neg h2, List.getElem?_eq_none (by rw [List.length_singleton]; omega)]; rfl
theorem pf_imK_len {W : zD} {b : Int} : ∀ (n : Nat) (k : Int) (l : List Int), (pf_imK W b n k l).length = l.length + 2 * n := by
  intro n
  induction n with
  | zero => intro k l; rfl
  | succ n ih => intro k l; unfold pf_imK; rw [ih, List.length_append, List.length_append, List.length_singleton, List.length_singleton]; omega
theorem pf_imB_len {W : zD} : ∀ (n : Nat) (b : Int) (l : List Int), (pf_imB W n b l).length = l.length + 14 * n := by
  intro n
  induction n with
  | zero => intro b l; rfl
  | succ n ih => intro b l; unfold pf_imB; rw [ih, pf_imK_len, List.length_append, List.length_append, List.length_singleton, List.length_singleton]; omega
theorem pf_im0_len {D W : zD} : (pf_im0 D W).length = 2 + 14 * (D 6 0 0).toNat := by
  unfold pf_im0
  rw [pf_imB_len]
  rfl
theorem pf_ck_app (l : List Int) (v : Int) : pf_ck (l ++ [v]) = (3 * pf_ck l + v) % 251 := by
  unfold pf_ck
  rw [List.foldl_append]
  rfl
theorem pf_ck_in (l : List Int) : 0 ≤ pf_ck l ∧ pf_ck l ≤ 250 := by
  by_cases h : l = []
  · subst h; exact ⟨by decide, by decide⟩
  · obtain ⟨l', v, rfl⟩ : ∃ l' v, l = l' ++ [v] := ⟨l.dropLast, l.getLast h, (List.dropLast_concat_getLast h).symm⟩
    rw [pf_ck_app]
    omega
section ZRD
variable {d : Nat} {I J : zF} {D : zD} {pg : zG} {W : zD} {P : Int → zF → zF → Prop} {P0 : zF → zF → Prop}
theorem sr_areWords (hS : rS D pg I) {o t : Int} (ho : n32 o) (ht : n32 t) (hP : P (if (0 ≤ o ∧ o < D 3 0 0) ∧ (0 ≤ t ∧ t < D 3 0 0) then 1 else 0) I J) : zr_i (d + 3) 256 [.inr (.inr (some 0)), .inl o, .inl t] I J P := by
  refine zr_ini (M := ax_m256) rfl (Nat.le_of_ble_eq_true rfl) (zq_areWords_0 I J o t ?_)
  rw [ho.w, ht.w]
  exact sr_isWord hS ho.n64 (bc (fun q => sr_isWord hS ht.n64 (bc (fun q2 => zr_Qi.of (by rwa [if_pos ⟨q, q2⟩] at hP)) (fun q2 => zr_Qi.of (by rwa [if_neg (fun r => q2 r.2)] at hP)))) (fun q => zr_Qi.of (by rwa [if_neg (fun r => q r.1)] at hP)))
theorem sr_line (hB : rB D pg W I) {o t h c : Int} (ho : n32 o) (ht : n32 t) (hh : n32 h) (hc : n32 c) (hP : ∀ I' J', rX I J I' J' → rB D pg W I' → P (an_line D pg o t h c) I' J') : zr_i (d + 9) 257 [.inr (.inr (some 0)), .inl o, .inl t, .inl h, .inl c] I J P := by
  unfold an_line at hP
  have hP0 := hP I J (rX.refl I J) hB
  refine zr_ini (M := ax_m257) rfl (Nat.le_of_ble_eq_true rfl) (zq_line_0 I J o t h c (sr_areWords hB.S ho ht (bc (fun q => ?_) (fun q => zr_Qi.of (by rwa [if_neg q] at hP0)))))
  rw [if_pos q] at hP hP0
  refine sr_isHand hh (bc (fun q2 => ?_) (fun q2 => zr_Qi.of (by rwa [if_neg q2] at hP0)))
  rw [if_pos q2] at hP hP0
  rw [hc.w]
  refine sr_isIn hc.n64 ⟨by decide, by decide⟩ ⟨by decide, by decide⟩ (bc (fun q3 => ?_) (fun q3 => zr_Qi.of (by rwa [if_neg q3] at hP0)))
  rw [if_pos q3] at hP
  refine sr_laysLine hB (by omega) q.1 q.2 (fun I1 J1 hX hB1 hL => ?_)
  have hP1 := hP I1 J1 hX hB1
  rw [show (ax_w 0).toNat = 0 from rfl]
  by_cases e : pf_canPaint D o h = 1 ∧ pf_canPaint D t h = 1
  · obtain ⟨l1, l2, l3, _⟩ := hL.2 e
    have hb := pf_L_b hB.S.ok o t h 0 0 (by decide) (by decide)
    have hb1 := hb.1
    rw [l1, l2, l3]
    rw [if_pos e] at hP1
    simp (disch := omega) only [zb_w]
    refine ⟨fun r => by omega, fun _ => ⟨fun r => zr_Qi.of ?_, fun r => ⟨fun r2 => zr_Qi.of ?_, fun r2 => zr_Qi.of ?_⟩⟩⟩
    · rwa [if_pos r] at hP1
    · rwa [if_neg r, if_pos r2] at hP1
    · rwa [if_neg r, if_neg r2] at hP1
  · obtain ⟨l1, _⟩ := hL.1 e
    rw [l1]
    rw [if_neg e] at hP1
    exact ⟨fun _ => zr_Qi.of hP1, fun r => absurd rfl r⟩
theorem sr_piece (hB : rB D pg W I) {o t h k c : Int} (ho : n32 o) (ht : n32 t) (hh : n32 h) (hk : n32 k) (hc : n32 c) (hP : ∀ I' J', rX I J I' J' → rB D pg W I' → P (an_piece D pg o t h k c) I' J') : zr_i (d + 9) 258 [.inr (.inr (some 0)), .inl o, .inl t, .inl h, .inl k, .inl c] I J P := by
  unfold an_piece at hP
  have hP0 := hP I J (rX.refl I J) hB
  refine zr_ini (M := ax_m258) rfl (Nat.le_of_ble_eq_true rfl) (zq_piece_0 I J o t h k c (sr_areWords hB.S ho ht (bc (fun q => ?_) (fun q => zr_Qi.of (by rwa [if_neg q] at hP0)))))
  rw [if_pos q] at hP hP0
  refine sr_isHand hh (bc (fun q2 => ?_) (fun q2 => zr_Qi.of (by rwa [if_neg q2] at hP0)))
  rw [if_pos q2] at hP hP0
  rw [hc.w]
  refine sr_isIn hc.n64 ⟨by decide, by decide⟩ ⟨by decide, by decide⟩ (bc (fun q3 => ?_) (fun q3 => zr_Qi.of (by rwa [if_neg q3] at hP0)))
  rw [if_pos q3] at hP
  refine sr_laysLine hB (by omega) q.1 q.2 (fun I1 J1 hX hB1 hL => ?_)
  have hP1 := hP I1 J1 hX hB1
  have hlen := pf_pc1_len (D := D) (pg := pg) (o := o) (t := t) (h := h) 12 0 0
  rw [hk.w]
  by_cases e : pf_canPaint D o h = 1 ∧ pf_canPaint D t h = 1
  · obtain ⟨l1, l2, l3, l4⟩ := hL.2 e
    have hlen' : (pf_ps D pg o t h).length ≤ 12 := hlen
    rw [l3, zb_w (x := ((pf_ps D pg o t h).length : Int) - 1) (by omega) (by omega)]
    refine sr_isIn hk.n64 ⟨by decide, by decide⟩ ⟨by omega, by omega⟩ (bc (fun q4 => ?_) (fun q4 => zr_Qi.of (by rwa [if_neg (by omega)] at hP1)))
    rw [if_pos ⟨e, by omega, by omega⟩] at hP1
    obtain ⟨m1, m2⟩ := l4 k.toNat (by omega)
    rw [m1, m2, show (ax_w 0 : Int) = 0 from rfl]
    refine ⟨fun r => ⟨by omega, zr_Qi.of ?_⟩, fun r => ⟨by omega, zr_Qi.of ?_⟩⟩
    · rwa [if_pos r] at hP1
    · rwa [if_neg r] at hP1
  · obtain ⟨_, l2⟩ := hL.1 e
    rw [l2, zb_w (x := 0 - 1) (by omega) (by omega)]
    refine sr_isIn hk.n64 ⟨by decide, by decide⟩ ⟨by decide, by decide⟩ (bc (fun q4 => by omega) (fun q4 => zr_Qi.of (by rwa [if_neg (fun r => e r.1)] at hP1)))
theorem sr_best_18 {I0 J0 : zF} (hB0 : rB D pg W I0) {w : Int} (hw : 0 ≤ w ∧ w < D 3 0 0) {Q : Option ax_v → ax_S → Prop} : ∀ (n : Nat) (v b l : Int) (I J : zF), rX I0 J0 I J → rB D pg W I → (-1 ≤ b ∧ b ≤ 8) → (0 ≤ l ∧ l ≤ 3000) → 0 ≤ v → v + n = D 3 0 0 → (∀ I' J', rX I0 J0 I' J' → rB D pg W I' → Q (some (.inl (pf_bst D pg w n v b l))) (zr_S I' J')) → zb_W (d + 8) ax_m259 (18, [some (.inr (.inr (some 0))), some (.inl w), some (.inl b), some (.inl l), some (.inl v)], [], zr_S I J) Q := by
  have h3 := hB0.S.ok.a3 0 0
  intro n
  induction n with
  | zero =>
    intro v b l I J hX hB hb hl h0 he hQ
    refine zq_best_18 I J w b l v (sr_wordMany hB.S ?_)
    simp (disch := omega) only [zb_w]
    exact ⟨fun q => by omega, fun _ => hQ I J hX hB⟩
  | succ n ih =>
    intro v b l I J hX hB hb hl h0 he hQ
    have hLb := (pf_L_b hB.S.ok w v 0 0 0 (by decide) (by decide)).1
    unfold pf_bst at hQ
    refine zq_best_18 I J w b l v (sr_wordMany hB.S ?_)
    rw [zb_w (x := v) (by omega) (by omega), zb_w (x := D 3 0 0) (by omega) (by omega)]
    refine ⟨fun q => sr_laysLine hB ⟨by decide, by decide⟩ hw ⟨h0, q⟩ (fun I1 J1 hX1 hB1 hL => ?_), fun q => by omega⟩
    obtain ⟨l1, _⟩ := hL.2 ⟨can0 hB.S.ok hw, can0 hB.S.ok ⟨h0, q⟩⟩
    have yes : (b = -1 ∨ (pf_L D pg w v 0 0 0).1 < l) → zb_W (d + 8) ax_m259 (53, [some (.inr (.inr (some 0))), some (.inl w), none, none, some (.inl v)], [], zr_S I1 J1) Q := by
      intro r
      rw [if_pos r] at hQ
      refine zq_best_53 I1 J1 w v (zq_best_63 I1 J1 w v _ v ?_)
      rw [show (ax_w 0).toNat = 0 from rfl, l1]
      exact ih (v + 1) v _ I1 J1 (hX.trans hX1) hB1 (by omega) (by omega) (by omega) (by omega) hQ
    rw [show (ax_w 0).toNat = 0 from rfl, l1]
    simp (disch := omega) only [zb_w]
    refine ⟨fun r => yes (Or.inl r), fun r => ⟨fun r2 => yes (Or.inr r2), fun r2 => ?_⟩⟩
    rw [if_neg (by omega)] at hQ
    exact zq_best_63 I1 J1 w b l v (ih (v + 1) b l I1 J1 (hX.trans hX1) hB1 hb hl (by omega) (by omega) hQ)
theorem sr_best (hB : rB D pg W I) {w : Int} (hw : n32 w) (hP : ∀ I' J', rX I J I' J' → rB D pg W I' → P (an_best D pg w) I' J') : zr_i (d + 9) 259 [.inr (.inr (some 0)), .inl w] I J P := by
  unfold an_best at hP
  have hP0 := hP I J (rX.refl I J) hB
  have h3 := hB.S.ok.a3 0 0
  refine zr_ini (M := ax_m259) rfl (Nat.le_of_ble_eq_true rfl) (zq_best_0 I J w ?_)
  rw [hw.w]
  refine sr_isWord hB.S hw.n64 (bc (fun q => ?_) (fun q => zr_Qi.of (by rwa [if_neg q] at hP0)))
  rw [if_pos q] at hP
  exact sr_best_18 hB q (D 3 0 0).toNat 0 (-1) 0 I J (rX.refl I J) hB ⟨by decide, by decide⟩ ⟨by decide, by decide⟩ (by decide) (by omega) (fun I' J' a b => zr_Qi.of (hP I' J' a b))
theorem sr_hand (hB : rB D pg W I) {o t : Int} (ho : n32 o) (ht : n32 t) (hP : ∀ I' J', rX I J I' J' → rB D pg W I' → P (an_hand D pg o t) I' J') : zr_i (d + 9) 260 [.inr (.inr (some 0)), .inl o, .inl t] I J P := by
  unfold an_hand at hP
  have hP0 := hP I J (rX.refl I J) hB
  refine zr_ini (M := ax_m260) rfl (Nat.le_of_ble_eq_true rfl) (zq_hand_0 I J o t (sr_areWords hB.S ho ht (bc (fun q => ?_) (fun q => zr_Qi.of (by rwa [if_neg q] at hP0)))))
  rw [if_pos q] at hP
  refine sr_laysLine hB ⟨by decide, by decide⟩ q.1 q.2 (fun I1 J1 hX hB1 hL => sr_laysLine hB1 ⟨by decide, by decide⟩ q.1 q.2 (fun I2 J2 hX2 hB2 hL2 => ?_))
  obtain ⟨l1, _⟩ := hL.2 ⟨can0 hB.S.ok q.1, can0 hB.S.ok q.2⟩
  have hP2 := hP I2 J2 (hX.trans hX2) hB2
  have hb0 := (pf_L_b hB.S.ok o t 0 0 0 (by decide) (by decide)).1
  have hb1 := (pf_L_b hB.S.ok o t 1 0 0 (by decide) (by decide)).1
  rw [show (ax_w 0).toNat = 0 from rfl, l1]
  by_cases e : pf_canPaint D o 1 = 1 ∧ pf_canPaint D t 1 = 1
  · obtain ⟨m1, _⟩ := hL2.2 e
    rw [m1]
    simp (disch := omega) only [zb_w]
    refine ⟨fun r => by omega, fun _ => ⟨fun r => zr_Qi.of ?_, fun r => zr_Qi.of ?_⟩⟩
    · rwa [if_pos ⟨e, r⟩] at hP2
    · rwa [if_neg (fun w => r w.2)] at hP2
  · obtain ⟨m1, _⟩ := hL2.1 e
    rw [m1]
    rw [if_neg (fun w => e w.1)] at hP2
    exact ⟨fun _ => zr_Qi.of hP2, fun r => absurd rfl r⟩
theorem sr_paints_27 {I0 : zF} (hS0 : rS D pg I0) (hn : 0 ≤ W 4 0 0 ∧ W 4 0 0 ≤ 40) {b w h : Int} (hb : 0 ≤ b ∧ b < 4) (hw : 0 ≤ w ∧ w < D 3 0 0) (hh : 0 ≤ h ∧ h < 2) (hc : pf_canPaint D w h = 1) {Q : Option ax_v → ax_S → Prop} : ∀ (n : Nat) (k : Int) (I : zF), (∀ i j, i ≠ 40 → I i j = I0 i j) → rowR (pf_paTo D W b w h k) (I 40) → 0 ≤ k → k + n = 6 → (∀ I', (∀ i j, i ≠ 40 → I' i j = I0 i j) → rowR (pf_paTo D W b w h 6) (I' 40) → Q none (zr_S I' J)) → zb_W (d + 2) ax_m219 (27, [some (.inr (.inr (some 0))), some (.inl b), some (.inl w), some (.inl h), some (.inl k)], [], zr_S I J) Q := by
  have h4 := hS0.ok.a4 w 0
  intro n
  induction n with
  | zero =>
    intro k I hF hr h0 he hQ
    have e : k = 6 := by omega
    subst e
    exact zq_paints_27 I J b w h 6 ⟨fun q => absurd q (by decide), fun _ => hQ I hF hr⟩
  | succ n ih =>
    intro k I hF hr h0 he hQ
    have hS : rS D pg I := rS_cong hS0 (fun i j _ _ _ => hF i j (by omega)) (hF 0 45 (by omega)) (hF 0 48 (by omega))
    have h5 := hS.ok.a5 w k
    have st : ∀ v, v = pf_pg D w h k → zb_W (d + 2) ax_m219 (27, [some (.inr (.inr (some 0))), some (.inl b), some (.inl w), some (.inl h), some (.inl (k + 1))], [], zr_S (ax_u I 40 (3 + 8 * b + k).toNat v) J) Q := by
      intro v hv
      subst hv
      refine ih (k + 1) _ (fun i j q => by rw [zu_ne (by omega)]; exact hF i j q) ?_ (by omega) (by omega) hQ
      rw [zu_row, pf_paTo_step]
      refine rowR_set3 hr ?_ hb (by omega)
      show 0 ≤ pf_paTo D W b w h k 4 0 0 ∧ pf_paTo D W b w h k 4 0 0 ≤ 40
      unfold pf_paTo
      rw [if_neg (by omega), if_neg (by omega), if_neg (by omega)]
      exact hn
    refine zq_paints_27 I J b w h k ?_
    simp (disch := omega) only [zb_w]
    refine ⟨fun _ => sr_longOf hS hw ?_, fun q => by omega⟩
    simp (disch := omega) only [zb_w]
    refine ⟨fun q => ?_, fun q => ⟨by omega, st 0 ?_⟩⟩
    · have ha := pf_at_in hS.ok h (D 5 w k)
      have hne := pf_canPaint_all hS.ok hc (k := k) ⟨h0, q⟩
      refine sr_letterOf hS hw ⟨h0, q⟩ (sr_letterAt hS hh ⟨by omega, by omega⟩ (sr_glyphOf hS hh (by omega) ⟨by omega, st _ ?_⟩))
      unfold pf_pg
      rw [if_neg hne]
    · rw [pf_pg_0 hS.ok hw hh (by omega)]
theorem sr_paints (hS : rS D pg I) (hn : 0 ≤ W 4 0 0 ∧ W 4 0 0 ≤ 40) (hr : rowR W (I 40)) {b w h : Int} (hb : 0 ≤ b ∧ b < 4) (hw : 0 ≤ w ∧ w < D 3 0 0) (hh : 0 ≤ h ∧ h < 2) (hc : pf_canPaint D w h = 1) (hP : ∀ I', (∀ i j, i ≠ 40 → I' i j = I i j) → rowR (pf_pt D W b w h) (I' 40) → P0 I' J) : zr_v (d + 3) 219 [.inr (.inr (some 0)), .inl b, .inl w, .inl h] I J P0 := by
  refine zr_inv (M := ax_m219) rfl (Nat.le_of_ble_eq_true rfl) (zq_paints_0 I J b w h ?_)
  simp (disch := omega) only [zb_w]
  refine ⟨by omega, by omega, sr_paints_27 hS hn hb hw hh hc 6 0 _ (fun i j q => by rw [zu_ne (by omega), zu_ne (by omega)]) ?_ (by decide) (by decide) (fun I' a b => zr_Qv.of (hP I' a b))⟩
  rw [zu_row, zu_row]
  exact rowR_pa1 hr D hn hb
theorem sr_paint {U : Nat → zD} {u : Int} (hB : rB D pg W I) (hU : uR D U u I) {b w h : Int} (hb : n32 b) (hw : n32 w) (hh : n32 h) (hP0 : ¬ ((0 ≤ b ∧ b < D 6 0 0) ∧ (0 ≤ w ∧ w < D 3 0 0) ∧ (0 ≤ h ∧ h ≤ 1) ∧ pf_canPaint D w h = 1) → P 0 (ax_u I 2 2 (I 2 2 + 1)) J) (hP : (0 ≤ b ∧ b < D 6 0 0) ∧ (0 ≤ w ∧ w < D 3 0 0) ∧ (0 ≤ h ∧ h ≤ 1) ∧ pf_canPaint D w h = 1 → ∀ I' I2, rK I I2 → (∀ a c, a ≠ 40 → I' a c = I2 a c) → rB D pg (pf_pt D W b w h) I' → uR D (consU W U) (if u < 20 then u + 1 else u) I' → P 1 I' J) : zr_i (d + 4) 276 [.inr (.inr (some 0)), .inl b, .inl w, .inl h] I J P := by
  have ref : ¬ ((0 ≤ b ∧ b < D 6 0 0) ∧ (0 ≤ w ∧ w < D 3 0 0) ∧ (0 ≤ h ∧ h ≤ 1) ∧ pf_canPaint D w h = 1) → zr_i (d + 3) 274 [.inr (.inr (some 0))] I J (fun r9 I6 J7 => ((r9 : Int) = 0 ∨ (r9 : Int) = 1) ∧ zr_Qi P (some (.inl r9)) (zr_S I6 J7)) := fun q => sr_isRefused ⟨Or.inl rfl, zr_Qi.of (hP0 q)⟩
  refine zr_ini (M := ax_m276) rfl (Nat.le_of_ble_eq_true rfl) (zq_paint_0 I J b w h (sr_isBoard hB.S hb (bc (fun q => ?_) (fun q => ref (fun r => q r.1)))))
  rw [hw.w]
  refine sr_isWord hB.S hw.n64 (bc (fun q2 => sr_isHand hh (bc (fun q3 => sr_canPaint hB.S q2 (by omega) (b01 (pf_can01 D w h _ _) (fun e => ?_) (fun e => ref (fun r => ?_)))) (fun q3 => ref (fun r => q3 r.2.2.1)))) (fun q2 => ref (fun r => q2 r.2.1)))
  · have e' : pf_canPaint D w h = 1 := e
    have h6 := hB.S.ok.a6 0 0
    refine sr_keeps hU hB.W hB.2.2 (fun I1 hK hU1 => ?_)
    have hB1 := hK.rB hB
    refine sr_paints hB1.S hB.W.n hB1.2.2 (by omega) q2 (by omega) e' (fun I2 hF hr => zr_Qi.of (hP ⟨q, q2, q3, e'⟩ I2 I1 hK hF ⟨?_, wOk_pt hB.S.ok hB.W q q2 (by omega) e', hr⟩ ?_))
    · exact rS_cong hB1.S (fun i j _ _ _ => hF i j (by omega)) (hF 0 45 (by omega)) (hF 0 48 (by omega))
    · exact uR_cong hU1 (fun j => hF 50 j (by omega)) (hF 0 78 (by omega)) (hF 0 79 (by omega))
  · have e' : pf_canPaint D w h = 0 := e
    omega
theorem sr_fault {c : Int} (hc : n32 c) (hP : P (if c = 0 then I 0 7 else if c = 1 then I 0 8 else -1) I J) : zr_i (d + 1) 202 [.inr (.inr (some 0)), .inl c] I J P := by
  refine zr_ini (M := ax_m202) rfl (Nat.le_of_ble_eq_true rfl) (zq_fault_0 I J c ?_)
  rw [hc.w, show ax_w 0 = 0 from rfl, show ax_w 1 = 1 from rfl]
  refine ⟨fun e => zr_Qi.of ?_, fun e => ⟨fun e2 => zr_Qi.of ?_, fun e2 => zr_Qi.of ?_⟩⟩
  · rwa [if_pos e] at hP
  · rwa [if_neg e, if_pos e2] at hP
  · rwa [if_neg e, if_neg e2] at hP
theorem sr_status {c : Int} (hc : n32 c) (hP : P (if 0 ≤ c ∧ c ≤ 5 then I 2 c.toNat else -1) I J) : zr_i (d + 2) 315 [.inr (.inr (some 0)), .inl c] I J P := by
  refine zr_ini (M := ax_m315) rfl (Nat.le_of_ble_eq_true rfl) (zq_status_0 I J c ?_)
  rw [hc.w]
  refine sr_isIn hc.n64 ⟨by decide, by decide⟩ ⟨by decide, by decide⟩ (bc (fun q => ⟨by omega, zr_Qi.of ?_⟩) (fun q => zr_Qi.of ?_))
  · rwa [if_pos q] at hP
  · rwa [if_neg q] at hP
theorem sr_end {T : Nat → Int} {n : Int} (hT : tR T n I) {m : Int} (hm : n32 m) (hP0 : ¬ (0 ≤ m ∧ m ≤ n) → P 0 (ax_u I 2 0 (I 2 0 + 1)) J) (hP : 0 ≤ m ∧ m ≤ n → P 1 (ax_u I 0 1 m) J) : zr_i (d + 1) 178 [.inr (.inr (some 0)), .inl m] I J P := by
  obtain ⟨h1, hn, _⟩ := hT
  refine zr_ini (M := ax_m178) rfl (Nat.le_of_ble_eq_true rfl) (zq_end_0 I J m ?_)
  rw [h1, hm.w, zb_w (x := n) (by omega) (by omega)]
  refine ⟨fun c => zr_Qi.of (hP0 (fun q => ?_)), fun c => ⟨fun c2 => zr_Qi.of (hP0 (by omega)), fun c2 => zr_Qi.of (hP ?_)⟩⟩
  · have c' : m < 0 := c
    omega
  · have c' : ¬ m < 0 := c
    omega
theorem sr_feed_28 {T0 : Nat → Int} {n0 a b c e f : Int} {I0 : zF} (hT0 : tR T0 n0 I0) (hn : n0 + 20 ≤ 1600) {Q : Option ax_v → ax_S → Prop} : ∀ (m : Nat) (k : Int) (I : zF), (∀ i j, i ≠ 1 → ¬ (i = 0 ∧ j = 1) → I i j = I0 i j) → tR (pf_fT T0 n0 a b c e f) (n0 + k) I → 0 ≤ k → k + m = 20 → (∀ I', (∀ i j, i ≠ 1 → ¬ (i = 0 ∧ j = 1) → I' i j = I0 i j) → tR (pf_fT T0 n0 a b c e f) (n0 + 20) I' → Q (some (.inl (n0 + 20))) (zr_S I' J)) → zb_W d ax_m177 (28, [some (.inr (.inr (some 0))), some (.inl a), some (.inl b), some (.inl c), some (.inl e), some (.inl f), some (.inl k), none], [], zr_S I J) Q := by
  obtain ⟨_, hn0, _⟩ := hT0
  intro m
  induction m with
  | zero =>
    intro k I hF hT h0 he hQ
    have e' : k = 20 := by omega
    subst e'
    refine zq_feed_28 I J a b c e f 20 ⟨fun q => absurd q (by decide), fun _ => ?_⟩
    rw [hT.1]
    exact hQ I hF hT
  | succ m ih =>
    intro k I hF hT h0 he hQ
    obtain ⟨t1, t2, t3⟩ := hT
    have em : Int.tmod k 4 = k % 4 := Int.tmod_eq_emod_of_nonneg h0
    have st : ∀ w, w = pf_w5 a b c e f k → zb_W d ax_m177 (28, [some (.inr (.inr (some 0))), some (.inl a), some (.inl b), some (.inl c), some (.inl e), some (.inl f), some (.inl (k + 1)), none], [], zr_S (ax_u (ax_u I 1 (n0 + k).toNat (ax_and (ax_shr w (8 * (3 - k % 4))) 255)) 0 1 ((ax_u I 1 (n0 + k).toNat (ax_and (ax_shr w (8 * (3 - k % 4))) 255)) 0 1 + 1)) J) Q := by
      intro w hw
      subst hw
      refine ih (k + 1) _ (fun i j q1 q2 => by rw [zu_ne (by omega), zu_ne (by omega)]; exact hF i j q1 q2) ⟨?_, by omega, fun j hj => ?_⟩ (by omega) (by omega) hQ
      · rw [zu_eq, zu_ne (by omega), t1]; omega
      · by_cases q : j = (n0 + k).toNat
        · have ev : pf_fT T0 n0 a b c e f j = ax_and (ax_shr (pf_w5 a b c e f k) (8 * (3 - k % 4))) 255 := by
            unfold pf_fT pf_by
            rw [if_neg (by omega), show (j : Int) - n0 = k by omega]
          rw [ev, q, zu_ne (by omega), zu_eq]
          exact ⟨rfl, and255 _⟩
        · rw [zu_ne (by omega), zu_ne (by omega)]
          exact t3 j (by omega)
    refine zq_feed_28 I J a b c e f k ?_
    rw [t1]
    simp (disch := omega) only [zb_w]
    rw [em]
    refine ⟨fun _ => ⟨fun q1 => ⟨by omega, st a ?_⟩, fun q1 => ⟨fun q2 => ⟨by omega, st b ?_⟩, fun q2 => ⟨fun q3 => ⟨by omega, st c ?_⟩, fun q3 => ⟨fun q4 => ⟨by omega, st e ?_⟩, fun q4 => ⟨by omega, st f ?_⟩⟩⟩⟩⟩, fun q => by omega⟩
    · unfold pf_w5; rw [if_pos q1]
    · unfold pf_w5; rw [if_neg q1, if_pos q2]
    · unfold pf_w5; rw [if_neg q1, if_neg q2, if_pos q3]
    · unfold pf_w5; rw [if_neg q1, if_neg q2, if_neg q3, if_pos q4]
    · unfold pf_w5; rw [if_neg q1, if_neg q2, if_neg q3, if_neg q4]
theorem sr_feed {T : Nat → Int} {n a b c e f : Int} (hT : tR T n I) (hP0 : 1600 < n + 20 → P (-1) (ax_u I 2 0 (I 2 0 + 1)) J) (hP : n + 20 ≤ 1600 → ∀ I', (∀ i j, i ≠ 1 → ¬ (i = 0 ∧ j = 1) → I' i j = I i j) → tR (pf_fT T n a b c e f) (n + 20) I' → P (n + 20) I' J) : zr_i (d + 1) 177 [.inr (.inr (some 0)), .inl a, .inl b, .inl c, .inl e, .inl f] I J P := by
  have hT' := hT
  obtain ⟨h1, hn, h3⟩ := hT
  refine zr_ini (M := ax_m177) rfl (Nat.le_of_ble_eq_true rfl) (zq_feed_0 I J a b c e f ?_)
  rw [h1]
  simp (disch := omega) only [zb_w]
  refine ⟨fun q => zr_Qi.of (hP0 q), fun q => sr_feed_28 hT' (by omega) 20 0 I (fun _ _ _ _ => rfl) ⟨by rw [h1]; omega, by omega, fun j hj => ?_⟩ (by decide) (by decide) (fun I' x y => zr_Qi.of (hP (by omega) I' x y))⟩
  have hj' : (j : Int) < n := by omega
  have ev : pf_fT T n a b c e f j = T j := by unfold pf_fT; rw [if_pos hj']
  rw [ev]
  exact h3 j hj'
end ZRD
