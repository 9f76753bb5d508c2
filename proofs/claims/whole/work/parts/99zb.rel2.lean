/-! OPERATIONS, BOTH SIDES: the asking ones -/
section ZOPA
variable {D : zD} {pg : zG} {W : zD} {U : Nat → zD} {u s : Int} {T : Nat → Int} {n : Int} {l : List Int} {e f : Int} {st : Nat → Int}
theorem bo_fault {c : Int} (hc : n32 c) : bo 202 130 [.inl c] (.inl (if c = 0 then e else if c = 1 then f else -1)) (ZZ D pg W U u s T n l e f st) (ZZ D pg W U u s T n l e f st) :=
  ⟨fun I J h => toRi (sr_fault (d := 49) hc ⟨by rw [h.2.2.2.2.2.2.2.1.1, h.2.2.2.2.2.2.2.1.2], h⟩), fun hf pf I J h => toCi (sc_fault (d := 49) hc ⟨by rw [h.2.2.2.2.2.2.2.1.1, h.2.2.2.2.2.2.2.1.2], h⟩)⟩
theorem bo_has {c : Int} (hc : n32 c) : bo 237 131 [.inl c] (.inl (an_has D W u c)) (ZZ D pg W U u s T n l e f st) (ZZ D pg W U u s T n l e f st) :=
  ⟨fun I J h => toRi (sr_has (d := 47) h.1 hc h.2.1.1 ⟨rfl, h⟩), fun hf pf I J h => toCi (sc_has (d := 44) h.1 h.2.1 hc h.2.2.2.1.1 ⟨rfl, h⟩)⟩
theorem bo_letter {a b c : Int} (ha : n32 a) (hb : n32 b) (hc : n32 c) : bo 238 132 [.inl a, .inl b, .inl c] (.inl (an_letter D a b c)) (ZZ D pg W U u s T n l e f st) (ZZ D pg W U u s T n l e f st) :=
  ⟨fun I J h => toRi (sr_letter (d := 46) h.1.1 ha hb hc ⟨rfl, h⟩), fun hf pf I J h => toCi (sc_letter (d := 46) h.1 h.2.1.1 ha hb hc ⟨rfl, h⟩)⟩
theorem bo_word {a b : Int} (ha : n32 a) (hb : n32 b) : bo 239 133 [.inl a, .inl b] (.inl (an_word D a b)) (ZZ D pg W U u s T n l e f st) (ZZ D pg W U u s T n l e f st) :=
  ⟨fun I J h => toRi (sr_word (d := 47) h.1.1 ha hb ⟨rfl, h⟩), fun hf pf I J h => toCi (sc_word (d := 47) h.1 h.2.1.1 ha hb ⟨rfl, h⟩)⟩
theorem bo_board {a b : Int} (ha : n32 a) (hb : n32 b) : bo 240 134 [.inl a, .inl b] (.inl (an_board D W a b)) (ZZ D pg W U u s T n l e f st) (ZZ D pg W U u s T n l e f st) :=
  ⟨fun I J h => toRi (sr_board (d := 47) h.1 ha hb ⟨rfl, h⟩), fun hf pf I J h => toCi (sc_board (d := 46) h.1 h.2.1 ha hb ⟨rfl, h⟩)⟩
theorem bo_glyph {a b : Int} (ha : n32 a) (hb : n32 b) : bo 242 135 [.inl a, .inl b] (.inl (an_glyph D W a b)) (ZZ D pg W U u s T n l e f st) (ZZ D pg W U u s T n l e f st) :=
  ⟨fun I J h => toRi (sr_glyph (d := 46) h.1 ha hb ⟨rfl, h⟩), fun hf pf I J h => toCi (sc_glyph (d := 45) h.1 h.2.1 ha hb ⟨rfl, h⟩)⟩
theorem bo_kept {a b : Int} (ha : n32 a) (hb : n32 b) : bo 243 136 [.inl a, .inl b] (.inl (an_kept W a b)) (ZZ D pg W U u s T n l e f st) (ZZ D pg W U u s T n l e f st) :=
  ⟨fun I J h => toRi (sr_kept (d := 48) h.1 ha hb ⟨rfl, h⟩), fun hf pf I J h => toCi (sc_kept (d := 48) h.2.1 ha hb ⟨rfl, h⟩)⟩
theorem bo_seen {a b : Int} (ha : n32 a) (hb : n32 b) : bo 244 137 [.inl a, .inl b] (.inl (an_seen a b)) (ZZ D pg W U u s T n l e f st) (ZZ D pg W U u s T n l e f st) :=
  ⟨fun I J h => toRi (sr_seen (d := 47) ha hb ⟨rfl, h⟩), fun hf pf I J h => toCi (sc_seen (d := 48) ha hb ⟨rfl, h⟩)⟩
theorem bo_doubt {a b c : Int} (ha : n32 a) (hb : n32 b) (hc : n32 c) : bo 245 138 [.inl a, .inl b, .inl c] (.inr (.inl (an_doubt D pg a b c))) (ZZ D pg W U u s T n l e f st) (ZZ D pg W U u s T n l e f st) :=
  ⟨fun I J h => toRl (sr_doubt (d := 45) h.1.1 ha hb hc (fun I' J' q => ⟨rfl, RR_E h q⟩)), fun hf pf I J h => toCl (sc_doubt (d := 45) h.1 h.2.1.1 ha hb hc (fun I' q => ⟨rfl, CC_E (pf := pf) h q⟩))⟩
theorem bo_reads {a b c : Int} (ha : n32 a) (hb : n32 b) (hc : n32 c) : bo 246 139 [.inl a, .inl b, .inl c] (.inl (an_reads D pg a b c)) (ZZ D pg W U u s T n l e f st) (ZZ D pg W U u s T n l e f st) :=
  ⟨fun I J h => toRi (sr_reads (d := 44) h.1.1 ha hb hc (fun I' J' q => ⟨rfl, RR_E h q⟩)), fun hf pf I J h => toCi (sc_reads (d := 44) h.1 h.2.1.1 ha hb hc (fun I' q => ⟨rfl, CC_E (pf := pf) h q⟩))⟩
theorem bo_says {a b c k : Int} (ha : n32 a) (hb : n32 b) (hc : n32 c) (hk : n32 k) : bo 247 140 [.inl a, .inl b, .inl c, .inl k] (.inl (an_says D pg W a b c k)) (ZZ D pg W U u s T n l e f st) (ZZ D pg W U u s T n l e f st) :=
  ⟨fun I J h => toRi (sr_says (d := 41) h.1 h.2.2.1 ha hb hc hk (fun I' J' q q2 => ⟨rfl, RR_X h q q2⟩)), fun hf pf I J h => toCi (sc_says (d := 44) h.1 h.2.1 ha hb hc hk (fun I' q => ⟨rfl, CC_E (pf := pf) h q⟩))⟩
theorem bo_becomes {a b c : Int} (ha : n32 a) (hb : n32 b) (hc : n32 c) : bo 249 141 [.inl a, .inl b, .inl c] (.inl (an_becomes D pg a b c)) (ZZ D pg W U u s T n l e f st) (ZZ D pg W U u s T n l e f st) :=
  ⟨fun I J h => toRi (sr_becomes (d := 43) h.1 ha hb hc (fun I' J' q q2 => ⟨rfl, RR_X h q q2⟩)), fun hf pf I J h => toCi (sc_becomes (d := 43) h.1 h.2.1 ha hb hc (fun I' q q2 => ⟨rfl, CC_U (pf := pf) h q q2⟩))⟩
theorem bo_line {a b c k : Int} (ha : n32 a) (hb : n32 b) (hc : n32 c) (hk : n32 k) : bo 257 142 [.inl a, .inl b, .inl c, .inl k] (.inl (an_line D pg a b c k)) (ZZ D pg W U u s T n l e f st) (ZZ D pg W U u s T n l e f st) :=
  ⟨fun I J h => toRi (sr_line (d := 41) h.1 ha hb hc hk (fun I' J' q q2 => ⟨rfl, RR_X h q q2⟩)), fun hf pf I J h => toCi (sc_line (d := 43) h.1 h.2.1 h.2.2.1 ha hb hc hk (fun I' q q2 => ⟨rfl, CC_G (pf := pf) h q q2⟩))⟩
theorem bo_piece {a b c k g : Int} (ha : n32 a) (hb : n32 b) (hc : n32 c) (hk : n32 k) (hg : n32 g) : bo 258 143 [.inl a, .inl b, .inl c, .inl k, .inl g] (.inl (an_piece D pg a b c k g)) (ZZ D pg W U u s T n l e f st) (ZZ D pg W U u s T n l e f st) :=
  ⟨fun I J h => toRi (sr_piece (d := 41) h.1 ha hb hc hk hg (fun I' J' q q2 => ⟨rfl, RR_X h q q2⟩)), fun hf pf I J h => toCi (sc_piece (d := 43) h.1 h.2.1 h.2.2.1 ha hb hc hk hg (fun I' q q2 => ⟨rfl, CC_G (pf := pf) h q q2⟩))⟩
theorem bo_best {a : Int} (ha : n32 a) : bo 259 144 [.inl a] (.inl (an_best D pg a)) (ZZ D pg W U u s T n l e f st) (ZZ D pg W U u s T n l e f st) :=
  ⟨fun I J h => toRi (sr_best (d := 41) h.1 ha (fun I' J' q q2 => ⟨rfl, RR_X h q q2⟩)), fun hf pf I J h => toCi (sc_best (d := 42) h.1 h.2.1 h.2.2.1 ha (fun I' q q2 => ⟨rfl, CC_G (pf := pf) h q q2⟩))⟩
theorem bo_hand {a b : Int} (ha : n32 a) (hb : n32 b) : bo 260 145 [.inl a, .inl b] (.inl (an_hand D pg a b)) (ZZ D pg W U u s T n l e f st) (ZZ D pg W U u s T n l e f st) :=
  ⟨fun I J h => toRi (sr_hand (d := 41) h.1 ha hb (fun I' J' q q2 => ⟨rfl, RR_X h q q2⟩)), fun hf pf I J h => toCi (sc_hand (d := 42) h.1 h.2.1 h.2.2.1 ha hb (fun I' q q2 => ⟨rfl, CC_G (pf := pf) h q q2⟩))⟩
theorem bo_been {a : Int} (ha : n32 a) : bo 262 146 [.inl a] (.inl (an_been D W a)) (ZZ D pg W U u s T n l e f st) (ZZ D pg W U u s T n l e f st) :=
  ⟨fun I J h => toRi (sr_been (d := 45) h.1 ha ⟨rfl, h⟩), fun hf pf I J h => toCi (sc_been (d := 44) h.1 h.2.1 ha ⟨rfl, h⟩)⟩
theorem bo_lasts {a : Int} (ha : n32 a) : bo 264 147 [.inl a] (.inl (an_lasts D pg W a)) (ZZ D pg W U u s T n l e f st) (ZZ D pg W U u s T n l e f st) :=
  ⟨fun I J h => toRi (sr_lasts (d := 42) h.1 h.2.2.1 ha (fun I' J' q q2 => ⟨rfl, RR_X h q q2⟩)), fun hf pf I J h => toCi (sc_lasts (d := 43) h.1 h.2.1 ha (fun I' q => ⟨rfl, CC_E (pf := pf) h q⟩))⟩
theorem bo_mend {a b c : Int} (ha : n32 a) (hb : n32 b) (hc : n32 c) : bo 265 148 [.inl a, .inl b, .inl c] (.inl (an_mend D pg W a b c)) (ZZ D pg W U u s T n l e f st) (ZZ D pg W U u s T n l e f st) :=
  ⟨fun I J h => toRi (sr_mend (d := 44) h.1 ha hb hc (fun I' J' q => ⟨rfl, RR_E h q⟩)), fun hf pf I J h => toCi (sc_mend (d := 43) h.1 h.2.1 ha hb hc (fun I' q => ⟨rfl, CC_E (pf := pf) h q⟩))⟩
theorem bo_octet {a : Int} (ha : n32 a) : bo 310 157 [.inl a] (.inl (if 0 ≤ a ∧ a < (l.length : Int) then l.getD a.toNat 0 else -1)) (ZZ D pg W U u s T n l e f st) (ZZ D pg W U u s T n l e f st) :=
  ⟨fun I J h => toRi (sr_octet (d := 49) h.2.2.2.2.2.1.1 h.2.2.2.2.2.1.2 ha ⟨rfl, h⟩), fun hf pf I J h => toCi (sc_octet (d := 48) h.2.2.2.2.2.2.1.1 h.2.2.2.2.2.2.1.2 ha ⟨rfl, h⟩)⟩
theorem bo_status {a : Int} (ha : n32 a) : bo 315 159 [.inl a] (.inl (if 0 ≤ a ∧ a ≤ 5 then st a.toNat else -1)) (ZZ D pg W U u s T n l e f st) (ZZ D pg W U u s T n l e f st) := by
  refine ⟨fun I J h => toRi (sr_status (d := 48) ha ⟨?_, h⟩), fun hf pf I J h => toCi (sc_status (d := 49) ha ⟨?_, h⟩)⟩
  · by_cases q : 0 ≤ a ∧ a ≤ 5
    · rw [if_pos q, if_pos q]; exact h.2.2.2.2.2.2.2.2 _ (by omega)
    · rw [if_neg q, if_neg q]
  · by_cases q : 0 ≤ a ∧ a ≤ 5
    · rw [if_pos q, if_pos q]; exact h.2.2.2.2.2.2.2.2.1 _ (by omega)
    · rw [if_neg q, if_neg q]
end ZOPA
