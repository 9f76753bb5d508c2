/-! what the checks give of a method, a field, a link -/
def ax_rk (rt : Nat) (r : Option FieldType) : Bool := match rt, r with
  | 0, none => true
  | 1, some .int => true
  | 2, some .long => true
  | 3, some .boolean => true
  | _, _ => false
def ax_hd (c : String) : Bool := decide (c ≠ "java/lang/invoke/MethodHandle") && decide (c ≠ "java/lang/invoke/VarHandle")
def ax_k2 (m : Nat) : Bool := match ax_T[m]? with
  | some M => plainFor (ax_yn m) && decide (ax_oc M.1 = (ax_yn m).cls) && ax_hd (ax_yn m).cls
    && decide ((parseMethodDescriptor (ax_yn m).desc).map (fun d => d.parameters.length) = some (if M.2.2.2.2.2.1 then M.2.1 else M.2.1 - 1)) && ax_rk M.2.2.2.1 (ax_yr m) && Nat.ble M.2.2.1 40
    && (decide ((ax_yn m).name = "<init>") == M.2.2.2.2.1)
    && (if M.2.2.2.2.2.1 then ax_pstat.contains m else Nat.ble 1 M.2.1 && Nat.blt M.1 13 && ax_pinst.contains m && (M.2.2.2.2.1 || ax_psel.contains m)) && ax_pini.contains M.1 && Nat.blt M.1 17
  | none => false
set_option maxRecDepth 100000 in
theorem ax_ok2 : (List.range 326).all ax_k2 = true := by decide +kernel
def ax_kty (t : Nat) (y : FieldType) : Bool := match t, y with
  | 0, .int => true
  | 1, .long => true
  | 2, .object _ => true
  | 2, .array _ => true
  | 3, .boolean => true
  | _, _ => false
def ax_k3 (own : Nat) (r : Nat × Nat × Nat × Nat × Bool × Bool) : Bool := match r with
  | (_, ci, f, t, fin, _) => Nat.blt ci 13 && Nat.blt f (ax_fn ci) && Nat.beq t (ax_tk ci f) && decide (fin = (ax_tx ci f).2.2.2) && decide ((ax_tx ci f).1 = ax_oc ci)
def ax_all {α : Type} (k : Nat → α → Bool) (t : List (List α)) : Bool := (List.range t.length).all (fun o => (t.getD o []).all (k o))
set_option maxRecDepth 100000 in
theorem ax_ok3 : ax_all ax_k3 ax_frT = true := by decide +kernel
def ax_k8 (c : Nat) : Bool := (List.range (ax_fn c)).all (fun k => decide (parseFieldDescriptor (ax_tx c k).2.2.1 = some (ax_ty c k)) && ax_kty (ax_tk c k) (ax_ty c k)) && (List.range (ax_fn c)).all (fun a => (List.range (ax_fn c)).all (fun b => Nat.beq a b || decide ((ax_tx c a).2.1 ≠ (ax_tx c b).2.1)))
set_option maxRecDepth 100000 in
theorem ax_ok8a : (List.range 12).all ax_k8 = true := by decide +kernel
set_option maxRecDepth 100000 in
theorem ax_ok8b : ax_k8 12 = true := by decide +kernel
theorem ax_ok8 {c : Nat} (h : c < 13) : ax_k8 c = true := by
  by_cases e : c < 12
  · exact List.all_eq_true.mp ax_ok8a c (List.mem_range.mpr e)
  · rw [show c = 12 by omega]; exact ax_ok8b
def ax_k5 (own : Nat) (r : Nat × (Int ⊕ Nat)) : Bool := match r with
  | (idx, .inr a) => Nat.blt a 35 && decide ((ax_sx[a]?).map (fun q => (q.1, q.2.1)) = some (ax_oc own, idx))
  | _ => true
theorem ax_ok5 : ax_all ax_k5 ax_ctT = true := by decide +kernel
theorem ax_Tn : ax_T.length = 326 := by decide +kernel
theorem ax_lk {α : Type} {k : Nat} {v : α} : ∀ {l : List (Nat × α)}, l.lookup k = some v → (k, v) ∈ l := by
  intro l
  induction l with
  | nil => intro h; cases h
  | cons a r ih =>
    intro h
    obtain ⟨x, y⟩ := a
    rw [List.lookup_cons] at h
    by_cases e : k = x
    · subst e
      simp at h
      subst h
      exact List.mem_cons_self
    · have e' : (k == x) = false := by simpa using e
      rw [e'] at h
      exact List.mem_cons_of_mem _ (ih h)
theorem ax_all_at {α : Type} {k : Nat → α → Bool} {t : List (List α)} (h : ax_all k t = true) {o : Nat} {r : α} (hr : r ∈ t.getD o []) : k o r = true := by
  by_cases ho : o < t.length
  · exact List.all_eq_true.mp (List.all_eq_true.mp h o (List.mem_range.mpr ho)) r hr
  · rw [List.getD_eq_getElem?_getD, List.getElem?_eq_none (by omega)] at hr
    cases hr
theorem ax_lt {m : Nat} {M : ax_M} (h : ax_T[m]? = some M) : m < 326 := by
  have := (List.getElem?_eq_some_iff.mp h).1
  rw [ax_Tn] at this
  exact this
theorem ax_fact {m : Nat} {M : ax_M} (h : ax_T[m]? = some M) : plainFor (ax_yn m) = true ∧ ax_oc M.1 = (ax_yn m).cls ∧ ((ax_yn m).cls ≠ "java/lang/invoke/MethodHandle" ∧ (ax_yn m).cls ≠ "java/lang/invoke/VarHandle")
    ∧ (parseMethodDescriptor (ax_yn m).desc).map (fun d => d.parameters.length) = some (if M.2.2.2.2.2.1 then M.2.1 else M.2.1 - 1) ∧ ax_rk M.2.2.2.1 (ax_yr m) = true ∧ M.2.2.1 ≤ 40 ∧ ((ax_yn m).name = "<init>" ↔ M.2.2.2.2.1 = true)
    ∧ (M.2.2.2.2.2.1 = true → Cond.static (ax_yn m) ∈ ax_tb) ∧ (M.2.2.2.2.2.1 = false → 1 ≤ M.2.1 ∧ M.1 < 13 ∧ Cond.instanceMethod (ax_yn m) ∈ ax_tb ∧ (M.2.2.2.2.1 = false → Cond.selects (ax_yn m).cls (ax_yn m) (ax_yn m) ∈ ax_tb)) ∧ Cond.initialized (ax_yn m).cls ∈ ax_tb ∧ M.1 < 17 := by
  have h1 := List.all_eq_true.mp ax_ok2 m (List.mem_range.mpr (ax_lt h))
  unfold ax_k2 at h1
  rw [h] at h1
  simp only [Bool.and_eq_true, decide_eq_true_eq, ax_hd, Nat.ble_eq, Nat.blt_eq, beq_iff_eq, List.contains_iff_mem] at h1
  obtain ⟨⟨⟨⟨⟨⟨⟨⟨⟨a1, a2⟩, a3⟩, a4⟩, a5⟩, a6⟩, a7⟩, a8⟩, a9⟩, a10⟩ := h1
  refine ⟨a1, a2, a3, a4, a5, a6, ?_, ?_, ?_, ?_, a10⟩
  · rw [← a7, decide_eq_true_eq]
  · intro hs
    rw [if_pos hs] at a8
    exact ax_tb_mem ax_g2.1 ax_g2.2 (List.mem_map.mpr ⟨m, by simpa using a8, rfl⟩)
  · intro hs
    rw [if_neg (by rw [hs]; decide)] at a8
    simp only [Bool.and_eq_true, Nat.ble_eq, Nat.blt_eq, List.contains_iff_mem, Bool.or_eq_true] at a8
    obtain ⟨⟨⟨b1, b2⟩, b3⟩, b4⟩ := a8
    refine ⟨b1, b2, ax_tb_mem ax_g3.1 ax_g3.2 (List.mem_map.mpr ⟨m, b3, rfl⟩), fun hn => ?_⟩
    rcases b4 with b4 | b4
    · rw [hn] at b4; cases b4
    · exact ax_tb_mem ax_g4.1 ax_g4.2 (List.mem_map.mpr ⟨m, b4, rfl⟩)
  · rw [← a2]
    exact ax_tb_mem ax_g5.1 ax_g5.2 (List.mem_map.mpr ⟨M.1, a9, rfl⟩)
theorem ax_code_at {m : Nat} {M : ax_M} (h : ax_T[m]? = some M) {pc : Nat} {i : Instr} (hi : M.2.2.2.2.2.2.lookup pc = some i) : ∃ n, decode (ax_yb m) pc = .ok (i, n) ∧ (ax_isw i = false → n = ax_il i) ∧ ax_oi pc i = true := by
  have h1 := ax_ok1 (ax_lt h)
  unfold ax_k1 at h1
  have hY : ∃ Y, ax_Y[m]? = some Y := by
    cases hq : ax_Y[m]? with
    | some Y => exact ⟨Y, rfl⟩
    | none => rw [h, hq] at h1; cases h1
  obtain ⟨Y, hY⟩ := hY
  rw [h, hY] at h1
  have hb : ax_yb m = Y.2.1 := by unfold ax_yb; rw [hY]
  have h2 := List.all_eq_true.mp h1 _ (ax_lk hi)
  unfold ax_dk at h2
  rw [hb]
  simp only [Bool.and_eq_true] at h2
  obtain ⟨h3, h4⟩ := h2
  split at h4
  · rename_i j n hd
    simp only [Bool.and_eq_true, decide_eq_true_eq, Bool.or_eq_true, Nat.beq_eq] at h4
    obtain ⟨rfl, h5⟩ := h4
    refine ⟨n, hd, fun q => ?_, h3⟩
    rcases h5 with h5 | h5
    · rw [q] at h5; cases h5
    · exact h5
  · cases h4
theorem ax_cls {c : Nat} (h : c < 13) : ax_cl[c]? = some (ax_oc c, ax_tx c, ax_fn c) := by
  rcases (show c = 0 ∨ c = 1 ∨ c = 2 ∨ c = 3 ∨ c = 4 ∨ c = 5 ∨ c = 6 ∨ c = 7 ∨ c = 8 ∨ c = 9 ∨ c = 10 ∨ c = 11 ∨ c = 12 by omega) with rfl | rfl | rfl | rfl | rfl | rfl | rfl | rfl | rfl | rfl | rfl | rfl | rfl <;> rfl
theorem ax_lays {c : Nat} (h : c < 13) : ∀ w ∈ u_ws (ax_oc c) (ax_tx c) (ax_fn c), w ∈ ax_tb := by
  have k : ax_gs (u_ws (ax_oc c) (ax_tx c) (ax_fn c)) = true := by
    rcases (show c = 0 ∨ c = 1 ∨ c = 2 ∨ c = 3 ∨ c = 4 ∨ c = 5 ∨ c = 6 ∨ c = 7 ∨ c = 8 ∨ c = 9 ∨ c = 10 ∨ c = 11 ∨ c = 12 by omega) with rfl | rfl | rfl | rfl | rfl | rfl | rfl | rfl | rfl | rfl | rfl | rfl | rfl
    · exact ax_hc0
    · exact ax_hc1
    · exact ax_hc2
    · exact ax_hc3
    · exact ax_hc4
    · exact ax_hc5
    · exact ax_hc6
    · exact ax_hc7
    · exact ax_hc8
    · exact ax_hc9
    · exact ax_hc10
    · exact ax_hc11
    · exact ax_hc12
  unfold ax_gs at k
  rw [Bool.and_eq_true] at k
  exact fun w hw => ax_tb_mem k.1 k.2 hw
theorem ax_types {c : Nat} (h : c < 13) : ∀ k, k < ax_fn c → parseFieldDescriptor (ax_tx c k).2.2.1 = some (ax_ty c k) := by
  intro k hk
  have h1 := ax_ok8 h
  unfold ax_k8 at h1
  rw [Bool.and_eq_true] at h1
  have h2 := List.all_eq_true.mp h1.1 k (List.mem_range.mpr hk)
  rw [Bool.and_eq_true, decide_eq_true_eq] at h2
  exact h2.1
theorem ax_kinds {c : Nat} (h : c < 13) : ∀ k, k < ax_fn c → ax_kty (ax_tk c k) (ax_ty c k) = true := by
  intro k hk
  have h1 := ax_ok8 h
  unfold ax_k8 at h1
  rw [Bool.and_eq_true] at h1
  have h2 := List.all_eq_true.mp h1.1 k (List.mem_range.mpr hk)
  rw [Bool.and_eq_true, decide_eq_true_eq] at h2
  exact h2.2
theorem ax_apart {c : Nat} (h : c < 13) : ∀ a, a < ax_fn c → ∀ b, b < ax_fn c → a ≠ b → (ax_tx c a).2.1 ≠ (ax_tx c b).2.1 := by
  intro a ha b hb hab
  have h1 := ax_ok8 h
  unfold ax_k8 at h1
  rw [Bool.and_eq_true] at h1
  have h2 := List.all_eq_true.mp (List.all_eq_true.mp h1.2 a (List.mem_range.mpr ha)) b (List.mem_range.mpr hb)
  rw [Bool.or_eq_true, decide_eq_true_eq, Nat.beq_eq] at h2
  rcases h2 with h2 | h2
  · exact absurd h2 hab
  · exact h2
theorem ax_links (own : Nat) : ax_gs ((ax_fp own).map (ax_fw own)) = true ∧ ax_sub ((ax_fq own).map (ax_fwn own)) lw_tbl = true ∧ ax_gs ((ax_mp own).map (ax_mw own)) = true ∧ ax_sub ((ax_mq own).map (ax_mwn own)) lw_tbl = true ∧ ax_gs ((ax_cp own).map (ax_cw own)) = true ∧ ax_gs ((ax_c2T.getD own []).map (ax_lw own)) = true ∧ ax_gs ((ax_nwT.getD own []).map (ax_nww own)) = true := by
  by_cases h : own < 17
  · rcases (show own = 0 ∨ own = 1 ∨ own = 2 ∨ own = 3 ∨ own = 4 ∨ own = 5 ∨ own = 6 ∨ own = 7 ∨ own = 8 ∨ own = 9 ∨ own = 10 ∨ own = 11 ∨ own = 12 ∨ own = 13 ∨ own = 14 ∨ own = 15 ∨ own = 16 by omega) with rfl | rfl | rfl | rfl | rfl | rfl | rfl | rfl | rfl | rfl | rfl | rfl | rfl | rfl | rfl | rfl | rfl
    · exact ax_h0
    · exact ax_h1
    · exact ax_h2
    · exact ax_h3
    · exact ax_h4
    · exact ax_h5
    · exact ax_h6
    · exact ax_h7
    · exact ax_h8
    · exact ax_h9
    · exact ax_h10
    · exact ax_h11
    · exact ax_h12
    · exact ax_h13
    · exact ax_h14
    · exact ax_h15
    · exact ax_h16
  · have e1 : ax_frT.getD own [] = [] := by rw [List.getD_eq_getElem?_getD, List.getElem?_eq_none (by show 17 ≤ own; omega)]; rfl
    have e2 : ax_mrT.getD own [] = [] := by rw [List.getD_eq_getElem?_getD, List.getElem?_eq_none (by show 17 ≤ own; omega)]; rfl
    have e3 : ax_ctT.getD own [] = [] := by rw [List.getD_eq_getElem?_getD, List.getElem?_eq_none (by show 17 ≤ own; omega)]; rfl
    have e4 : ax_c2T.getD own [] = [] := by rw [List.getD_eq_getElem?_getD, List.getElem?_eq_none (by show 17 ≤ own; omega)]; rfl
    have e5 : ax_nwT.getD own [] = [] := by rw [List.getD_eq_getElem?_getD, List.getElem?_eq_none (by show 17 ≤ own; omega)]; rfl
    have g : ax_gs [] = true := by decide +kernel
    have g' : ax_sub [] lw_tbl = true := by decide +kernel
    unfold ax_fp ax_fq ax_mp ax_mq ax_cp
    rw [e1, e2, e3, e4, e5]
    exact ⟨g, g', g, g', g, g, g⟩
theorem ax_gs_mem {l : List Cond} (h : ax_gs l = true) {w : Cond} (hw : w ∈ l) : w ∈ ax_tb := by
  unfold ax_gs at h
  rw [Bool.and_eq_true] at h
  exact ax_tb_mem h.1 h.2 hw
theorem ax_fr_ok {own k ci f t : Nat} {fin nest : Bool} (h : ax_fr own k = some (ci, f, t, fin, nest)) : ci < 13 ∧ f < ax_fn ci ∧ t = ax_tk ci f ∧ fin = (ax_tx ci f).2.2.2 ∧ (ax_tx ci f).1 = ax_oc ci
    ∧ (nest = false → Cond.fieldLink (ax_oc own) k (ax_tx ci f).1 (ax_tx ci f).2.1 (ax_tx ci f).2.2.1 ∈ ax_tb) ∧ (nest = true → Cond.fieldLinkNest (ax_oc own) k (ax_tx ci f).1 (ax_tx ci f).2.1 (ax_tx ci f).2.2.1 "TurnedBoards" ∈ lw_tbl) := by
  have hm := ax_lk h
  have h1 := ax_all_at ax_ok3 hm
  unfold ax_k3 at h1
  simp only [Bool.and_eq_true, Nat.blt_eq, Nat.beq_eq, decide_eq_true_eq] at h1
  obtain ⟨⟨⟨⟨a1, a2⟩, a3⟩, a4⟩, a5⟩ := h1
  refine ⟨a1, a2, a3, a4, a5, fun hn => ?_, fun hn => ?_⟩
  · exact ax_gs_mem (ax_links own).1 (List.mem_map.mpr ⟨_, List.mem_filter.mpr ⟨hm, by simp [hn]⟩, rfl⟩)
  · exact ax_sub_mem (ax_links own).2.1 _ (List.mem_map.mpr ⟨_, List.mem_filter.mpr ⟨hm, by simp [hn]⟩, rfl⟩)
theorem ax_mr_ok {own k m : Nat} {nest : Bool} (h : ax_mr own k = some (m, nest)) : (nest = false → Cond.methodLink (ax_oc own) k (ax_yx m) ∈ ax_tb) ∧ (nest = true → Cond.methodLinkNest (ax_oc own) k (ax_yx m) "TurnedBoards" ∈ lw_tbl) := by
  have hm := ax_lk h
  refine ⟨fun hn => ?_, fun hn => ?_⟩
  · exact ax_gs_mem (ax_links own).2.2.1 (List.mem_map.mpr ⟨_, List.mem_filter.mpr ⟨hm, by simp [hn]⟩, rfl⟩)
  · exact ax_sub_mem (ax_links own).2.2.2.1 _ (List.mem_map.mpr ⟨_, List.mem_filter.mpr ⟨hm, by simp [hn]⟩, rfl⟩)
theorem ax_ct_ok {own k : Nat} {x : Int} (h : ax_ct own k = some (.inl x)) : Cond.constant (ax_oc own) k (Int32.ofInt x) ∈ ax_tb := by
  have hm := ax_lk h
  exact ax_gs_mem (ax_links own).2.2.2.2.1 (List.mem_map.mpr ⟨(k, x), List.mem_filterMap.mpr ⟨_, hm, rfl⟩, rfl⟩)
theorem ax_cs_ok {own k a : Nat} (h : ax_ct own k = some (.inr a)) : a < 35 ∧ ∃ tx, ax_sx[a]? = some (ax_oc own, k, tx) := by
  have h1 := ax_all_at ax_ok5 (ax_lk h)
  unfold ax_k5 at h1
  simp only [Bool.and_eq_true, Nat.blt_eq, decide_eq_true_eq] at h1
  refine ⟨h1.1, ?_⟩
  cases hq : ax_sx[a]? with
  | none => rw [hq] at h1; cases h1.2
  | some q =>
    obtain ⟨q1, q2, q3⟩ := q
    rw [hq] at h1
    have h2 := h1.2
    simp only [Option.map_some, Option.some.injEq, Prod.mk.injEq] at h2
    exact ⟨q3, by rw [h2.1, h2.2]⟩
theorem ax_c2_ok {own k : Nat} {x : Int} (h : ax_c2 own k = some x) : Cond.constantLong (ax_oc own) k (Int64.ofInt x) ∈ ax_tb :=
  ax_gs_mem (ax_links own).2.2.2.2.2.1 (List.mem_map.mpr ⟨(k, x), ax_lk h, rfl⟩)
theorem ax_nr_ok {own k c : Nat} (h : ax_nr own k = some c) : Cond.classLink (ax_oc own) k (ax_oc c) ∈ ax_tb :=
  ax_gs_mem (ax_links own).2.2.2.2.2.2 (List.mem_map.mpr ⟨(k, c), ax_lk h, rfl⟩)
theorem ax_inst {c : Nat} (h : c < 13) : Cond.instantiable (ax_oc c) (ax_fn c) ∈ ax_tb ∧ Cond.initialized (ax_oc c) ∈ ax_tb := by
  have h1 : (List.range 13).all (fun c => ax_pnst.contains c && ax_pini.contains c) = true := by decide +kernel
  have h2 := List.all_eq_true.mp h1 c (List.mem_range.mpr h)
  simp only [Bool.and_eq_true, List.contains_iff_mem] at h2
  exact ⟨ax_tb_mem ax_g6.1 ax_g6.2 (List.mem_map.mpr ⟨c, h2.1, rfl⟩), ax_tb_mem ax_g5.1 ax_g5.2 (List.mem_map.mpr ⟨c, h2.2, rfl⟩)⟩
/-! cells -/
theorem ax_e_obj {cy : Nat → ClassId} {s : ax_S} {ad : Nat → Nat} {i c : Nat} (h : (ax_K s i).1 = c) (hc : c < 13) : ax_e cy s ad i = .inr (c, (List.range (ax_fn c)).map (fun k => ax_z ad (ax_f s i k (ax_tk c k)))) := by
  unfold ax_e
  rw [h]
  split
  · omega
  · omega
  · omega
  · omega
  · omega
  · rfl
theorem ax_e_int {cy : Nat → ClassId} {s : ax_S} {ad : Nat → Nat} {i kd : Nat} (h : (ax_K s i).1 = kd) (hk : kd = 20 ∨ kd = 21 ∨ kd = 22) : ax_e cy s ad i = .inl (cy kd, (ax_K s i).2, .inl (fun j => Int32.ofInt (ax_I s i j))) := by
  unfold ax_e
  rw [h]
  rcases hk with rfl | rfl | rfl <;> rfl
theorem ax_e_long {cy : Nat → ClassId} {s : ax_S} {ad : Nat → Nat} {i : Nat} (h : (ax_K s i).1 = 23) : ax_e cy s ad i = .inl (cy 23, (ax_K s i).2, .inr (.inl (fun j => Int64.ofInt (ax_J s i j)))) := by
  unfold ax_e
  rw [h]
  rfl
theorem ax_e_ref {cy : Nat → ClassId} {s : ax_S} {ad : Nat → Nat} {i : Nat} (h : (ax_K s i).1 = 24) : ax_e cy s ad i = .inl (cy 24, (ax_K s i).2, .inr (.inr (.inr (.inr (fun j => (ax_R s i j).map ad))))) := by
  unfold ax_e
  rw [h]
  rfl
/-- a cell is told by its kind, its ints, longs, references -/
theorem ax_e_congr {cy : Nat → ClassId} {s s' : ax_S} {ad : Nat → Nat} {i : Nat} (hK : ax_K s' i = ax_K s i) (hI : ax_I s' i = ax_I s i) (hJ : ax_J s' i = ax_J s i) (hR : ax_R s' i = ax_R s i) : ax_e cy s' ad i = ax_e cy s ad i := by
  have hf : ∀ k t, ax_f s' i k t = ax_f s i k t := by
    intro k t
    unfold ax_f
    rw [hI, hJ, hR]
  unfold ax_e
  rw [hK]
  split <;> simp only [hI, hJ, hR, hf]
theorem ax_u_ne {α : Type} {f : Nat → Nat → α} {i j : Nat} {v : α} {a : Nat} (h : a ≠ i) : ax_u f i j v a = f a := by
  funext b
  unfold ax_u
  rw [if_neg (fun q => h q.1)]
theorem ax_u_eq {α : Type} {f : Nat → Nat → α} {i j : Nat} {v : α} {b : Nat} : ax_u f i j v i b = if b = j then v else f i b := by
  unfold ax_u
  by_cases h : b = j
  · rw [if_pos ⟨rfl, h⟩, if_pos h]
  · rw [if_neg (fun q => h q.2), if_neg h]
theorem ax_set_map {α : Type} {n k : Nat} {f f' : Nat → α} {v : α} (h : ∀ j, j < n → f' j = if j = k then v else f j) : ((List.range n).map f).set k v = (List.range n).map f' := by
  apply List.ext_getElem?
  intro j
  rw [List.getElem?_set]
  by_cases hj : j < n
  · by_cases e : k = j
    · subst e
      simp [hj, h k hj]
    · rw [if_neg e]
      have e' : ¬ j = k := fun q => e q.symm
      simp [hj, h j hj, e']
  · by_cases e : k = j
    · subst e
      simp [hj]
    · rw [if_neg e]
      simp [hj]
