/-! ONE STEP: what the abstract machine does is what the machine does -/
/-- string constants, what links a nest, the flag of compact strings: facts that hold on -/
def ax_AK (cy : Nat → ClassId) (U : State) : Prop := ∃ kA : Class, U.vm.classes[cy 24]? = some kA ∧ kA.kind = .array (cy 20) (.array .int)
theorem ax_AK.moved {cy : Nat → ClassId} {u U : State} (hvm : u.vm.Alike U.vm) (h : ax_AK cy u) : ax_AK cy U := by
  obtain ⟨k, h1, h2⟩ := h
  obtain ⟨k', hk', he⟩ := hvm.2.2 _ _ h1
  exact ⟨k', hk', by rw [he]; exact h2⟩
def ax_G (cy : Nat → ClassId) (sa sv : Nat → Nat) (A : Nat → Prop) (U : State) (H : Heap) : Prop :=
  vk_S 35 (ax_sb.map List.length) (ax_sb.map (fun l => l.map (fun n => Int32.ofNat n))) sa sv A U H ∧ (∀ (k : Nat) (x : String × Nat × String), ax_sx[k]? = some x → vk_R x.1 x.2.1 x.2.2 (sa k) U)
  ∧ va_Z "java/lang/String" "COMPACT_STRINGS" "Z" (.int 1) A U H ∧ (∀ (a : String) (i : Nat) (b n d h : String), Cond.fieldLinkNest a i b n d h ∈ lw_tbl → va_Nw (.fieldLinkNest a i b n d h) U) ∧ (∀ (a : String) (i : Nat) (x : MethodName) (h : String), Cond.methodLinkNest a i x h ∈ lw_tbl → va_Nw (.methodLinkNest a i x h) U)
  ∧ ax_AK cy U ∧ va_Zq "jdk/internal/util/Preconditions" "SIOOBE_FORMATTER" "Ljava/util/function/BiFunction;" A U H
/-- where a method stands -/
def ax_cx (p : Program) (R : Room) (s0 : State) (mm : MethodId) (args : Array Value) (meth : Method) (c : Code) (D : va_G) (cy : Nat → ClassId) (A : Nat → Prop) (sa sv : Nat → Nat) (mi : Nat) (M : ax_M) : Prop :=
  p.tables.exec = Jvm.exec ∧ c.code = ax_yb mi ∧ c.maxLocals = M.2.2.1 ∧ s0.vm.findClass (ax_oc M.1) = some mm.cls ∧ (∀ w ∈ ax_tb, w.before args s0 = true) ∧ va_K D ax_cl (ax_tys cy) s0 ∧ (∀ q, s0.heap.size ≤ q → A q) ∧ ax_T[mi]? = some M
  ∧ (M.2.2.2.2.1 = true → meth.name = "<init>") ∧ ax_G cy sa sv A s0 s0.heap ∧ 8 ≤ R.frames ∧ 512 ≤ R.locals
/-- from the abstract state z the machine comes to Q -/
def ax_W (p : Program) (l : Launch) (e : Env) (R : Room) (s0 : State) (mm : MethodId) (args : Array Value) (below : List Frame) (meth : Method) (c : Code) (Q : State → Prop) (D : va_G) (cy : Nat → ClassId) (A : Nat → Prop) (nE sE : Nat) (ad : Nat → Nat) (z : ax_Z) : Prop :=
  ∀ (H : Heap) (locs : List Loc) (arr : Array Slot), ax_lh arr c.maxLocals ad z.2.1 → va_P D ax_cl (ax_wd cy z.2.2.2 ad) H → va_D A (ax_wd cy z.2.2.2 ad) → va_S A s0.heap H locs →
    W p l e R s0 mm args below meth c H locs (z.2.2.2.1 - nE) (z.2.2.2.2.1 - sE) Q (F0 mm z.1 arr (z.2.2.1.map (ax_z ad)))
section AXS
variable {p : Program} {l : Launch} {e : Env} {R : Room} {s0 : State} {mm : MethodId} {args : Array Value} {below : List Frame} {meth : Method} {c : Code} {Q : State → Prop} {D : va_G} {cy : Nat → ClassId} {A : Nat → Prop} {sa sv : Nat → Nat} {nE sE mi : Nat} {M : ax_M} {ad : Nat → Nat}
variable {pc : Nat} {ls : ax_L} {st r : List ax_v} {s : ax_S}

theorem ax_s_iconst (X : ax_cx p R s0 mm args meth c D cy A sa sv mi M) {n : Int} (hd : decode (ax_yb mi) pc = .ok (.iconst n, 1)) (k : ax_W p l e R s0 mm args below meth c Q D cy A nE sE ad (pc + 1, ls, .inl n :: st, s)) : ax_W p l e R s0 mm args below meth c Q D cy A nE sE ad (pc, ls, st, s) := by
  obtain ⟨hx, hb, hml, hown, hts, hK, hA, hM, hin, hG, hR1, hR2⟩ := X
  intro H locs arr hl hP hD hS
  exact lv_iconst hx hb hd rfl (k H locs arr hl hP hD hS)
theorem ax_s_bipush (X : ax_cx p R s0 mm args meth c D cy A sa sv mi M) {n : Int} (hn : (Int8.ofInt n).toInt32 = Int32.ofInt n) (hd : decode (ax_yb mi) pc = .ok (.bipush n, 2)) (k : ax_W p l e R s0 mm args below meth c Q D cy A nE sE ad (pc + 2, ls, .inl n :: st, s)) : ax_W p l e R s0 mm args below meth c Q D cy A nE sE ad (pc, ls, st, s) := by
  obtain ⟨hx, hb, hml, hown, hts, hK, hA, hM, hin, hG, hR1, hR2⟩ := X
  intro H locs arr hl hP hD hS
  exact lv_bipush hx hb hd hn (k H locs arr hl hP hD hS)
theorem ax_s_sipush (X : ax_cx p R s0 mm args meth c D cy A sa sv mi M) {n : Int} (hn : (Int16.ofInt n).toInt32 = Int32.ofInt n) (hd : decode (ax_yb mi) pc = .ok (.sipush n, 3)) (k : ax_W p l e R s0 mm args below meth c Q D cy A nE sE ad (pc + 3, ls, .inl n :: st, s)) : ax_W p l e R s0 mm args below meth c Q D cy A nE sE ad (pc, ls, st, s) := by
  obtain ⟨hx, hb, hml, hown, hts, hK, hA, hM, hin, hG, hR1, hR2⟩ := X
  intro H locs arr hl hP hD hS
  exact lv_sipush hx hb hd hn (k H locs arr hl hP hD hS)
theorem ax_s_lconst (X : ax_cx p R s0 mm args meth c D cy A sa sv mi M) {n : Fin 2} (hd : decode (ax_yb mi) pc = .ok (.lconst n, 1)) (k : ax_W p l e R s0 mm args below meth c Q D cy A nE sE ad (pc + 1, ls, .inr (.inl (n.val : Int)) :: st, s)) : ax_W p l e R s0 mm args below meth c Q D cy A nE sE ad (pc, ls, st, s) := by
  obtain ⟨hx, hb, hml, hown, hts, hK, hA, hM, hin, hG, hR1, hR2⟩ := X
  intro H locs arr hl hP hD hS
  exact lv_lconst hx hb hd (by rcases n with ⟨n, hn⟩; rcases (show n = 0 ∨ n = 1 by omega) with rfl | rfl <;> rfl) (k H locs arr hl hP hD hS)
theorem ax_s_ldc (X : ax_cx p R s0 mm args meth c D cy A sa sv mi M) {i : Nat} {x : Int} (hc : ax_ct M.1 i = some (.inl x)) (hd : decode (ax_yb mi) pc = .ok (.ldc i, 2)) (k : ax_W p l e R s0 mm args below meth c Q D cy A nE sE ad (pc + 2, ls, .inl x :: st, s)) : ax_W p l e R s0 mm args below meth c Q D cy A nE sE ad (pc, ls, st, s) := by
  obtain ⟨hx, hb, hml, hown, hts, hK, hA, hM, hin, hG, hR1, hR2⟩ := X
  intro H locs arr hl hP hD hS
  exact lv_ldc hx hb hown (hts _ (ax_ct_ok hc)) hd (k H locs arr hl hP hD hS)
theorem ax_s_ldcw (X : ax_cx p R s0 mm args meth c D cy A sa sv mi M) {i : Nat} {x : Int} (hc : ax_ct M.1 i = some (.inl x)) (hd : decode (ax_yb mi) pc = .ok (.ldc_w i, 3)) (k : ax_W p l e R s0 mm args below meth c Q D cy A nE sE ad (pc + 3, ls, .inl x :: st, s)) : ax_W p l e R s0 mm args below meth c Q D cy A nE sE ad (pc, ls, st, s) := by
  obtain ⟨hx, hb, hml, hown, hts, hK, hA, hM, hin, hG, hR1, hR2⟩ := X
  intro H locs arr hl hP hD hS
  exact lv_ldcw hx hb hown (hts _ (ax_ct_ok hc)) hd (k H locs arr hl hP hD hS)
theorem ax_s_ldc2 (X : ax_cx p R s0 mm args meth c D cy A sa sv mi M) {i : Nat} {x : Int} (hc : ax_c2 M.1 i = some x) (hd : decode (ax_yb mi) pc = .ok (.ldc2_w i, 3)) (k : ax_W p l e R s0 mm args below meth c Q D cy A nE sE ad (pc + 3, ls, .inr (.inl x) :: st, s)) : ax_W p l e R s0 mm args below meth c Q D cy A nE sE ad (pc, ls, st, s) := by
  obtain ⟨hx, hb, hml, hown, hts, hK, hA, hM, hin, hG, hR1, hR2⟩ := X
  intro H locs arr hl hP hD hS
  exact lv_ldc2 hx hb hown (hts _ (ax_c2_ok hc)) hd (k H locs arr hl hP hD hS)
theorem ax_s_ldcs (X : ax_cx p R s0 mm args meth c D cy A sa sv mi M) {i a : Nat} (hc : ax_ct M.1 i = some (.inr a)) (hsa : ∀ j, ad (1000000 + j) = sa j) (hd : decode (ax_yb mi) pc = .ok (.ldc i, 2)) (k : ax_W p l e R s0 mm args below meth c Q D cy A nE sE ad (pc + 2, ls, .inr (.inr (some (1000000 + a))) :: st, s)) : ax_W p l e R s0 mm args below meth c Q D cy A nE sE ad (pc, ls, st, s) := by
  obtain ⟨hx, hb, hml, hown, hts, hK, hA, hM, hin, hG, hR1, hR2⟩ := X
  intro H locs arr hl hP hD hS
  obtain ⟨-, tx, ht⟩ := ax_cs_ok hc
  exact va_ldcS (q := ad (1000000 + a)) hx hb hown (by rw [hsa]; exact hG.2.1 a _ ht) hd (k H locs arr hl hP hD hS)
theorem ax_s_iload (X : ax_cx p R s0 mm args meth c D cy A sa sv mi M) {i : Nat} {x : Int} (hi : ls[i]? = some (some (.inl x))) (hd : decode (ax_yb mi) pc = .ok (.iload i, 2)) (k : ax_W p l e R s0 mm args below meth c Q D cy A nE sE ad (pc + 2, ls, .inl x :: st, s)) : ax_W p l e R s0 mm args below meth c Q D cy A nE sE ad (pc, ls, st, s) := by
  obtain ⟨hx, hb, hml, hown, hts, hK, hA, hM, hin, hG, hR1, hR2⟩ := X
  intro H locs arr hl hP hD hS
  exact lv_iload hx hb hd (hl.at hi) (k H locs arr hl hP hD hS)
theorem ax_s_iload_n (X : ax_cx p R s0 mm args meth c D cy A sa sv mi M) {i : Fin 4} {x : Int} (hi : ls[i.val]? = some (some (.inl x))) (hd : decode (ax_yb mi) pc = .ok (.iload_n i, 1)) (k : ax_W p l e R s0 mm args below meth c Q D cy A nE sE ad (pc + 1, ls, .inl x :: st, s)) : ax_W p l e R s0 mm args below meth c Q D cy A nE sE ad (pc, ls, st, s) := by
  obtain ⟨hx, hb, hml, hown, hts, hK, hA, hM, hin, hG, hR1, hR2⟩ := X
  intro H locs arr hl hP hD hS
  exact lv_iload_n hx hb hd rfl (hl.at hi) (k H locs arr hl hP hD hS)
theorem ax_s_lload (X : ax_cx p R s0 mm args meth c D cy A sa sv mi M) {i : Nat} {x : Int} (hi : ls[i]? = some (some (.inr (.inl x)))) (hd : decode (ax_yb mi) pc = .ok (.lload i, 2)) (k : ax_W p l e R s0 mm args below meth c Q D cy A nE sE ad (pc + 2, ls, .inr (.inl x) :: st, s)) : ax_W p l e R s0 mm args below meth c Q D cy A nE sE ad (pc, ls, st, s) := by
  obtain ⟨hx, hb, hml, hown, hts, hK, hA, hM, hin, hG, hR1, hR2⟩ := X
  intro H locs arr hl hP hD hS
  exact lv_lload hx hb hd (hl.at hi) (k H locs arr hl hP hD hS)
theorem ax_s_lload_n (X : ax_cx p R s0 mm args meth c D cy A sa sv mi M) {i : Fin 4} {x : Int} (hi : ls[i.val]? = some (some (.inr (.inl x)))) (hd : decode (ax_yb mi) pc = .ok (.lload_n i, 1)) (k : ax_W p l e R s0 mm args below meth c Q D cy A nE sE ad (pc + 1, ls, .inr (.inl x) :: st, s)) : ax_W p l e R s0 mm args below meth c Q D cy A nE sE ad (pc, ls, st, s) := by
  obtain ⟨hx, hb, hml, hown, hts, hK, hA, hM, hin, hG, hR1, hR2⟩ := X
  intro H locs arr hl hP hD hS
  exact lv_lload_n hx hb hd rfl (hl.at hi) (k H locs arr hl hP hD hS)
theorem ax_s_aload (X : ax_cx p R s0 mm args meth c D cy A sa sv mi M) {i a : Nat} (hi : ls[i]? = some (some (.inr (.inr (some a))))) (hd : decode (ax_yb mi) pc = .ok (.aload i, 2)) (k : ax_W p l e R s0 mm args below meth c Q D cy A nE sE ad (pc + 2, ls, .inr (.inr (some a)) :: st, s)) : ax_W p l e R s0 mm args below meth c Q D cy A nE sE ad (pc, ls, st, s) := by
  obtain ⟨hx, hb, hml, hown, hts, hK, hA, hM, hin, hG, hR1, hR2⟩ := X
  intro H locs arr hl hP hD hS
  exact lv_aload hx hb hd (hl.at hi) (k H locs arr hl hP hD hS)
theorem ax_s_aload_n (X : ax_cx p R s0 mm args meth c D cy A sa sv mi M) {i : Fin 4} {a : Nat} (hi : ls[i.val]? = some (some (.inr (.inr (some a))))) (hd : decode (ax_yb mi) pc = .ok (.aload_n i, 1)) (k : ax_W p l e R s0 mm args below meth c Q D cy A nE sE ad (pc + 1, ls, .inr (.inr (some a)) :: st, s)) : ax_W p l e R s0 mm args below meth c Q D cy A nE sE ad (pc, ls, st, s) := by
  obtain ⟨hx, hb, hml, hown, hts, hK, hA, hM, hin, hG, hR1, hR2⟩ := X
  intro H locs arr hl hP hD hS
  exact lv_aload_n hx hb hd rfl (hl.at hi) (k H locs arr hl hP hD hS)
theorem ax_s_istore (X : ax_cx p R s0 mm args meth c D cy A sa sv mi M) {i : Nat} {x : Int} {l2 : ax_L} (hs : ax_st1 ls i (.inl x) = some l2) (hd : decode (ax_yb mi) pc = .ok (.istore i, 2)) (k : ax_W p l e R s0 mm args below meth c Q D cy A nE sE ad (pc + 2, l2, st, s)) : ax_W p l e R s0 mm args below meth c Q D cy A nE sE ad (pc, ls, .inl x :: st, s) := by
  obtain ⟨hx, hb, hml, hown, hts, hK, hA, hM, hin, hG, hR1, hR2⟩ := X
  intro H locs arr hl hP hD hS
  exact lv_istore hx hb hd hl.1 (by have h8 := ax_st1_lt hs; have h9 : ls.length = c.maxLocals := hl.2; omega) rfl (fun arr2 h2 => k H locs arr2 (ax_lh.st1 hs hl.2 h2) hP hD hS)
theorem ax_s_istore_n (X : ax_cx p R s0 mm args meth c D cy A sa sv mi M) {i : Fin 4} {x : Int} {l2 : ax_L} (hs : ax_st1 ls i.val (.inl x) = some l2) (hd : decode (ax_yb mi) pc = .ok (.istore_n i, 1)) (k : ax_W p l e R s0 mm args below meth c Q D cy A nE sE ad (pc + 1, l2, st, s)) : ax_W p l e R s0 mm args below meth c Q D cy A nE sE ad (pc, ls, .inl x :: st, s) := by
  obtain ⟨hx, hb, hml, hown, hts, hK, hA, hM, hin, hG, hR1, hR2⟩ := X
  intro H locs arr hl hP hD hS
  exact lv_istore_n hx hb hd rfl hl.1 (by have h8 := ax_st1_lt hs; have h9 : ls.length = c.maxLocals := hl.2; omega) rfl (fun arr2 h2 => k H locs arr2 (ax_lh.st1 hs hl.2 h2) hP hD hS)
theorem ax_s_lstore (X : ax_cx p R s0 mm args meth c D cy A sa sv mi M) {i : Nat} {x : Int} {l2 : ax_L} (hs : ax_st2 ls i (.inr (.inl x)) = some l2) (hd : decode (ax_yb mi) pc = .ok (.lstore i, 2)) (k : ax_W p l e R s0 mm args below meth c Q D cy A nE sE ad (pc + 2, l2, st, s)) : ax_W p l e R s0 mm args below meth c Q D cy A nE sE ad (pc, ls, .inr (.inl x) :: st, s) := by
  obtain ⟨hx, hb, hml, hown, hts, hK, hA, hM, hin, hG, hR1, hR2⟩ := X
  intro H locs arr hl hP hD hS
  exact lv_lstore hx hb hd hl.1 (by have h8 := ax_st2_lt hs; have h9 : ls.length = c.maxLocals := hl.2; omega) rfl (fun arr2 h2 => k H locs arr2 (ax_lh.st2 hs hl.2 h2) hP hD hS)
theorem ax_s_lstore_n (X : ax_cx p R s0 mm args meth c D cy A sa sv mi M) {i : Fin 4} {x : Int} {l2 : ax_L} (hs : ax_st2 ls i.val (.inr (.inl x)) = some l2) (hd : decode (ax_yb mi) pc = .ok (.lstore_n i, 1)) (k : ax_W p l e R s0 mm args below meth c Q D cy A nE sE ad (pc + 1, l2, st, s)) : ax_W p l e R s0 mm args below meth c Q D cy A nE sE ad (pc, ls, .inr (.inl x) :: st, s) := by
  obtain ⟨hx, hb, hml, hown, hts, hK, hA, hM, hin, hG, hR1, hR2⟩ := X
  intro H locs arr hl hP hD hS
  exact lv_lstore_n hx hb hd rfl hl.1 (by have h8 := ax_st2_lt hs; have h9 : ls.length = c.maxLocals := hl.2; omega) rfl (fun arr2 h2 => k H locs arr2 (ax_lh.st2 hs hl.2 h2) hP hD hS)
theorem ax_s_astore (X : ax_cx p R s0 mm args meth c D cy A sa sv mi M) {i : Nat} {x : Nat} {l2 : ax_L} (hs : ax_st1 ls i (.inr (.inr (some x))) = some l2) (hd : decode (ax_yb mi) pc = .ok (.astore i, 2)) (k : ax_W p l e R s0 mm args below meth c Q D cy A nE sE ad (pc + 2, l2, st, s)) : ax_W p l e R s0 mm args below meth c Q D cy A nE sE ad (pc, ls, .inr (.inr (some x)) :: st, s) := by
  obtain ⟨hx, hb, hml, hown, hts, hK, hA, hM, hin, hG, hR1, hR2⟩ := X
  intro H locs arr hl hP hD hS
  exact lv_astore hx hb hd hl.1 (by have h8 := ax_st1_lt hs; have h9 : ls.length = c.maxLocals := hl.2; omega) rfl (fun arr2 h2 => k H locs arr2 (ax_lh.st1 hs hl.2 h2) hP hD hS)
theorem ax_s_astore_n (X : ax_cx p R s0 mm args meth c D cy A sa sv mi M) {i : Fin 4} {x : Nat} {l2 : ax_L} (hs : ax_st1 ls i.val (.inr (.inr (some x))) = some l2) (hd : decode (ax_yb mi) pc = .ok (.astore_n i, 1)) (k : ax_W p l e R s0 mm args below meth c Q D cy A nE sE ad (pc + 1, l2, st, s)) : ax_W p l e R s0 mm args below meth c Q D cy A nE sE ad (pc, ls, .inr (.inr (some x)) :: st, s) := by
  obtain ⟨hx, hb, hml, hown, hts, hK, hA, hM, hin, hG, hR1, hR2⟩ := X
  intro H locs arr hl hP hD hS
  exact lv_astore_n hx hb hd rfl hl.1 (by have h8 := ax_st1_lt hs; have h9 : ls.length = c.maxLocals := hl.2; omega) rfl (fun arr2 h2 => k H locs arr2 (ax_lh.st1 hs hl.2 h2) hP hD hS)
theorem ax_s_iinc (X : ax_cx p R s0 mm args meth c D cy A sa sv mi M) {i : Nat} {n x : Int} {l2 : ax_L} (hi : ls[i]? = some (some (.inl x))) (hs : ax_st1 ls i (.inl (x + n)) = some l2) (hd : decode (ax_yb mi) pc = .ok (.iinc i n, 3)) (k : ax_W p l e R s0 mm args below meth c Q D cy A nE sE ad (pc + 3, l2, st, s)) : ax_W p l e R s0 mm args below meth c Q D cy A nE sE ad (pc, ls, st, s) := by
  obtain ⟨hx, hb, hml, hown, hts, hK, hA, hM, hin, hG, hR1, hR2⟩ := X
  intro H locs arr hl hP hD hS
  obtain ⟨j, hj⟩ := List.getElem?_of_mem (ax_lz_mem (ad := ad) hi)
  exact lv_iinc (v := Int32.ofInt (x + n)) hx hb hd hl.1 hj (Int32.ofInt_add _ _).symm (by have h8 := ax_st1_lt hs; have h9 : ls.length = c.maxLocals := hl.2; omega) rfl (fun arr2 h2 => k H locs arr2 (ax_lh.st1 hs hl.2 h2) hP hD hS)
theorem ax_s_iadd (X : ax_cx p R s0 mm args meth c D cy A sa sv mi M) {x y : Int} (hd : decode (ax_yb mi) pc = .ok (.iadd, 1)) (k : ax_W p l e R s0 mm args below meth c Q D cy A nE sE ad (pc + 1, ls, .inl (x + y) :: r, s)) : ax_W p l e R s0 mm args below meth c Q D cy A nE sE ad (pc, ls, .inl y :: .inl x :: r, s) := by
  obtain ⟨hx, hb, hml, hown, hts, hK, hA, hM, hin, hG, hR1, hR2⟩ := X
  intro H locs arr hl hP hD hS
  exact lv_iadd hx hb hd (by have h := k H locs arr hl hP hD hS; simp only [List.map_cons, ax_z, Int32.ofInt_add] at h; exact h)
theorem ax_s_isub (X : ax_cx p R s0 mm args meth c D cy A sa sv mi M) {x y : Int} (hd : decode (ax_yb mi) pc = .ok (.isub, 1)) (k : ax_W p l e R s0 mm args below meth c Q D cy A nE sE ad (pc + 1, ls, .inl (x - y) :: r, s)) : ax_W p l e R s0 mm args below meth c Q D cy A nE sE ad (pc, ls, .inl y :: .inl x :: r, s) := by
  obtain ⟨hx, hb, hml, hown, hts, hK, hA, hM, hin, hG, hR1, hR2⟩ := X
  intro H locs arr hl hP hD hS
  exact lv_isub hx hb hd (by have h := k H locs arr hl hP hD hS; simp only [List.map_cons, ax_z, Int32.ofInt_sub] at h; exact h)
theorem ax_s_imul (X : ax_cx p R s0 mm args meth c D cy A sa sv mi M) {x y : Int} (hd : decode (ax_yb mi) pc = .ok (.imul, 1)) (k : ax_W p l e R s0 mm args below meth c Q D cy A nE sE ad (pc + 1, ls, .inl (x * y) :: r, s)) : ax_W p l e R s0 mm args below meth c Q D cy A nE sE ad (pc, ls, .inl y :: .inl x :: r, s) := by
  obtain ⟨hx, hb, hml, hown, hts, hK, hA, hM, hin, hG, hR1, hR2⟩ := X
  intro H locs arr hl hP hD hS
  exact lv_imul hx hb hd (by have h := k H locs arr hl hP hD hS; simp only [List.map_cons, ax_z, Int32.ofInt_mul] at h; exact h)
theorem ax_s_iand (X : ax_cx p R s0 mm args meth c D cy A sa sv mi M) {x y : Int} (hd : decode (ax_yb mi) pc = .ok (.iand, 1)) (k : ax_W p l e R s0 mm args below meth c Q D cy A nE sE ad (pc + 1, ls, .inl (ax_and x y) :: r, s)) : ax_W p l e R s0 mm args below meth c Q D cy A nE sE ad (pc, ls, .inl y :: .inl x :: r, s) := by
  obtain ⟨hx, hb, hml, hown, hts, hK, hA, hM, hin, hG, hR1, hR2⟩ := X
  intro H locs arr hl hP hD hS
  exact lv_iand hx hb hd (by have h := k H locs arr hl hP hD hS; simp only [List.map_cons, ax_z, ax_and, Int32.ofInt_toInt] at h; exact h)
theorem ax_s_ior (X : ax_cx p R s0 mm args meth c D cy A sa sv mi M) {x y : Int} (hd : decode (ax_yb mi) pc = .ok (.ior, 1)) (k : ax_W p l e R s0 mm args below meth c Q D cy A nE sE ad (pc + 1, ls, .inl (ax_or x y) :: r, s)) : ax_W p l e R s0 mm args below meth c Q D cy A nE sE ad (pc, ls, .inl y :: .inl x :: r, s) := by
  obtain ⟨hx, hb, hml, hown, hts, hK, hA, hM, hin, hG, hR1, hR2⟩ := X
  intro H locs arr hl hP hD hS
  exact lv_ior hx hb hd (by have h := k H locs arr hl hP hD hS; simp only [List.map_cons, ax_z, ax_or, Int32.ofInt_toInt] at h; exact h)
theorem ax_s_ixor (X : ax_cx p R s0 mm args meth c D cy A sa sv mi M) {x y : Int} (hd : decode (ax_yb mi) pc = .ok (.ixor, 1)) (k : ax_W p l e R s0 mm args below meth c Q D cy A nE sE ad (pc + 1, ls, .inl (ax_xor x y) :: r, s)) : ax_W p l e R s0 mm args below meth c Q D cy A nE sE ad (pc, ls, .inl y :: .inl x :: r, s) := by
  obtain ⟨hx, hb, hml, hown, hts, hK, hA, hM, hin, hG, hR1, hR2⟩ := X
  intro H locs arr hl hP hD hS
  exact lv_ixor hx hb hd (by have h := k H locs arr hl hP hD hS; simp only [List.map_cons, ax_z, ax_xor, Int32.ofInt_toInt] at h; exact h)
theorem ax_s_ishl (X : ax_cx p R s0 mm args meth c D cy A sa sv mi M) {x y : Int} (hd : decode (ax_yb mi) pc = .ok (.ishl, 1)) (k : ax_W p l e R s0 mm args below meth c Q D cy A nE sE ad (pc + 1, ls, .inl (ax_shl x y) :: r, s)) : ax_W p l e R s0 mm args below meth c Q D cy A nE sE ad (pc, ls, .inl y :: .inl x :: r, s) := by
  obtain ⟨hx, hb, hml, hown, hts, hK, hA, hM, hin, hG, hR1, hR2⟩ := X
  intro H locs arr hl hP hD hS
  exact lv_ishl hx hb hd (by have h := k H locs arr hl hP hD hS; simp only [List.map_cons, ax_z, ax_shl, Int32.ofInt_toInt] at h; exact h)
theorem ax_s_ishr (X : ax_cx p R s0 mm args meth c D cy A sa sv mi M) {x y : Int} (hd : decode (ax_yb mi) pc = .ok (.ishr, 1)) (k : ax_W p l e R s0 mm args below meth c Q D cy A nE sE ad (pc + 1, ls, .inl (ax_shr x y) :: r, s)) : ax_W p l e R s0 mm args below meth c Q D cy A nE sE ad (pc, ls, .inl y :: .inl x :: r, s) := by
  obtain ⟨hx, hb, hml, hown, hts, hK, hA, hM, hin, hG, hR1, hR2⟩ := X
  intro H locs arr hl hP hD hS
  exact lv_ishr hx hb hd (by have h := k H locs arr hl hP hD hS; simp only [List.map_cons, ax_z, ax_shr, Int32.ofInt_toInt] at h; exact h)
theorem ax_s_iushr (X : ax_cx p R s0 mm args meth c D cy A sa sv mi M) {x y : Int} (hd : decode (ax_yb mi) pc = .ok (.iushr, 1)) (k : ax_W p l e R s0 mm args below meth c Q D cy A nE sE ad (pc + 1, ls, .inl (ax_ushr x y) :: r, s)) : ax_W p l e R s0 mm args below meth c Q D cy A nE sE ad (pc, ls, .inl y :: .inl x :: r, s) := by
  obtain ⟨hx, hb, hml, hown, hts, hK, hA, hM, hin, hG, hR1, hR2⟩ := X
  intro H locs arr hl hP hD hS
  exact lv_iushr hx hb hd (by unfold ax_ushr; rw [Int32.ofInt_toInt]) (k H locs arr hl hP hD hS)
theorem ax_s_idiv (X : ax_cx p R s0 mm args meth c D cy A sa sv mi M) {x y : Int} (hy : ax_w y ≠ 0) (hd : decode (ax_yb mi) pc = .ok (.idiv, 1)) (k : ax_W p l e R s0 mm args below meth c Q D cy A nE sE ad (pc + 1, ls, .inl (Int.tdiv (ax_w x) (ax_w y)) :: r, s)) : ax_W p l e R s0 mm args below meth c Q D cy A nE sE ad (pc, ls, .inl y :: .inl x :: r, s) := by
  obtain ⟨hx, hb, hml, hown, hts, hK, hA, hM, hin, hG, hR1, hR2⟩ := X
  intro H locs arr hl hP hD hS
  exact lv_idiv hx hb hd (ax_i_ne0 hy) (by have h := k H locs arr hl hP hD hS; simp only [List.map_cons, ax_z, ax_i_div] at h; exact h)
theorem ax_s_irem (X : ax_cx p R s0 mm args meth c D cy A sa sv mi M) {x y : Int} (hy : ax_w y ≠ 0) (hd : decode (ax_yb mi) pc = .ok (.irem, 1)) (k : ax_W p l e R s0 mm args below meth c Q D cy A nE sE ad (pc + 1, ls, .inl (Int.tmod (ax_w x) (ax_w y)) :: r, s)) : ax_W p l e R s0 mm args below meth c Q D cy A nE sE ad (pc, ls, .inl y :: .inl x :: r, s) := by
  obtain ⟨hx, hb, hml, hown, hts, hK, hA, hM, hin, hG, hR1, hR2⟩ := X
  intro H locs arr hl hP hD hS
  exact lv_irem hx hb hd (ax_i_ne0 hy) (by have h := k H locs arr hl hP hD hS; simp only [List.map_cons, ax_z, ax_i_rem] at h; exact h)
theorem ax_s_ladd (X : ax_cx p R s0 mm args meth c D cy A sa sv mi M) {x y : Int} (hd : decode (ax_yb mi) pc = .ok (.ladd, 1)) (k : ax_W p l e R s0 mm args below meth c Q D cy A nE sE ad (pc + 1, ls, .inr (.inl (x + y)) :: r, s)) : ax_W p l e R s0 mm args below meth c Q D cy A nE sE ad (pc, ls, .inr (.inl y) :: .inr (.inl x) :: r, s) := by
  obtain ⟨hx, hb, hml, hown, hts, hK, hA, hM, hin, hG, hR1, hR2⟩ := X
  intro H locs arr hl hP hD hS
  exact lv_ladd hx hb hd (by have h := k H locs arr hl hP hD hS; simp only [List.map_cons, ax_z, Int64.ofInt_add] at h; exact h)
theorem ax_s_lsub (X : ax_cx p R s0 mm args meth c D cy A sa sv mi M) {x y : Int} (hd : decode (ax_yb mi) pc = .ok (.lsub, 1)) (k : ax_W p l e R s0 mm args below meth c Q D cy A nE sE ad (pc + 1, ls, .inr (.inl (x - y)) :: r, s)) : ax_W p l e R s0 mm args below meth c Q D cy A nE sE ad (pc, ls, .inr (.inl y) :: .inr (.inl x) :: r, s) := by
  obtain ⟨hx, hb, hml, hown, hts, hK, hA, hM, hin, hG, hR1, hR2⟩ := X
  intro H locs arr hl hP hD hS
  exact lv_lsub hx hb hd (by have h := k H locs arr hl hP hD hS; simp only [List.map_cons, ax_z, Int64.ofInt_sub] at h; exact h)
theorem ax_s_lmul (X : ax_cx p R s0 mm args meth c D cy A sa sv mi M) {x y : Int} (hd : decode (ax_yb mi) pc = .ok (.lmul, 1)) (k : ax_W p l e R s0 mm args below meth c Q D cy A nE sE ad (pc + 1, ls, .inr (.inl (x * y)) :: r, s)) : ax_W p l e R s0 mm args below meth c Q D cy A nE sE ad (pc, ls, .inr (.inl y) :: .inr (.inl x) :: r, s) := by
  obtain ⟨hx, hb, hml, hown, hts, hK, hA, hM, hin, hG, hR1, hR2⟩ := X
  intro H locs arr hl hP hD hS
  exact lv_lmul hx hb hd (by have h := k H locs arr hl hP hD hS; simp only [List.map_cons, ax_z, Int64.ofInt_mul] at h; exact h)
theorem ax_s_land (X : ax_cx p R s0 mm args meth c D cy A sa sv mi M) {x y : Int} (hd : decode (ax_yb mi) pc = .ok (.land, 1)) (k : ax_W p l e R s0 mm args below meth c Q D cy A nE sE ad (pc + 1, ls, .inr (.inl (ax_land x y)) :: r, s)) : ax_W p l e R s0 mm args below meth c Q D cy A nE sE ad (pc, ls, .inr (.inl y) :: .inr (.inl x) :: r, s) := by
  obtain ⟨hx, hb, hml, hown, hts, hK, hA, hM, hin, hG, hR1, hR2⟩ := X
  intro H locs arr hl hP hD hS
  exact lv_land hx hb hd (by have h := k H locs arr hl hP hD hS; simp only [List.map_cons, ax_z, ax_land, Int64.ofInt_toInt] at h; exact h)
theorem ax_s_ldiv (X : ax_cx p R s0 mm args meth c D cy A sa sv mi M) {x y : Int} (hy : ax_wl y ≠ 0) (hd : decode (ax_yb mi) pc = .ok (.ldiv, 1)) (k : ax_W p l e R s0 mm args below meth c Q D cy A nE sE ad (pc + 1, ls, .inr (.inl (Int.tdiv (ax_wl x) (ax_wl y))) :: r, s)) : ax_W p l e R s0 mm args below meth c Q D cy A nE sE ad (pc, ls, .inr (.inl y) :: .inr (.inl x) :: r, s) := by
  obtain ⟨hx, hb, hml, hown, hts, hK, hA, hM, hin, hG, hR1, hR2⟩ := X
  intro H locs arr hl hP hD hS
  exact lv_ldiv hx hb hd (ax_l_ne0 hy) (by have h := k H locs arr hl hP hD hS; simp only [List.map_cons, ax_z, ax_l_div] at h; exact h)
theorem ax_s_lrem (X : ax_cx p R s0 mm args meth c D cy A sa sv mi M) {x y : Int} (hy : ax_wl y ≠ 0) (hd : decode (ax_yb mi) pc = .ok (.lrem, 1)) (k : ax_W p l e R s0 mm args below meth c Q D cy A nE sE ad (pc + 1, ls, .inr (.inl (Int.tmod (ax_wl x) (ax_wl y))) :: r, s)) : ax_W p l e R s0 mm args below meth c Q D cy A nE sE ad (pc, ls, .inr (.inl y) :: .inr (.inl x) :: r, s) := by
  obtain ⟨hx, hb, hml, hown, hts, hK, hA, hM, hin, hG, hR1, hR2⟩ := X
  intro H locs arr hl hP hD hS
  exact lv_lrem hx hb hd (ax_l_ne0 hy) (by have h := k H locs arr hl hP hD hS; simp only [List.map_cons, ax_z, ax_l_rem] at h; exact h)
theorem ax_s_lcmp (X : ax_cx p R s0 mm args meth c D cy A sa sv mi M) {x y : Int} (hd : decode (ax_yb mi) pc = .ok (.lcmp, 1)) (k : ax_W p l e R s0 mm args below meth c Q D cy A nE sE ad (pc + 1, ls, .inl (ax_lcmp x y) :: r, s)) : ax_W p l e R s0 mm args below meth c Q D cy A nE sE ad (pc, ls, .inr (.inl y) :: .inr (.inl x) :: r, s) := by
  obtain ⟨hx, hb, hml, hown, hts, hK, hA, hM, hin, hG, hR1, hR2⟩ := X
  intro H locs arr hl hP hD hS
  exact W.lcmp hx hb hd (by have h := k H locs arr hl hP hD hS; simp only [List.map_cons, ax_z, ← ax_lcmp_ok] at h; exact h)
theorem ax_s_i2l (X : ax_cx p R s0 mm args meth c D cy A sa sv mi M) {x : Int} (hd : decode (ax_yb mi) pc = .ok (.i2l, 1)) (k : ax_W p l e R s0 mm args below meth c Q D cy A nE sE ad (pc + 1, ls, .inr (.inl (ax_w x)) :: r, s)) : ax_W p l e R s0 mm args below meth c Q D cy A nE sE ad (pc, ls, .inl x :: r, s) := by
  obtain ⟨hx, hb, hml, hown, hts, hK, hA, hM, hin, hG, hR1, hR2⟩ := X
  intro H locs arr hl hP hD hS
  exact lv_i2l hx hb hd (ax_i2l_ok x) (k H locs arr hl hP hD hS)
theorem ax_s_l2i (X : ax_cx p R s0 mm args meth c D cy A sa sv mi M) {x : Int} (hd : decode (ax_yb mi) pc = .ok (.l2i, 1)) (k : ax_W p l e R s0 mm args below meth c Q D cy A nE sE ad (pc + 1, ls, .inl x :: r, s)) : ax_W p l e R s0 mm args below meth c Q D cy A nE sE ad (pc, ls, .inr (.inl x) :: r, s) := by
  obtain ⟨hx, hb, hml, hown, hts, hK, hA, hM, hin, hG, hR1, hR2⟩ := X
  intro H locs arr hl hP hD hS
  exact lv_l2i hx hb hd Int64.toInt32_ofInt (k H locs arr hl hP hD hS)
theorem ax_s_i2b (X : ax_cx p R s0 mm args meth c D cy A sa sv mi M) {x : Int} (hd : decode (ax_yb mi) pc = .ok (.i2b, 1)) (k : ax_W p l e R s0 mm args below meth c Q D cy A nE sE ad (pc + 1, ls, .inl (ax_i2b x) :: r, s)) : ax_W p l e R s0 mm args below meth c Q D cy A nE sE ad (pc, ls, .inl x :: r, s) := by
  obtain ⟨hx, hb, hml, hown, hts, hK, hA, hM, hin, hG, hR1, hR2⟩ := X
  intro H locs arr hl hP hD hS
  exact lv_i2b hx hb hd (by unfold ax_i2b; rw [Int32.ofInt_toInt]) (k H locs arr hl hP hD hS)
theorem ax_s_i2c (X : ax_cx p R s0 mm args meth c D cy A sa sv mi M) {x : Int} (hd : decode (ax_yb mi) pc = .ok (.i2c, 1)) (k : ax_W p l e R s0 mm args below meth c Q D cy A nE sE ad (pc + 1, ls, .inl (ax_i2c x) :: r, s)) : ax_W p l e R s0 mm args below meth c Q D cy A nE sE ad (pc, ls, .inl x :: r, s) := by
  obtain ⟨hx, hb, hml, hown, hts, hK, hA, hM, hin, hG, hR1, hR2⟩ := X
  intro H locs arr hl hP hD hS
  exact lv_i2c hx hb hd (by unfold ax_i2c; rw [Int32.ofInt_toInt]) (k H locs arr hl hP hD hS)
theorem ax_s_dup (X : ax_cx p R s0 mm args meth c D cy A sa sv mi M) {v : ax_v} (hv : ax_cat v = 1) (hd : decode (ax_yb mi) pc = .ok (.dup, 1)) (k : ax_W p l e R s0 mm args below meth c Q D cy A nE sE ad (pc + 1, ls, v :: v :: r, s)) : ax_W p l e R s0 mm args below meth c Q D cy A nE sE ad (pc, ls, v :: r, s) := by
  obtain ⟨hx, hb, hml, hown, hts, hK, hA, hM, hin, hG, hR1, hR2⟩ := X
  intro H locs arr hl hP hD hS
  exact lv_dup hx hb hd (by rw [ax_zcat]; exact hv) (k H locs arr hl hP hD hS)
theorem ax_s_pop (X : ax_cx p R s0 mm args meth c D cy A sa sv mi M) {v : ax_v} (hv : ax_cat v = 1) (hd : decode (ax_yb mi) pc = .ok (.pop, 1)) (k : ax_W p l e R s0 mm args below meth c Q D cy A nE sE ad (pc + 1, ls, r, s)) : ax_W p l e R s0 mm args below meth c Q D cy A nE sE ad (pc, ls, v :: r, s) := by
  obtain ⟨hx, hb, hml, hown, hts, hK, hA, hM, hin, hG, hR1, hR2⟩ := X
  intro H locs arr hl hP hD hS
  exact lv_pop hx hb hd (by rw [ax_zcat]; exact hv) (k H locs arr hl hP hD hS)
theorem ax_s_dup2 (X : ax_cx p R s0 mm args meth c D cy A sa sv mi M) {v w : ax_v} (hv : ax_cat v = 1) (hw : ax_cat w = 1) (hd : decode (ax_yb mi) pc = .ok (.dup2, 1)) (k : ax_W p l e R s0 mm args below meth c Q D cy A nE sE ad (pc + 1, ls, v :: w :: v :: w :: r, s)) : ax_W p l e R s0 mm args below meth c Q D cy A nE sE ad (pc, ls, v :: w :: r, s) := by
  obtain ⟨hx, hb, hml, hown, hts, hK, hA, hM, hin, hG, hR1, hR2⟩ := X
  intro H locs arr hl hP hD hS
  exact lv_dup2_11 hx hb hd (by rw [ax_zcat]; exact hv) (by rw [ax_zcat]; exact hw) (k H locs arr hl hP hD hS)
theorem ax_s_goto (X : ax_cx p R s0 mm args meth c D cy A sa sv mi M) {off : Int} (ht : (pc : Int) + off = (ax_t pc off : Int)) (hd : decode (ax_yb mi) pc = .ok (.goto off, 3)) (k : ax_W p l e R s0 mm args below meth c Q D cy A nE sE ad (ax_t pc off, ls, st, s)) : ax_W p l e R s0 mm args below meth c Q D cy A nE sE ad (pc, ls, st, s) := by
  obtain ⟨hx, hb, hml, hown, hts, hK, hA, hM, hin, hG, hR1, hR2⟩ := X
  intro H locs arr hl hP hD hS
  exact lv_goto hx hb hd ht (k H locs arr hl hP hD hS)
theorem ax_s_icmp_eq (X : ax_cx p R s0 mm args meth c D cy A sa sv mi M) {x y : Int} {off : Int} (ht : (pc : Int) + off = (ax_t pc off : Int)) (hd : decode (ax_yb mi) pc = .ok (.if_icmp .eq off, 3)) (k : ax_W p l e R s0 mm args below meth c Q D cy A nE sE ad (ax_br .eq x y (ax_t pc off) (pc + 3), ls, r, s)) : ax_W p l e R s0 mm args below meth c Q D cy A nE sE ad (pc, ls, .inl y :: .inl x :: r, s) := by
  obtain ⟨hx, hb, hml, hown, hts, hK, hA, hM, hin, hG, hR1, hR2⟩ := X
  intro H locs arr hl hP hD hS
  refine lv_icmp_eq hx hb hd ht (fun q => ?_) (fun q => ?_)
  · have h : ax_br .eq x y (ax_t pc off) (pc + 3) = ax_t pc off := if_pos (ax_i_eq.mp q)
    rw [h] at k
    exact k H locs arr hl hP hD hS
  · have h : ax_br .eq x y (ax_t pc off) (pc + 3) = pc + 3 := if_neg (fun z => q (ax_i_eq.mpr z))
    rw [h] at k
    exact k H locs arr hl hP hD hS
theorem ax_s_if_eq (X : ax_cx p R s0 mm args meth c D cy A sa sv mi M) {x : Int} {off : Int} (ht : (pc : Int) + off = (ax_t pc off : Int)) (hd : decode (ax_yb mi) pc = .ok (.ifCond .eq off, 3)) (k : ax_W p l e R s0 mm args below meth c Q D cy A nE sE ad (ax_br .eq x 0 (ax_t pc off) (pc + 3), ls, r, s)) : ax_W p l e R s0 mm args below meth c Q D cy A nE sE ad (pc, ls, .inl x :: r, s) := by
  obtain ⟨hx, hb, hml, hown, hts, hK, hA, hM, hin, hG, hR1, hR2⟩ := X
  intro H locs arr hl hP hD hS
  refine lv_if_eq hx hb hd ht (fun q => ?_) (fun q => ?_)
  · rw [ax_i_0] at q; have h : ax_br .eq x 0 (ax_t pc off) (pc + 3) = ax_t pc off := if_pos (ax_i_eq.mp q)
    rw [h] at k
    exact k H locs arr hl hP hD hS
  · rw [ax_i_0] at q; have h : ax_br .eq x 0 (ax_t pc off) (pc + 3) = pc + 3 := if_neg (fun z => q (ax_i_eq.mpr z))
    rw [h] at k
    exact k H locs arr hl hP hD hS
theorem ax_s_icmp_ne (X : ax_cx p R s0 mm args meth c D cy A sa sv mi M) {x y : Int} {off : Int} (ht : (pc : Int) + off = (ax_t pc off : Int)) (hd : decode (ax_yb mi) pc = .ok (.if_icmp .ne off, 3)) (k : ax_W p l e R s0 mm args below meth c Q D cy A nE sE ad (ax_br .ne x y (ax_t pc off) (pc + 3), ls, r, s)) : ax_W p l e R s0 mm args below meth c Q D cy A nE sE ad (pc, ls, .inl y :: .inl x :: r, s) := by
  obtain ⟨hx, hb, hml, hown, hts, hK, hA, hM, hin, hG, hR1, hR2⟩ := X
  intro H locs arr hl hP hD hS
  refine lv_icmp_ne hx hb hd ht (fun q => ?_) (fun q => ?_)
  · have h : ax_br .ne x y (ax_t pc off) (pc + 3) = ax_t pc off := if_neg (fun z => q (ax_i_eq.mpr z))
    rw [h] at k
    exact k H locs arr hl hP hD hS
  · have h : ax_br .ne x y (ax_t pc off) (pc + 3) = pc + 3 := if_pos (ax_i_eq.mp q)
    rw [h] at k
    exact k H locs arr hl hP hD hS
theorem ax_s_if_ne (X : ax_cx p R s0 mm args meth c D cy A sa sv mi M) {x : Int} {off : Int} (ht : (pc : Int) + off = (ax_t pc off : Int)) (hd : decode (ax_yb mi) pc = .ok (.ifCond .ne off, 3)) (k : ax_W p l e R s0 mm args below meth c Q D cy A nE sE ad (ax_br .ne x 0 (ax_t pc off) (pc + 3), ls, r, s)) : ax_W p l e R s0 mm args below meth c Q D cy A nE sE ad (pc, ls, .inl x :: r, s) := by
  obtain ⟨hx, hb, hml, hown, hts, hK, hA, hM, hin, hG, hR1, hR2⟩ := X
  intro H locs arr hl hP hD hS
  refine lv_if_ne hx hb hd ht (fun q => ?_) (fun q => ?_)
  · rw [ax_i_0] at q; have h : ax_br .ne x 0 (ax_t pc off) (pc + 3) = ax_t pc off := if_neg (fun z => q (ax_i_eq.mpr z))
    rw [h] at k
    exact k H locs arr hl hP hD hS
  · rw [ax_i_0] at q; have h : ax_br .ne x 0 (ax_t pc off) (pc + 3) = pc + 3 := if_pos (ax_i_eq.mp q)
    rw [h] at k
    exact k H locs arr hl hP hD hS
theorem ax_s_icmp_lt (X : ax_cx p R s0 mm args meth c D cy A sa sv mi M) {x y : Int} {off : Int} (ht : (pc : Int) + off = (ax_t pc off : Int)) (hd : decode (ax_yb mi) pc = .ok (.if_icmp .lt off, 3)) (k : ax_W p l e R s0 mm args below meth c Q D cy A nE sE ad (ax_br .lt x y (ax_t pc off) (pc + 3), ls, r, s)) : ax_W p l e R s0 mm args below meth c Q D cy A nE sE ad (pc, ls, .inl y :: .inl x :: r, s) := by
  obtain ⟨hx, hb, hml, hown, hts, hK, hA, hM, hin, hG, hR1, hR2⟩ := X
  intro H locs arr hl hP hD hS
  refine lv_icmp_lt hx hb hd ht (fun q => ?_) (fun q => ?_)
  · have h : ax_br .lt x y (ax_t pc off) (pc + 3) = ax_t pc off := if_pos (ax_i_lt.mp q)
    rw [h] at k
    exact k H locs arr hl hP hD hS
  · have h : ax_br .lt x y (ax_t pc off) (pc + 3) = pc + 3 := if_neg (fun z => q (ax_i_lt.mpr z))
    rw [h] at k
    exact k H locs arr hl hP hD hS
theorem ax_s_if_lt (X : ax_cx p R s0 mm args meth c D cy A sa sv mi M) {x : Int} {off : Int} (ht : (pc : Int) + off = (ax_t pc off : Int)) (hd : decode (ax_yb mi) pc = .ok (.ifCond .lt off, 3)) (k : ax_W p l e R s0 mm args below meth c Q D cy A nE sE ad (ax_br .lt x 0 (ax_t pc off) (pc + 3), ls, r, s)) : ax_W p l e R s0 mm args below meth c Q D cy A nE sE ad (pc, ls, .inl x :: r, s) := by
  obtain ⟨hx, hb, hml, hown, hts, hK, hA, hM, hin, hG, hR1, hR2⟩ := X
  intro H locs arr hl hP hD hS
  refine lv_if_lt hx hb hd ht (fun q => ?_) (fun q => ?_)
  · rw [ax_i_0] at q; have h : ax_br .lt x 0 (ax_t pc off) (pc + 3) = ax_t pc off := if_pos (ax_i_lt.mp q)
    rw [h] at k
    exact k H locs arr hl hP hD hS
  · rw [ax_i_0] at q; have h : ax_br .lt x 0 (ax_t pc off) (pc + 3) = pc + 3 := if_neg (fun z => q (ax_i_lt.mpr z))
    rw [h] at k
    exact k H locs arr hl hP hD hS
theorem ax_s_icmp_ge (X : ax_cx p R s0 mm args meth c D cy A sa sv mi M) {x y : Int} {off : Int} (ht : (pc : Int) + off = (ax_t pc off : Int)) (hd : decode (ax_yb mi) pc = .ok (.if_icmp .ge off, 3)) (k : ax_W p l e R s0 mm args below meth c Q D cy A nE sE ad (ax_br .ge x y (ax_t pc off) (pc + 3), ls, r, s)) : ax_W p l e R s0 mm args below meth c Q D cy A nE sE ad (pc, ls, .inl y :: .inl x :: r, s) := by
  obtain ⟨hx, hb, hml, hown, hts, hK, hA, hM, hin, hG, hR1, hR2⟩ := X
  intro H locs arr hl hP hD hS
  refine lv_icmp_ge hx hb hd ht (fun q => ?_) (fun q => ?_)
  · have h : ax_br .ge x y (ax_t pc off) (pc + 3) = ax_t pc off := if_neg (Int.not_lt.mpr (ax_i_le.mp q))
    rw [h] at k
    exact k H locs arr hl hP hD hS
  · have h : ax_br .ge x y (ax_t pc off) (pc + 3) = pc + 3 := if_pos (Int.not_le.mp (fun z => q (ax_i_le.mpr z)))
    rw [h] at k
    exact k H locs arr hl hP hD hS
theorem ax_s_if_ge (X : ax_cx p R s0 mm args meth c D cy A sa sv mi M) {x : Int} {off : Int} (ht : (pc : Int) + off = (ax_t pc off : Int)) (hd : decode (ax_yb mi) pc = .ok (.ifCond .ge off, 3)) (k : ax_W p l e R s0 mm args below meth c Q D cy A nE sE ad (ax_br .ge x 0 (ax_t pc off) (pc + 3), ls, r, s)) : ax_W p l e R s0 mm args below meth c Q D cy A nE sE ad (pc, ls, .inl x :: r, s) := by
  obtain ⟨hx, hb, hml, hown, hts, hK, hA, hM, hin, hG, hR1, hR2⟩ := X
  intro H locs arr hl hP hD hS
  refine lv_if_ge hx hb hd ht (fun q => ?_) (fun q => ?_)
  · rw [ax_i_0] at q; have h : ax_br .ge x 0 (ax_t pc off) (pc + 3) = ax_t pc off := if_neg (Int.not_lt.mpr (ax_i_le.mp q))
    rw [h] at k
    exact k H locs arr hl hP hD hS
  · rw [ax_i_0] at q; have h : ax_br .ge x 0 (ax_t pc off) (pc + 3) = pc + 3 := if_pos (Int.not_le.mp (fun z => q (ax_i_le.mpr z)))
    rw [h] at k
    exact k H locs arr hl hP hD hS
theorem ax_s_icmp_gt (X : ax_cx p R s0 mm args meth c D cy A sa sv mi M) {x y : Int} {off : Int} (ht : (pc : Int) + off = (ax_t pc off : Int)) (hd : decode (ax_yb mi) pc = .ok (.if_icmp .gt off, 3)) (k : ax_W p l e R s0 mm args below meth c Q D cy A nE sE ad (ax_br .gt x y (ax_t pc off) (pc + 3), ls, r, s)) : ax_W p l e R s0 mm args below meth c Q D cy A nE sE ad (pc, ls, .inl y :: .inl x :: r, s) := by
  obtain ⟨hx, hb, hml, hown, hts, hK, hA, hM, hin, hG, hR1, hR2⟩ := X
  intro H locs arr hl hP hD hS
  refine lv_icmp_gt hx hb hd ht (fun q => ?_) (fun q => ?_)
  · have h : ax_br .gt x y (ax_t pc off) (pc + 3) = ax_t pc off := if_pos (ax_i_lt.mp q)
    rw [h] at k
    exact k H locs arr hl hP hD hS
  · have h : ax_br .gt x y (ax_t pc off) (pc + 3) = pc + 3 := if_neg (fun z => q (ax_i_lt.mpr z))
    rw [h] at k
    exact k H locs arr hl hP hD hS
theorem ax_s_if_gt (X : ax_cx p R s0 mm args meth c D cy A sa sv mi M) {x : Int} {off : Int} (ht : (pc : Int) + off = (ax_t pc off : Int)) (hd : decode (ax_yb mi) pc = .ok (.ifCond .gt off, 3)) (k : ax_W p l e R s0 mm args below meth c Q D cy A nE sE ad (ax_br .gt x 0 (ax_t pc off) (pc + 3), ls, r, s)) : ax_W p l e R s0 mm args below meth c Q D cy A nE sE ad (pc, ls, .inl x :: r, s) := by
  obtain ⟨hx, hb, hml, hown, hts, hK, hA, hM, hin, hG, hR1, hR2⟩ := X
  intro H locs arr hl hP hD hS
  refine lv_if_gt hx hb hd ht (fun q => ?_) (fun q => ?_)
  · rw [ax_i_0] at q; have h : ax_br .gt x 0 (ax_t pc off) (pc + 3) = ax_t pc off := if_pos (ax_i_lt.mp q)
    rw [h] at k
    exact k H locs arr hl hP hD hS
  · rw [ax_i_0] at q; have h : ax_br .gt x 0 (ax_t pc off) (pc + 3) = pc + 3 := if_neg (fun z => q (ax_i_lt.mpr z))
    rw [h] at k
    exact k H locs arr hl hP hD hS
theorem ax_s_icmp_le (X : ax_cx p R s0 mm args meth c D cy A sa sv mi M) {x y : Int} {off : Int} (ht : (pc : Int) + off = (ax_t pc off : Int)) (hd : decode (ax_yb mi) pc = .ok (.if_icmp .le off, 3)) (k : ax_W p l e R s0 mm args below meth c Q D cy A nE sE ad (ax_br .le x y (ax_t pc off) (pc + 3), ls, r, s)) : ax_W p l e R s0 mm args below meth c Q D cy A nE sE ad (pc, ls, .inl y :: .inl x :: r, s) := by
  obtain ⟨hx, hb, hml, hown, hts, hK, hA, hM, hin, hG, hR1, hR2⟩ := X
  intro H locs arr hl hP hD hS
  refine lv_icmp_le hx hb hd ht (fun q => ?_) (fun q => ?_)
  · have h : ax_br .le x y (ax_t pc off) (pc + 3) = ax_t pc off := if_neg (Int.not_lt.mpr (ax_i_le.mp q))
    rw [h] at k
    exact k H locs arr hl hP hD hS
  · have h : ax_br .le x y (ax_t pc off) (pc + 3) = pc + 3 := if_pos (Int.not_le.mp (fun z => q (ax_i_le.mpr z)))
    rw [h] at k
    exact k H locs arr hl hP hD hS
theorem ax_s_if_le (X : ax_cx p R s0 mm args meth c D cy A sa sv mi M) {x : Int} {off : Int} (ht : (pc : Int) + off = (ax_t pc off : Int)) (hd : decode (ax_yb mi) pc = .ok (.ifCond .le off, 3)) (k : ax_W p l e R s0 mm args below meth c Q D cy A nE sE ad (ax_br .le x 0 (ax_t pc off) (pc + 3), ls, r, s)) : ax_W p l e R s0 mm args below meth c Q D cy A nE sE ad (pc, ls, .inl x :: r, s) := by
  obtain ⟨hx, hb, hml, hown, hts, hK, hA, hM, hin, hG, hR1, hR2⟩ := X
  intro H locs arr hl hP hD hS
  refine lv_if_le hx hb hd ht (fun q => ?_) (fun q => ?_)
  · rw [ax_i_0] at q; have h : ax_br .le x 0 (ax_t pc off) (pc + 3) = ax_t pc off := if_neg (Int.not_lt.mpr (ax_i_le.mp q))
    rw [h] at k
    exact k H locs arr hl hP hD hS
  · rw [ax_i_0] at q; have h : ax_br .le x 0 (ax_t pc off) (pc + 3) = pc + 3 := if_pos (Int.not_le.mp (fun z => q (ax_i_le.mpr z)))
    rw [h] at k
    exact k H locs arr hl hP hD hS
theorem ax_sw_t (x : Int) (d pc : Nat) : ∀ (os : List Int) (lo : Int), ax_sw x d (ax_tsl pc lo os) = if ax_w x < lo ∨ lo + (os.length : Int) ≤ ax_w x then d else ax_t pc (os.getD (ax_w x - lo).toNat 0) := by
  intro os
  induction os with
  | nil =>
    intro lo
    have h : ax_w x < lo ∨ lo + (([] : List Int).length : Int) ≤ ax_w x := by simp only [List.length_nil]; omega
    rw [if_pos h]
    rfl
  | cons a r ih =>
    intro lo
    unfold ax_tsl ax_sw
    by_cases h : ax_w x = lo
    · rw [if_pos h, if_neg (by simp only [List.length_cons]; omega), h]
      simp
    · rw [if_neg h, ih (lo + 1)]
      by_cases h2 : ax_w x < lo ∨ lo + ((a :: r).length : Int) ≤ ax_w x
      · rw [if_pos h2, if_pos (by simp only [List.length_cons] at h2; omega)]
      · have h3 : ¬ (ax_w x < lo + 1 ∨ lo + 1 + (r.length : Int) ≤ ax_w x) := by simp only [List.length_cons] at h2; omega
        rw [if_neg h2, if_neg h3]
        have e : (ax_w x - lo).toNat = (ax_w x - (lo + 1)).toNat + 1 := by omega
        rw [e]
        rfl
theorem ax_sw_l (x : Int) (pc : Nat) (d : Int) : ∀ (ps : List (Int × Int)), ax_sw x (ax_t pc d) (ax_lsl pc ps) = ax_t pc (Op.lookupswitch.offset ps d (ax_w x)) := by
  intro ps
  induction ps with
  | nil => rfl
  | cons a r ih =>
    obtain ⟨a, b⟩ := a
    unfold ax_lsl ax_sw
    rw [Op.lookupswitch.offset_cons]
    by_cases h : ax_w x = a
    · rw [if_pos h, if_pos h.symm]
    · rw [if_neg h, if_neg (fun q => h q.symm)]
      exact ih
theorem ax_s_tsw (X : ax_cx p R s0 mm args meth c D cy A sa sv mi M) {x d lo hi : Int} {os : Array Int} {n : Nat} (hd : decode (ax_yb mi) pc = .ok (.tableswitch d lo hi os, n)) (ho : ax_oi pc (.tableswitch d lo hi os) = true) (k : ax_W p l e R s0 mm args below meth c Q D cy A nE sE ad (ax_sw x (ax_t pc d) (ax_tsl pc lo os.toList), ls, r, s)) : ax_W p l e R s0 mm args below meth c Q D cy A nE sE ad (pc, ls, .inl x :: r, s) := by
  obtain ⟨hx, hb, hml, hown, hts, hK, hA, hM, hin, hG, hR1, hR2⟩ := X
  intro H locs arr hl hP hD hS
  unfold ax_oi ax_tg at ho
  simp only [Bool.and_eq_true, decide_eq_true_eq, List.all_eq_true] at ho
  obtain ⟨⟨h1, h2⟩, h3⟩ := ho
  rw [ax_sw_t] at k
  by_cases q : ax_w x < lo ∨ lo + (os.toList.length : Int) ≤ ax_w x
  · rw [if_pos q] at k
    exact lv_tableOut hx hb hd (by rw [ax_w_i]; omega) h1 (k H locs arr hl hP hD hS)
  · rw [if_neg q] at k
    have hlt : (ax_w x - lo).toNat < os.toList.length := by omega
    refine lv_tableIn (off := os.toList.getD (ax_w x - lo).toNat 0) hx hb hd (by rw [ax_w_i]; omega) (by rw [ax_w_i]; omega) ?_ ?_ (k H locs arr hl hP hD hS)
    · rw [ax_w_i, ← Array.getElem?_toList, List.getD_eq_getElem?_getD, List.getElem?_eq_getElem hlt]
      rfl
    · apply h2
      rw [List.getD_eq_getElem?_getD, List.getElem?_eq_getElem hlt]
      exact List.getElem_mem hlt
theorem ax_s_lsw (X : ax_cx p R s0 mm args meth c D cy A sa sv mi M) {x d : Int} {ps : Array (Int × Int)} {n : Nat} (hd : decode (ax_yb mi) pc = .ok (.lookupswitch d ps, n)) (ho : ax_oi pc (.lookupswitch d ps) = true) (k : ax_W p l e R s0 mm args below meth c Q D cy A nE sE ad (ax_sw x (ax_t pc d) (ax_lsl pc ps.toList), ls, r, s)) : ax_W p l e R s0 mm args below meth c Q D cy A nE sE ad (pc, ls, .inl x :: r, s) := by
  obtain ⟨hx, hb, hml, hown, hts, hK, hA, hM, hin, hG, hR1, hR2⟩ := X
  intro H locs arr hl hP hD hS
  unfold ax_oi ax_tg at ho
  rw [Bool.and_eq_true, Bool.and_eq_true, decide_eq_true_eq, List.all_eq_true] at ho
  obtain ⟨⟨h1, h2⟩, h3⟩ := ho
  rw [ax_sw_l] at k
  refine lv_lookup (off := Op.lookupswitch.offset ps.toList d (ax_w x)) hx hb hd h3 (by rw [ax_w_i]) ?_ (k H locs arr hl hP hD hS)
  have hq : ∀ (qs : List (Int × Int)), (∀ q ∈ qs, decide ((pc : Int) + q.2 = (ax_t pc q.2 : Int)) = true) → (pc : Int) + Op.lookupswitch.offset qs d (ax_w x) = (ax_t pc (Op.lookupswitch.offset qs d (ax_w x)) : Int) := by
    intro qs
    induction qs with
    | nil => intro _; exact h1
    | cons a r ih =>
      intro h
      obtain ⟨a, b⟩ := a
      rw [Op.lookupswitch.offset_cons]
      split
      · exact of_decide_eq_true (h (a, b) List.mem_cons_self)
      · exact ih (fun q hq => h q (List.mem_cons_of_mem _ hq))
  exact hq _ h2
end AXS
