/-! ONE STEP, of cells -/
theorem ax_fI {s : ax_S} {o f k t : Nat} {x : Int} : ax_f (ax_pI s o f x) o k t = if k = f ∧ t ≠ 1 ∧ t ≠ 2 then .inl x else ax_f s o k t := by
  by_cases h1 : t = 1
  · subst h1; rw [if_neg (fun q => q.2.1 rfl)]; rfl
  · by_cases h2 : t = 2
    · subst h2; rw [if_neg (fun q => q.2.2 rfl)]; rfl
    · have e : ∀ s : ax_S, ax_f s o k t = .inl (ax_I s o k) := by
        intro s
        unfold ax_f
        split
        · exact absurd rfl h1
        · exact absurd rfl h2
        · rfl
      rw [e, e]
      show Sum.inl (ax_u (ax_I s) o f x o k) = _
      rw [ax_u_eq]
      by_cases h : k = f
      · rw [if_pos h, if_pos ⟨h, h1, h2⟩]
      · rw [if_neg h, if_neg (fun q => h q.1)]
theorem ax_fJ {s : ax_S} {o f k t : Nat} {x : Int} : ax_f (ax_pJ s o f x) o k t = if k = f ∧ t = 1 then .inr (.inl x) else ax_f s o k t := by
  by_cases h1 : t = 1
  · subst h1
    show Sum.inr (Sum.inl (ax_u (ax_J s) o f x o k)) = _
    rw [ax_u_eq]
    by_cases h : k = f
    · rw [if_pos h, if_pos ⟨h, rfl⟩]
    · rw [if_neg h, if_neg (fun q => h q.1)]; rfl
  · rw [if_neg (fun q => h1 q.2)]
    unfold ax_f
    split
    · exact absurd rfl h1
    · rfl
    · rfl
theorem ax_fR {s : ax_S} {o f k t : Nat} {x : Option Nat} : ax_f (ax_pR s o f x) o k t = if k = f ∧ t = 2 then .inr (.inr x) else ax_f s o k t := by
  by_cases h1 : t = 2
  · subst h1
    show Sum.inr (Sum.inr (ax_u (ax_R s) o f x o k)) = _
    rw [ax_u_eq]
    by_cases h : k = f
    · rw [if_pos h, if_pos ⟨h, rfl⟩]
    · rw [if_neg h, if_neg (fun q => h q.1)]; rfl
  · rw [if_neg (fun q => h1 q.2)]
    unfold ax_f
    split
    · rfl
    · exact absurd rfl h1
    · rfl
theorem ax_wd_f {cy : Nat → ClassId} {s s' : ax_S} {ad : Nat → Nat} {o ci f : Nat} {v : ax_v} (ho : o < s.1) (hk : (ax_K s o).1 = ci) (hc : ci < 13) (h1 : s'.1 = s.1) (h2 : ax_K s' = ax_K s) (h3 : ∀ j, j ≠ o → ax_I s' j = ax_I s j ∧ ax_J s' j = ax_J s j ∧ ax_R s' j = ax_R s j)
    (h4 : ∀ k, ax_f s' o k (ax_tk ci k) = if k = f then v else ax_f s o k (ax_tk ci k)) :
    (ax_wd cy s ad).set o (ad o, .inr (ci, ((List.range (ax_fn ci)).map (fun k => ax_z ad (ax_f s o k (ax_tk ci k)))).set f (ax_z ad v))) = ax_wd cy s' ad := by
  refine ax_wd_set ho h1 ?_ (fun j _ hj => ax_e_congr (by rw [h2]) (h3 j hj).1 (h3 j hj).2.1 (h3 j hj).2.2)
  rw [ax_e_obj (by rw [h2]; exact hk) hc]
  congr 2
  refine (ax_set_map (fun j _ => ?_)).symm
  rw [h4 j]
  split <;> rfl
theorem ax_pf_e {cy : Nat → ClassId} {s s' : ax_S} {ad : Nat → Nat} {o ci f : Nat} {v : ax_v} {g : Prop} (h : ax_pf s o f (ax_tk ci f) v = some (g, s')) (ho : o < s.1) (hk : (ax_K s o).1 = ci) (hc : ci < 13) :
    (ax_wd cy s ad).set o (ad o, .inr (ci, ((List.range (ax_fn ci)).map (fun k => ax_z ad (ax_f s o k (ax_tk ci k)))).set f (ax_z ad v))) = ax_wd cy s' ad := by
  generalize ht : ax_tk ci f = t at h
  unfold ax_pf at h
  split at h
  · cases h
    refine ax_wd_f ho hk hc rfl rfl (fun j hj => ⟨ax_u_ne hj, rfl, rfl⟩) (fun k => ?_)
    rw [ax_fI]
    by_cases e : k = f
    · subst e; rw [if_pos ⟨rfl, by rw [ht]; decide, by rw [ht]; decide⟩, if_pos rfl]
    · rw [if_neg (fun q => e q.1), if_neg e]
  · cases h
    refine ax_wd_f ho hk hc rfl rfl (fun j hj => ⟨rfl, ax_u_ne hj, rfl⟩) (fun k => ?_)
    rw [ax_fJ]
    by_cases e : k = f
    · subst e; rw [if_pos ⟨rfl, ht⟩, if_pos rfl]
    · rw [if_neg (fun q => e q.1), if_neg e]
  · rename_i a
    cases hb : Nat.blt a s.1 with
    | false => rw [hb] at h; cases h
    | true =>
      rw [hb] at h
      cases h
      refine ax_wd_f ho hk hc rfl rfl (fun j hj => ⟨rfl, rfl, ax_u_ne hj⟩) (fun k => ?_)
      rw [ax_fR]
      by_cases e : k = f
      · subst e; rw [if_pos ⟨rfl, ht⟩, if_pos rfl]
      · rw [if_neg (fun q => e q.1), if_neg e]
  · cases h
    refine ax_wd_f ho hk hc rfl rfl (fun j hj => ⟨ax_u_ne hj, rfl, rfl⟩) (fun k => ?_)
    rw [ax_fI]
    by_cases e : k = f
    · subst e; rw [if_pos ⟨rfl, by rw [ht]; decide, by rw [ht]; decide⟩, if_pos rfl]
    · rw [if_neg (fun q => e q.1), if_neg e]
  · cases h
/-- what is put fits -/
theorem ax_pf_fit {s s' : ax_S} {ad : Nat → Nat} {o f t : Nat} {v : ax_v} {g : Prop} {ty : FieldType} (h : ax_pf s o f t v = some (g, s')) (hg : g) (hk : ax_kty t ty = true) : narrow ty (ax_z ad v) = ax_z ad v ∧ fits ty (ax_z ad v) = true := by
  unfold ax_pf at h
  split at h
  · cases ty <;> first | (cases hk; done) | exact ⟨rfl, rfl⟩
  · cases ty <;> first | (cases hk; done) | exact ⟨rfl, rfl⟩
  · cases ty <;> first | (cases hk; done) | exact ⟨rfl, rfl⟩
  · cases h
    cases ty <;> first | (cases hk; done) | skip
    rcases hg with rfl | rfl
    · exact ⟨show narrow FieldType.boolean (Value.int (Int32.ofInt 0)) = Value.int (Int32.ofInt 0) from by decide +kernel, show fits FieldType.boolean (Value.int (Int32.ofInt 0)) = true from by decide +kernel⟩
    · exact ⟨show narrow FieldType.boolean (Value.int (Int32.ofInt 1)) = Value.int (Int32.ofInt 1) from by decide +kernel, show fits FieldType.boolean (Value.int (Int32.ofInt 1)) = true from by decide +kernel⟩
  · cases h
theorem ax_pf_n {s s' : ax_S} {o f t : Nat} {v : ax_v} {g : Prop} (hp : ax_pf s o f t v = some (g, s')) : s'.1 = s.1 ∧ s'.2.1 = s.2.1 := by
  unfold ax_pf at hp
  split at hp
  · cases hp; exact ⟨rfl, rfl⟩
  · cases hp; exact ⟨rfl, rfl⟩
  · rename_i a
    cases hb : Nat.blt a s.1 with
    | false => rw [hb] at hp; cases hp
    | true => rw [hb] at hp; cases hp; exact ⟨rfl, rfl⟩
  · cases hp; exact ⟨rfl, rfl⟩
  · cases hp
theorem ax_objw : Cond.instanceMethod Lib.objectInit ∈ ax_tb ∧ Cond.code Lib.objectInit ⟨#[0xb1]⟩ 1 none ∈ ax_tb := by
  have h : ax_gs [.instanceMethod Lib.objectInit] = true := by decide +kernel
  have h2 : ax_gs [.code Lib.objectInit ⟨#[0xb1]⟩ 1 none] = true := by decide +kernel
  exact ⟨ax_gs_mem h List.mem_cons_self, ax_gs_mem h2 List.mem_cons_self⟩
theorem ax_cpyw : Cond.native arraycopyName ∈ ax_tb ∧ Cond.static arraycopyName ∈ ax_tb ∧ Cond.initialized "java/lang/System" ∈ ax_tb := by
  have h : ax_gs [.native arraycopyName] = true := by decide +kernel
  have h2 : ax_gs [.static arraycopyName] = true := by decide +kernel
  have h3 : ax_gs [.initialized "java/lang/System"] = true := by decide +kernel
  exact ⟨ax_gs_mem h List.mem_cons_self, ax_gs_mem h2 List.mem_cons_self, ax_gs_mem h3 List.mem_cons_self⟩
section AXH
variable {p : Program} {l : Launch} {e : Env} {R : Room} {s0 : State} {mm : MethodId} {args : Array Value} {below : List Frame} {meth : Method} {c : Code} {Q : State → Prop} {D : va_G} {cy : Nat → ClassId} {A : Nat → Prop} {sa sv : Nat → Nat} {nE sE mi : Nat} {M : ax_M} {ad : Nat → Nat}
variable {pc : Nat} {ls : ax_L} {st r : List ax_v} {s : ax_S}
theorem ax_s_gf (X : ax_cx p R s0 mm args meth c D cy A sa sv mi M) {i o ci f t : Nat} {fin nest : Bool} (hf : ax_fr M.1 i = some (ci, f, t, fin, nest)) (ho : o < s.1) (hk : (ax_K s o).1 = ci) (hd : decode (ax_yb mi) pc = .ok (.getfield i, 3)) (k : ax_W p l e R s0 mm args below meth c Q D cy A nE sE ad (pc + 3, ls, ax_f s o f t :: r, s)) : ax_W p l e R s0 mm args below meth c Q D cy A nE sE ad (pc, ls, .inr (.inr (some o)) :: r, s) := by
  obtain ⟨hx, hb, hml, hown, hts, hK, hA, hM, hin, hG, hR1, hR2⟩ := X
  intro H locs arr hl hP hD hS
  obtain ⟨f1, f2, f3, f4, f5, f6, f7⟩ := ax_fr_ok hf
  subst f3
  have he : (ax_wd cy s ad)[o]? = some (ad o, .inr (ci, (List.range (ax_fn ci)).map (fun k => ax_z ad (ax_f s o k (ax_tk ci k))))) := by rw [ax_wd_get ho, ax_e_obj hk f1]
  have hv : ((List.range (ax_fn ci)).map (fun k => ax_z ad (ax_f s o k (ax_tk ci k))))[f]? = some (ax_z ad (ax_f s o f (ax_tk ci f))) := by simp [f2]
  cases nest with
  | false => exact va_get hx hb hts (ax_lays f1) hown hK hP o he (ax_cls f1) f f2 (hts _ (f6 rfl)) (fun _ h => h) hv hd (k H locs arr hl hP hD hS)
  | true => exact va_getN hx hb hts (ax_lays f1) hown hK hP o he (ax_cls f1) f f2 (va_Nw.use rfl (hG.2.2.2.1 _ _ _ _ _ _ (f7 rfl))) (fun _ h => h) hv hd (k H locs arr hl hP hD hS)
theorem ax_s_pf (X : ax_cx p R s0 mm args meth c D cy A sa sv mi M) {i o ci f t : Nat} {fin nest : Bool} {v : ax_v} {g : Prop} {s' : ax_S} (hf : ax_fr M.1 i = some (ci, f, t, fin, nest)) (ho : o < s.1) (hk : (ax_K s o).1 = ci) (hfin : fin = true → M.2.2.2.2.1 = true ∧ ci = M.1 ∧ nest = false) (hp : ax_pf s o f t v = some (g, s')) (hg : g) (hd : decode (ax_yb mi) pc = .ok (.putfield i, 3)) (k : ax_W p l e R s0 mm args below meth c Q D cy A nE sE ad (pc + 3, ls, r, s')) : ax_W p l e R s0 mm args below meth c Q D cy A nE sE ad (pc, ls, v :: .inr (.inr (some o)) :: r, s) := by
  obtain ⟨hx, hb, hml, hown, hts, hK, hA, hM, hin, hG, hR1, hR2⟩ := X
  intro H locs arr hl hP hD hS
  obtain ⟨f1, f2, f3, f4, f5, f6, f7⟩ := ax_fr_ok hf
  subst f3
  have hle := ax_pf_le hp
  have hn := ax_pf_n hp
  have he : (ax_wd cy s ad)[o]? = some (ad o, .inr (ci, (List.range (ax_fn ci)).map (fun k => ax_z ad (ax_f s o k (ax_tk ci k))))) := by rw [ax_wd_get ho, ax_e_obj hk f1]
  have hfit := ax_pf_fit (ad := ad) hp hg (ax_kinds f1 f f2)
  have hset := ax_pf_e (cy := cy) (ad := ad) hp ho hk f1
  have hlen : f < ((List.range (ax_fn ci)).map (fun k => ax_z ad (ax_f s o k (ax_tk ci k)))).length := by simp [f2]
  have go : ∀ (H1 : Heap) (locs1 : List Loc), va_P D ax_cl ((ax_wd cy s ad).set o (ad o, .inr (ci, ((List.range (ax_fn ci)).map (fun k => ax_z ad (ax_f s o k (ax_tk ci k)))).set f (ax_z ad v)))) H1 → va_D A ((ax_wd cy s ad).set o (ad o, .inr (ci, ((List.range (ax_fn ci)).map (fun k => ax_z ad (ax_f s o k (ax_tk ci k)))).set f (ax_z ad v)))) → va_S A s0.heap H1 locs1 →
      W p l e R s0 mm args below meth c H1 locs1 (s.1 - nE) (s.2.1 - sE) Q (F0 mm (pc + 3) arr (r.map (ax_z ad))) := by
    intro H1 locs1 hP1 hD1 hS1
    rw [hset] at hP1 hD1
    have h := k H1 locs1 arr hl hP1 hD1 hS1
    dsimp only at h
    rw [hn.1, hn.2] at h
    exact h
  cases fin with
  | true =>
    obtain ⟨g1, g2, g3⟩ := hfin rfl
    subst g3
    exact va_putF hx hb hts (ax_lays f1) (ax_ty ci) (ax_types f1) (ax_apart f1) hown hK hP hD hS o he (ax_cls f1) f f2 (hts _ (f6 rfl)) (fun _ h => h) f4.symm (hin g1) (by rw [f5, g2]) (ax_types f1 f f2) hfit.1 hfit.2 hlen hd go
  | false =>
    cases nest with
    | false => exact va_put hx hb hts (ax_lays f1) (ax_ty ci) (ax_types f1) (ax_apart f1) hown hK hP hD hS o he (ax_cls f1) f f2 (hts _ (f6 rfl)) (fun _ h => h) f4.symm (ax_types f1 f f2) hfit.1 hfit.2 hlen hd go
    | true => exact va_putN hx hb hts (ax_lays f1) (ax_ty ci) (ax_types f1) (ax_apart f1) hown hK hP hD hS o he (ax_cls f1) f f2 (va_Nw.use rfl (hG.2.2.2.1 _ _ _ _ _ _ (f7 rfl))) (fun _ h => h) f4.symm (ax_types f1 f f2) hfit.1 hfit.2 hlen hd go
theorem ax_s_iaload (X : ax_cx p R s0 mm args meth c D cy A sa sv mi M) {i : Int} {o : Nat} (ho : o < s.1) (hk : (ax_K s o).1 = 20) (hg : 0 ≤ ax_w i ∧ ax_w i < ((ax_K s o).2 : Nat)) (hd : decode (ax_yb mi) pc = .ok (.iaload, 1)) (k : ax_W p l e R s0 mm args below meth c Q D cy A nE sE ad (pc + 1, ls, .inl (ax_I s o (ax_w i).toNat) :: r, s)) : ax_W p l e R s0 mm args below meth c Q D cy A nE sE ad (pc, ls, .inl i :: .inr (.inr (some o)) :: r, s) := by
  obtain ⟨hx, hb, hml, hown, hts, hK, hA, hM, hin, hG, hR1, hR2⟩ := X
  intro H locs arr hl hP hD hS
  have h := k H locs arr hl hP hD hS
  refine va_iald hx hb hK hP o 0 (by rw [ax_wd_get ho, ax_e_int hk (by decide)]) rfl (ax_i_in hg) hd ?_
  rw [ax_i_cl]
  exact h
theorem ax_s_caload (X : ax_cx p R s0 mm args meth c D cy A sa sv mi M) {i : Int} {o : Nat} (ho : o < s.1) (hk : (ax_K s o).1 = 21) (hg : 0 ≤ ax_w i ∧ ax_w i < ((ax_K s o).2 : Nat)) (hd : decode (ax_yb mi) pc = .ok (.caload, 1)) (k : ax_W p l e R s0 mm args below meth c Q D cy A nE sE ad (pc + 1, ls, .inl (ax_I s o (ax_w i).toNat) :: r, s)) : ax_W p l e R s0 mm args below meth c Q D cy A nE sE ad (pc, ls, .inl i :: .inr (.inr (some o)) :: r, s) := by
  obtain ⟨hx, hb, hml, hown, hts, hK, hA, hM, hin, hG, hR1, hR2⟩ := X
  intro H locs arr hl hP hD hS
  have h := k H locs arr hl hP hD hS
  refine va_cald hx hb hK hP o 1 (by rw [ax_wd_get ho, ax_e_int hk (by decide)]) rfl (ax_i_in hg) hd ?_
  rw [ax_i_cl]
  exact h
theorem ax_s_baload (X : ax_cx p R s0 mm args meth c D cy A sa sv mi M) {i : Int} {o : Nat} (ho : o < s.1) (hk : (ax_K s o).1 = 22) (hg : 0 ≤ ax_w i ∧ ax_w i < ((ax_K s o).2 : Nat)) (hd : decode (ax_yb mi) pc = .ok (.baload, 1)) (k : ax_W p l e R s0 mm args below meth c Q D cy A nE sE ad (pc + 1, ls, .inl (ax_I s o (ax_w i).toNat) :: r, s)) : ax_W p l e R s0 mm args below meth c Q D cy A nE sE ad (pc, ls, .inl i :: .inr (.inr (some o)) :: r, s) := by
  obtain ⟨hx, hb, hml, hown, hts, hK, hA, hM, hin, hG, hR1, hR2⟩ := X
  intro H locs arr hl hP hD hS
  have h := k H locs arr hl hP hD hS
  refine va_bald hx hb hK hP o 2 (by rw [ax_wd_get ho, ax_e_int hk (by decide)]) rfl (ax_i_in hg) hd ?_
  rw [ax_i_cl]
  exact h
theorem ax_s_laload (X : ax_cx p R s0 mm args meth c D cy A sa sv mi M) {i : Int} {o : Nat} (ho : o < s.1) (hk : (ax_K s o).1 = 23) (hg : 0 ≤ ax_w i ∧ ax_w i < ((ax_K s o).2 : Nat)) (hd : decode (ax_yb mi) pc = .ok (.laload, 1)) (k : ax_W p l e R s0 mm args below meth c Q D cy A nE sE ad (pc + 1, ls, .inr (.inl (ax_J s o (ax_w i).toNat)) :: r, s)) : ax_W p l e R s0 mm args below meth c Q D cy A nE sE ad (pc, ls, .inl i :: .inr (.inr (some o)) :: r, s) := by
  obtain ⟨hx, hb, hml, hown, hts, hK, hA, hM, hin, hG, hR1, hR2⟩ := X
  intro H locs arr hl hP hD hS
  have h := k H locs arr hl hP hD hS
  refine va_lald hx hb hK hP o 3 (by rw [ax_wd_get ho, ax_e_long hk]) rfl (ax_i_in hg) hd ?_
  rw [ax_i_cl]
  exact h
theorem ax_s_aaload (X : ax_cx p R s0 mm args meth c D cy A sa sv mi M) {i : Int} {o : Nat} (ho : o < s.1) (hk : (ax_K s o).1 = 24) (hg : 0 ≤ ax_w i ∧ ax_w i < ((ax_K s o).2 : Nat)) (hd : decode (ax_yb mi) pc = .ok (.aaload, 1)) (k : ax_W p l e R s0 mm args below meth c Q D cy A nE sE ad (pc + 1, ls, .inr (.inr (ax_R s o (ax_w i).toNat)) :: r, s)) : ax_W p l e R s0 mm args below meth c Q D cy A nE sE ad (pc, ls, .inl i :: .inr (.inr (some o)) :: r, s) := by
  obtain ⟨hx, hb, hml, hown, hts, hK, hA, hM, hin, hG, hR1, hR2⟩ := X
  intro H locs arr hl hP hD hS
  have h := k H locs arr hl hP hD hS
  have ha : (ax_wd cy s ad)[o]? = some (ad o, .inl (cy 24, (ax_K s o).2, .inr (.inr (.inr (.inr (fun j => (ax_R s o j).map ad)))))) := by rw [ax_wd_get ho, ax_e_ref hk]
  have hin2 := ax_i_in hg
  have hlt : (Int32.ofInt i).toNatClampNeg < (ax_K s o).2 := Nat.not_le.mp fun q => hin2 (Or.inr q)
  refine W.aald (v := va_rf ((ax_R s o (ax_w i).toNat).map ad)) (ty := .array .int) hx hb (hP o _ ha) ((hK.2 4 _ rfl).1 (ax_K s o).2 (fun j => va_rf ((ax_R s o j).map ad))) rfl (fun q => by cases q) (by show ¬ (_ < 0 ∨ (arrV _ _ _).slots.size ≤ _); rw [arrV_size]; exact hin2) (by show (arrV _ _ _).slots[_]? = _; rw [arrV_read _ _ hlt, ax_i_cl]) rfl rfl hd h
theorem ax_s_iastore (X : ax_cx p R s0 mm args meth c D cy A sa sv mi M) {i x : Int} {o : Nat} (ho : o < s.1) (hk : (ax_K s o).1 = 20) (hg : 0 ≤ ax_w i ∧ ax_w i < ((ax_K s o).2 : Nat)) (hd : decode (ax_yb mi) pc = .ok (.iastore, 1)) (k : ax_W p l e R s0 mm args below meth c Q D cy A nE sE ad (pc + 1, ls, r, ax_pI s o (ax_w i).toNat (x))) : ax_W p l e R s0 mm args below meth c Q D cy A nE sE ad (pc, ls, .inl x :: .inl i :: .inr (.inr (some o)) :: r, s) := by
  obtain ⟨hx, hb, hml, hown, hts, hK, hA, hM, hin, hG, hR1, hR2⟩ := X
  intro H locs arr hl hP hD hS
  refine va_iast hx hb hK hP hD hS o 0 (by rw [ax_wd_get ho, ax_e_int hk (by decide)]) rfl (ax_i_in hg) hd (fun H1 locs1 hP1 hD1 hS1 => ?_)
  rw [ax_i_cl, ax_wd_set (s' := ax_pI s o (ax_w i).toNat (x)) ho rfl ?_ (fun j _ hj => ax_e_congr rfl (ax_u_ne hj) rfl rfl)] at hP1 hD1
  · exact k H1 locs1 arr hl hP1 hD1 hS1
  all_goals
    rw [ax_e_int (s := ax_pI s o (ax_w i).toNat (x)) hk (by decide)]
    refine congrArg (fun z => Sum.inl (cy 20, (ax_K s o).2, Sum.inl z)) (funext fun j => ?_)
    show Int32.ofInt (ax_u (ax_I s) o (ax_w i).toNat _ o j) = upd _ _ _ j
    rw [ax_u_eq]
    unfold upd
    split <;> rfl
theorem ax_s_castore (X : ax_cx p R s0 mm args meth c D cy A sa sv mi M) {i x : Int} {o : Nat} (ho : o < s.1) (hk : (ax_K s o).1 = 21) (hg : 0 ≤ ax_w i ∧ ax_w i < ((ax_K s o).2 : Nat)) (hd : decode (ax_yb mi) pc = .ok (.castore, 1)) (k : ax_W p l e R s0 mm args below meth c Q D cy A nE sE ad (pc + 1, ls, r, ax_pI s o (ax_w i).toNat (ax_i2c x))) : ax_W p l e R s0 mm args below meth c Q D cy A nE sE ad (pc, ls, .inl x :: .inl i :: .inr (.inr (some o)) :: r, s) := by
  obtain ⟨hx, hb, hml, hown, hts, hK, hA, hM, hin, hG, hR1, hR2⟩ := X
  intro H locs arr hl hP hD hS
  refine va_cast hx hb hK hP hD hS o 1 (by rw [ax_wd_get ho, ax_e_int hk (by decide)]) rfl (ax_i_in hg) hd (fun H1 locs1 hP1 hD1 hS1 => ?_)
  rw [ax_nar_c] at hP1 hD1
  rw [ax_i_cl, ax_wd_set (s' := ax_pI s o (ax_w i).toNat (ax_i2c x)) ho rfl ?_ (fun j _ hj => ax_e_congr rfl (ax_u_ne hj) rfl rfl)] at hP1 hD1
  · exact k H1 locs1 arr hl hP1 hD1 hS1
  all_goals
    rw [ax_e_int (s := ax_pI s o (ax_w i).toNat (ax_i2c x)) hk (by decide)]
    refine congrArg (fun z => Sum.inl (cy 21, (ax_K s o).2, Sum.inl z)) (funext fun j => ?_)
    show Int32.ofInt (ax_u (ax_I s) o (ax_w i).toNat _ o j) = upd _ _ _ j
    rw [ax_u_eq]
    unfold upd
    split <;> rfl
theorem ax_s_bastore (X : ax_cx p R s0 mm args meth c D cy A sa sv mi M) {i x : Int} {o : Nat} (ho : o < s.1) (hk : (ax_K s o).1 = 22) (hg : 0 ≤ ax_w i ∧ ax_w i < ((ax_K s o).2 : Nat)) (hd : decode (ax_yb mi) pc = .ok (.bastore, 1)) (k : ax_W p l e R s0 mm args below meth c Q D cy A nE sE ad (pc + 1, ls, r, ax_pI s o (ax_w i).toNat (ax_i2b x))) : ax_W p l e R s0 mm args below meth c Q D cy A nE sE ad (pc, ls, .inl x :: .inl i :: .inr (.inr (some o)) :: r, s) := by
  obtain ⟨hx, hb, hml, hown, hts, hK, hA, hM, hin, hG, hR1, hR2⟩ := X
  intro H locs arr hl hP hD hS
  refine va_bast hx hb hK hP hD hS o 2 (by rw [ax_wd_get ho, ax_e_int hk (by decide)]) rfl (ax_i_in hg) hd (fun H1 locs1 hP1 hD1 hS1 => ?_)
  rw [ax_nar_b] at hP1 hD1
  rw [ax_i_cl, ax_wd_set (s' := ax_pI s o (ax_w i).toNat (ax_i2b x)) ho rfl ?_ (fun j _ hj => ax_e_congr rfl (ax_u_ne hj) rfl rfl)] at hP1 hD1
  · exact k H1 locs1 arr hl hP1 hD1 hS1
  all_goals
    rw [ax_e_int (s := ax_pI s o (ax_w i).toNat (ax_i2b x)) hk (by decide)]
    refine congrArg (fun z => Sum.inl (cy 22, (ax_K s o).2, Sum.inl z)) (funext fun j => ?_)
    show Int32.ofInt (ax_u (ax_I s) o (ax_w i).toNat _ o j) = upd _ _ _ j
    rw [ax_u_eq]
    unfold upd
    split <;> rfl
theorem ax_s_lastore (X : ax_cx p R s0 mm args meth c D cy A sa sv mi M) {i x : Int} {o : Nat} (ho : o < s.1) (hk : (ax_K s o).1 = 23) (hg : 0 ≤ ax_w i ∧ ax_w i < ((ax_K s o).2 : Nat)) (hd : decode (ax_yb mi) pc = .ok (.lastore, 1)) (k : ax_W p l e R s0 mm args below meth c Q D cy A nE sE ad (pc + 1, ls, r, ax_pJ s o (ax_w i).toNat x)) : ax_W p l e R s0 mm args below meth c Q D cy A nE sE ad (pc, ls, .inr (.inl x) :: .inl i :: .inr (.inr (some o)) :: r, s) := by
  obtain ⟨hx, hb, hml, hown, hts, hK, hA, hM, hin, hG, hR1, hR2⟩ := X
  intro H locs arr hl hP hD hS
  refine va_last hx hb hK hP hD hS o 3 (by rw [ax_wd_get ho, ax_e_long hk]) rfl (ax_i_in hg) hd (fun H1 locs1 hP1 hD1 hS1 => ?_)
  rw [ax_i_cl, ax_wd_set (s' := ax_pJ s o (ax_w i).toNat x) ho rfl ?_ (fun j _ hj => ax_e_congr rfl rfl (ax_u_ne hj) rfl)] at hP1 hD1
  · exact k H1 locs1 arr hl hP1 hD1 hS1
  all_goals
    rw [ax_e_long (s := ax_pJ s o (ax_w i).toNat x) hk]
    refine congrArg (fun z => Sum.inl (cy 23, (ax_K s o).2, Sum.inr (Sum.inl z))) (funext fun j => ?_)
    show Int64.ofInt (ax_u (ax_J s) o (ax_w i).toNat _ o j) = vp_updL _ _ _ j
    rw [ax_u_eq]
    unfold vp_updL
    split <;> rfl
theorem ax_s_alen (X : ax_cx p R s0 mm args meth c D cy A sa sv mi M) {o : Nat} (ho : o < s.1) (hk : 20 ≤ (ax_K s o).1 ∧ (ax_K s o).1 ≤ 24) (hd : decode (ax_yb mi) pc = .ok (.arraylength, 1)) (k : ax_W p l e R s0 mm args below meth c Q D cy A nE sE ad (pc + 1, ls, .inl ((ax_K s o).2 : Nat) :: r, s)) : ax_W p l e R s0 mm args below meth c Q D cy A nE sE ad (pc, ls, .inr (.inr (some o)) :: r, s) := by
  obtain ⟨hx, hb, hml, hown, hts, hK, hA, hM, hin, hG, hR1, hR2⟩ := X
  intro H locs arr hl hP hD hS
  have h := k H locs arr hl hP hD hS
  have ev : Int32.ofNat (ax_K s o).2 = Int32.ofInt ((ax_K s o).2 : Nat) := by first | rfl | exact (Int32.ofInt_eq_ofNat).symm
  rcases (show (ax_K s o).1 = 20 ∨ (ax_K s o).1 = 21 ∨ (ax_K s o).1 = 22 ∨ (ax_K s o).1 = 23 ∨ (ax_K s o).1 = 24 by omega) with q | q | q | q | q
  · exact va_alen hx hb hK hP o 0 (by rw [ax_wd_get ho, ax_e_int q (by decide)]) rfl ev hd h
  · exact va_alen hx hb hK hP o 1 (by rw [ax_wd_get ho, ax_e_int q (by decide)]) rfl ev hd h
  · exact va_alen hx hb hK hP o 2 (by rw [ax_wd_get ho, ax_e_int q (by decide)]) rfl ev hd h
  · exact va_alen hx hb hK hP o 3 (by rw [ax_wd_get ho, ax_e_long q]) rfl ev hd h
  · exact va_alen hx hb hK hP o 4 (by rw [ax_wd_get ho, ax_e_ref q]) rfl ev hd h
theorem ax_s_obj (X : ax_cx p R s0 mm args meth c D cy A sa sv mi M) {i o : Nat} {nest : Bool} (hm : ax_mr M.1 i = some (9000, nest)) (hn : nest = false) (hc : ax_cats r ≤ 8) (hd : decode (ax_yb mi) pc = .ok (.invokespecial i, 3)) (k : ax_W p l e R s0 mm args below meth c Q D cy A nE sE ad (pc + 3, ls, r, s)) : ax_W p l e R s0 mm args below meth c Q D cy A nE sE ad (pc, ls, .inr (.inr (some o)) :: r, s) := by
  obtain ⟨hx, hb, hml, hown, hts, hK, hA, hM, hin, hG, hR1, hR2⟩ := X
  intro H locs arr hl hP hD hS
  have h1 := (ax_mr_ok hm).1 hn
  refine W.objInit (a := ad o) (rest := r.map (ax_z ad)) hx hb hown (hts _ h1) (hts _ ax_objw.1) (hts _ ax_objw.2) rfl ?_ rfl hd (Nat.le_trans (by decide) hR1) ?_ (k H locs arr hl hP hD hS)
  · exact hl.1.1
  · have h8 := lv_room (m := mm) (pc := pc) (ls := arr) (rest := (r.map (ax_z ad))) (st := r.map (ax_z ad)) (by rw [ax_zcats]; exact hc)
    have h9 : 2 * (F0 mm pc arr (Value.ref (ad o) :: r.map (ax_z ad))).monitorRoom + ((r.map (ax_z ad)).map fun v => v.category).sum ≤ 8 := h8
    show 2 * (F0 mm pc arr (Value.ref (ad o) :: r.map (ax_z ad))).monitorRoom + ((r.map (ax_z ad)).map fun v => v.category).sum + 12 ≤ R.locals
    omega
theorem ax_s_cpy (X : ax_cx p R s0 mm args meth c D cy A sa sv mi M) {i a0 a1 : Nat} {sp dp n : Int} {nest : Bool} (hm : ax_mr M.1 i = some (9001, nest)) (hn : nest = false) (h0 : a0 < s.1) (k0 : (ax_K s a0).1 = 20) (h1 : a1 < s.1) (k1 : (ax_K s a1).1 = 20) (hc : ax_cats r ≤ 8) (hg : 0 ≤ ax_w sp ∧ 0 ≤ ax_w dp ∧ 0 ≤ ax_w n ∧ ax_w sp + ax_w n ≤ ((ax_K s a0).2 : Nat) ∧ ax_w dp + ax_w n ≤ ((ax_K s a1).2 : Nat)) (hd : decode (ax_yb mi) pc = .ok (.invokestatic i, 3))
    (k : ax_W p l e R s0 mm args below meth c Q D cy A nE sE ad (pc + 3, ls, r, (s.1, s.2.1, s.2.2.1, ax_cpy s.2.2.2.1 a0 (ax_w sp).toNat a1 (ax_w dp).toNat (ax_w n).toNat, s.2.2.2.2.1, s.2.2.2.2.2))) : ax_W p l e R s0 mm args below meth c Q D cy A nE sE ad (pc, ls, .inl n :: .inl dp :: .inr (.inr (some a1)) :: .inl sp :: .inr (.inr (some a0)) :: r, s) := by
  obtain ⟨hx, hb, hml, hown, hts, hK, hA, hM, hin, hG, hR1, hR2⟩ := X
  intro H locs arr hl hP hD hS
  obtain ⟨g1, g2, g3, g4, g5⟩ := hg
  have hw := (ax_mr_ok hm).1 hn
  refine va_copyi (ty := .int) hx hb (by rw [hl.1.1]) hown (hts _ hw) (hts _ ax_cpyw.1) (hts _ ax_cpyw.2.1) (hts _ ax_cpyw.2.2) hK hP hD hS a0 a1 0 0 (by rw [ax_wd_get h0, ax_e_int k0 (by decide)]) (by rw [ax_wd_get h1, ax_e_int k1 (by decide)]) rfl rfl rfl (ax_i_neg.mpr g1) (ax_i_neg.mpr g2) (ax_i_neg.mpr g3) (by rw [ax_i_cl, ax_i_cl]; omega) (by rw [ax_i_cl, ax_i_cl]; omega) (fun _ _ => rfl) (by omega) ?_ hd (fun H1 locs1 hP1 hD1 hS1 => ?_)
  · have h8 : ((r.map (ax_z ad)).map fun v => v.category).sum ≤ 8 := by rw [ax_zcats]; exact hc
    have h9 : nativeFrameWords "java/lang/System" "arraycopy" 5 + 11 ≤ 56 := by decide +kernel
    show ((r.map (ax_z ad)).map fun v => v.category).sum + _ ≤ R.locals
    omega
  · rw [ax_i_cl, ax_i_cl, ax_i_cl, ax_wd_set (s' := (s.1, s.2.1, s.2.2.1, ax_cpy s.2.2.2.1 a0 (ax_w sp).toNat a1 (ax_w dp).toNat (ax_w n).toNat, s.2.2.2.2.1, s.2.2.2.2.2)) h1 rfl ?_ (fun j _ hj => ax_e_congr rfl ?_ rfl rfl)] at hP1 hD1
    · exact k H1 locs1 arr hl hP1 hD1 hS1
    all_goals first
      | (funext b; show ax_cpy _ _ _ _ _ _ j b = _; unfold ax_cpy; rw [if_neg (fun q => hj q.1)]; rfl)
      | (rw [ax_e_int (s := (s.1, s.2.1, s.2.2.1, ax_cpy s.2.2.2.1 a0 (ax_w sp).toNat a1 (ax_w dp).toNat (ax_w n).toNat, s.2.2.2.2.1, s.2.2.2.2.2)) k1 (by decide)]
         refine congrArg (fun z => Sum.inl (cy 20, (ax_K s a1).2, Sum.inl z)) (funext fun j => ?_)
         show Int32.ofInt (ax_cpy _ _ _ _ _ _ a1 j) = va_cpy _ _ _ _ _ j
         unfold ax_cpy va_cpy
         by_cases q : (ax_w dp).toNat ≤ j ∧ j < (ax_w dp).toNat + (ax_w n).toNat
         · rw [if_pos q, if_pos ⟨rfl, q.1, q.2⟩]; rfl
         · rw [if_neg q, if_neg (fun z => q z.2)]; rfl)
end AXH
