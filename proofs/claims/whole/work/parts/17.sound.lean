/-! THE RUN OF A METHOD, AND SOUNDNESS -/
theorem ax_rk1 {r : Option FieldType} (h : ax_rk 1 r = true) : r = some .int := by
  cases r with
  | none => first | rfl | cases h
  | some t => cases t <;> first | rfl | cases h
theorem ax_rk3 {r : Option FieldType} (h : ax_rk 3 r = true) : r = some .boolean := by
  cases r with
  | none => first | rfl | cases h
  | some t => cases t <;> first | rfl | cases h
theorem ax_rk2 {r : Option FieldType} (h : ax_rk 2 r = true) : r = some .long := by
  cases r with
  | none => first | rfl | cases h
  | some t => cases t <;> first | rfl | cases h
theorem ax_rk0 {r : Option FieldType} (h : ax_rk 0 r = true) : r = none := by
  cases r with
  | none => first | rfl | cases h
  | some t => cases t <;> first | rfl | cases h
theorem ax_i_inv {own rt : Nat} {ini : Bool} {pc : Nat} {i : Instr} {ls : ax_L} {st : List ax_v} {s : ax_S} {g : Prop} {m : Nat} {as : List ax_v} {z : ax_Z} (h : ax_i own rt ini pc i ls st s = some (g, .inr (.inr (m, as, z)))) :
    ∃ kd x, ((kd = 0 ∧ i = .invokevirtual x) ∨ (kd = 1 ∧ i = .invokespecial x) ∨ (kd = 2 ∧ i = .invokestatic x)) ∧ ax_inv own kd x pc ls st s = some (g, .inr (.inr (m, as, z))) := by
  cases i with
  | invokevirtual x => exact ⟨0, x, Or.inl ⟨rfl, rfl⟩, h⟩
  | invokespecial x => exact ⟨1, x, Or.inr (Or.inl ⟨rfl, rfl⟩), h⟩
  | invokestatic x => exact ⟨2, x, Or.inr (Or.inr ⟨rfl, rfl⟩), h⟩
  | _ =>
    exfalso
    simp only [ax_i, ax_go, ax_gg, ax_ldi, ax_ldl, ax_lda, ax_sti, ax_stl, ax_sta, ax_inc, ax_2, ax_2l, ax_d2, ax_d2l, ax_1, ax_al, ax_as, ax_asl, ax_len, ax_gf, ax_ptf, ax_new, ax_nwa, ax_nwm, cond] at h
    first
      | (cases h; done)
      | (repeat' split at h
         all_goals cases h)
theorem ax_inv_ok {own kd k pc : Nat} {ls : ax_L} {st : List ax_v} {s : ax_S} {g : Prop} {m : Nat} {as : List ax_v} {pc' : Nat} {ls' : ax_L} {st' : List ax_v} {s1 : ax_S} (h : ax_inv own kd k pc ls st s = some (g, .inr (.inr (m, as, pc', ls', st', s1)))) :
    ∃ nest Mc, ax_mr own k = some (m, nest) ∧ ax_T[m]? = some Mc ∧ st = as.reverse ++ st' ∧ as.length = Mc.2.1 ∧ ax_cats st' ≤ 8 ∧ (kd = 1 → ax_vl s.1 ls' = true ∧ ax_vs s.1 st' = true) ∧ (True ∧ (kd = 2 → Mc.2.2.2.2.2.1 = true) ∧ (kd < 2 → ∃ o as', as = .inr (.inr (some o)) :: as' ∧ Mc.2.2.2.2.2.1 = false ∧ o < s.1 ∧ (ax_K s o).1 = Mc.1 ∧ ((kd = 0 → Mc.2.2.2.2.1 = false) ∧ (kd = 1 → Mc.2.2.2.2.1 = true)))) ∧ pc' = pc + 3 ∧ ls' = ls ∧ s1 = s := by
  unfold ax_inv at h
  split at h
  · cases h
  · rename_i m0 nest hm
    split at h
    · split at h
      · obtain ⟨-, h⟩ := ax_cnd h
        cases h
      · cases h
    · obtain ⟨-, h⟩ := ax_cnd h
      unfold ax_acp at h
      split at h
      · obtain ⟨-, h⟩ := ax_cnd h
        cases h
      · cases h
    · obtain ⟨-, h⟩ := ax_cnd h
      unfold ax_sln at h
      split at h
      · obtain ⟨-, h⟩ := ax_cnd h
        cases h
      · cases h
    · obtain ⟨-, h⟩ := ax_cnd h
      unfold ax_sch at h
      split at h
      · obtain ⟨-, h⟩ := ax_cnd h
        cases h
      · cases h
    · split at h
      · cases h
      · rename_i Mc hMc
        obtain ⟨hb, h⟩ := ax_cnd h
        simp only [Bool.and_eq_true, Nat.ble_eq] at hb
        have htd : st = (st.take Mc.2.1).reverse.reverse ++ st.drop Mc.2.1 := by rw [List.reverse_reverse, List.take_append_drop]
        have hlen : (st.take Mc.2.1).reverse.length = Mc.2.1 := by simp [hb.1.1]
        have hiv : kd = 1 → ax_vl s.1 ls = true ∧ ax_vs s.1 (st.drop Mc.2.1) = true := by
          intro q
          have h2 := hb.2
          rw [q] at h2
          exact (Bool.and_eq_true _ _).mp h2
        split at h
        · obtain ⟨hs, h⟩ := ax_cnd h
          cases h
          exact ⟨nest, Mc, hm, hMc, htd, hlen, hb.1.2, hiv, ⟨trivial, fun _ => hs, fun q => by omega⟩, rfl, rfl, rfl⟩
        · rename_i hk2
          cases hst : Mc.2.2.2.2.2.1 with
          | true => rw [hst] at h; cases h
          | false =>
            rw [hst] at h
            dsimp only [cond] at h
            split at h
            · rename_i o as' ho
              obtain ⟨hq, h⟩ := ax_cnd h
              cases h
              simp only [Bool.and_eq_true, Nat.blt_eq, Nat.beq_eq] at hq
              rw [ho] at htd hlen
              refine ⟨nest, Mc, hm, hMc, htd, hlen, hb.1.2, hiv, ⟨trivial, fun q => absurd q hk2, fun _ => ⟨o, as', rfl, hst, hq.1.1, hq.1.2, fun q => ?_, fun q => ?_⟩⟩, rfl, rfl, rfl⟩
              · have h2 := hq.2
                rw [q] at h2
                cases hh : Mc.2.2.2.2.1 with
                | true => rw [hh] at h2; cases h2
                | false => rfl
              · have h2 := hq.2
                rw [q] at h2
                cases hh : Mc.2.2.2.2.1 with
                | true => rfl
                | false => rw [hh] at h2; cases h2
            · cases h
set_option maxHeartbeats 4000000 in
theorem ax_i_rv {own rt : Nat} {ini : Bool} {pc : Nat} {i : Instr} {ls : ax_L} {st : List ax_v} {s : ax_S} {g : Prop} {v : Option ax_v} {s1 : ax_S} (h : ax_i own rt ini pc i ls st s = some (g, .inr (.inl (v, s1)))) : v = none ∨ (∃ x, v = some (.inl x)) ∨ ∃ x, v = some (.inr (.inl x)) := by
  cases i <;> simp only [ax_i, ax_go, ax_gg, ax_ldi, ax_ldl, ax_lda, ax_sti, ax_stl, ax_sta, ax_inc, ax_2, ax_2l, ax_d2, ax_d2l, ax_1, ax_al, ax_as, ax_asl, ax_len, ax_gf, ax_ptf, ax_acp, ax_sln, ax_sch, ax_inv, ax_new, ax_nwa, ax_nwm, cond] at h
  all_goals first
    | (cases h; done)
    | (repeat' split at h
       all_goals first
         | (cases h; done)
         | (cases h; exact Or.inl rfl)
         | (cases h; exact Or.inr (Or.inl ⟨_, rfl⟩))
         | (cases h; exact Or.inr (Or.inr ⟨_, rfl⟩))
         | skip)
    | skip
/-! only constructors make cells; answers are numbers -/
def ax_mk1 (i : Instr) : Bool := match i with
  | .new _ => false
  | .newarray _ => false
  | .multianewarray _ _ => false
  | .invokespecial _ => false
  | _ => true
theorem ax_ok11 : ax_T.all (fun M => M.2.2.2.2.1 || M.2.2.2.2.2.2.all (fun q => ax_mk1 q.2)) = true := by decide +kernel
theorem ax_ok12 : ax_T.all (fun M => !M.2.2.2.2.2.1 || !M.2.2.2.2.1) = true := by decide +kernel
theorem ax_stat_ini {m : Nat} {M : ax_M} (h : ax_T[m]? = some M) (hs : M.2.2.2.2.2.1 = true) : M.2.2.2.2.1 = false := by
  have h1 := List.all_eq_true.mp ax_ok12 M (List.mem_of_getElem? h)
  rw [hs] at h1
  simpa using h1
set_option maxHeartbeats 4000000 in
theorem ax_i_n {own rt : Nat} {ini : Bool} {pc : Nat} {i : Instr} {ls : ax_L} {st : List ax_v} {s : ax_S} {g : Prop} {z : ax_Z} (hk : ax_mk1 i = true) (h : ax_i own rt ini pc i ls st s = some (g, .inl z)) : z.2.2.2.1 = s.1 := by
  cases i <;> first | (cases hk; done) | skip
  all_goals simp only [ax_i, ax_go, ax_gg, ax_ldi, ax_ldl, ax_lda, ax_sti, ax_stl, ax_sta, ax_inc, ax_2, ax_2l, ax_d2, ax_d2l, ax_1, ax_al, ax_as, ax_asl, ax_len, ax_gf, ax_ptf, ax_acp, ax_sln, ax_sch, ax_inv, cond] at h
  all_goals first
    | (cases h; done)
    | (cases h; rfl)
    | (repeat' split at h
       all_goals first
         | (cases h; done)
         | (cases h; rfl)
         | (rename_i q; cases h; exact (ax_pf_n q).1)
         | skip)
    | skip
theorem ax_C_n : ∀ (d m : Nat) (as : List ax_v) (s : ax_S) (v : Option ax_v) (s' : ax_S) (M : ax_M), ax_T[m]? = some M → M.2.2.2.2.1 = false → ax_C d m as s v s' → s'.1 = s.1 := by
  intro d
  induction d with
  | zero => intro m as s v s' M _ _ h; cases h
  | succ d IH =>
    intro m as s v s' M hM hi h
    obtain ⟨M', hM', -, n, hok⟩ := h
    cases hM.symm.trans hM'
    have hall : ∀ q ∈ M.2.2.2.2.2.2, ax_mk1 q.2 = true := by
      have h1 := List.all_eq_true.mp ax_ok11 M (List.mem_of_getElem? hM)
      rw [hi] at h1
      simp only [Bool.false_or] at h1
      exact List.all_eq_true.mp h1
    have key : ∀ (n : Nat) (z : ax_Z), ax_ok (ax_C d) M n z v s' → s'.1 = z.2.2.2.1 := by
      intro n
      induction n with
      | zero => intro z h; cases h
      | succ n ih =>
        intro z h
        unfold ax_ok at h
        split at h
        · cases h
        · rename_i g z' hp
          unfold ax_p at hp
          split at hp
          · cases hp
          · rename_i i hl
            rw [ih z' h.2, ax_i_n (hall _ (ax_lk hl)) hp]
        · rename_i g v1 s1 hp
          obtain ⟨-, -, rfl⟩ := h
          unfold ax_p at hp
          split at hp
          · cases hp
          · rw [ax_i_ret hp]
        · rename_i g m' as' pc ls st s1 hp
          obtain ⟨-, v1, s2, hC, hok⟩ := h
          unfold ax_p at hp
          split at hp
          · cases hp
          · rename_i i hl
            have hmk := hall _ (ax_lk hl)
            have e := ax_i_call hp
            obtain ⟨kd, x, hkd, hinv⟩ := ax_i_inv hp
            obtain ⟨nest, Mc, h1, h2, h3, h4, h5, h6, h7, -⟩ := ax_inv_ok hinv
            have hini : Mc.2.2.2.2.1 = false := by
              rcases hkd with ⟨rfl, -⟩ | ⟨-, rfl⟩ | ⟨rfl, -⟩
              · obtain ⟨o, as'', q1, q2, q3, q4, q5⟩ := h7.2.2 (by decide)
                exact q5.1 rfl
              · cases hmk
              · exact ax_stat_ini h2 (h7.2.1 rfl)
            have h8 := ih _ hok
            dsimp only at h8 e
            rw [h8, IH m' as' s1 v1 s2 Mc h2 hini hC, e]
    exact key n _ hok
theorem ax_C_v {d m : Nat} {as : List ax_v} {s : ax_S} {v : Option ax_v} {s' : ax_S} (h : ax_C d m as s v s') {ad : Nat → Nat} : ∀ ad', v.toList.map (ax_z ad') = v.toList.map (ax_z ad) := by
  cases d with
  | zero => cases h
  | succ d =>
    obtain ⟨M, -, -, n, hok⟩ := h
    have key : ∀ (n : Nat) (z : ax_Z), ax_ok (ax_C d) M n z v s' → ∀ ad', v.toList.map (ax_z ad') = v.toList.map (ax_z ad) := by
      intro n
      induction n with
      | zero => intro z h; cases h
      | succ n ih =>
        intro z h
        unfold ax_ok at h
        split at h
        · cases h
        · exact ih _ h.2
        · rename_i g v1 s1 hp
          obtain ⟨-, rfl, -⟩ := h
          unfold ax_p at hp
          split at hp
          · cases hp
          · intro ad'
            rcases ax_i_rv hp with rfl | ⟨x, rfl⟩ | ⟨x, rfl⟩ <;> rfl
        · obtain ⟨-, v1, s2, -, hok⟩ := h
          exact ih _ hok
    exact key n _ hok
section AXU
variable {p : Program} {l : Launch} {e : Env} {R : Room} {s0 : State} {mm : MethodId} {args : Array Value} {below : List Frame} {meth : Method} {c : Code} {D : va_G} {cy : Nat → ClassId} {A : Nat → Prop} {sa sv : Nat → Nat} {mi : Nat} {M : ax_M} {ad adE : Nat → Nat}
/-- an answer -/
theorem ax_s_ret {z : ax_Z} {g : Prop} {v : Option ax_v} {sB s' : ax_S} (X : ax_cx p R s0 mm args meth c D cy A sa sv mi M) (hA : A = va_A (ax_wd cy sB adE) s0.heap.size) (hr : meth.sig.returnType = ax_yr mi) (hlk : meth.locks = false) (hp : ax_p M z = some (g, .inr (.inl (v, s')))) (hg : g) (hag : ∀ i, i < sB.1 ∨ 1000000 ≤ i → ad i = adE i) :
    ax_W p l e R s0 mm args below meth c (MQ below (ax_Qc D cy adE sB s' s0.heap.size v) args s0 (s'.1 - sB.1) (s'.2.1 - sB.2.1) A) D cy A sB.1 sB.2.1 ad z := by
  obtain ⟨pc, ls, st, s⟩ := z
  unfold ax_p at hp
  dsimp only at hp
  obtain ⟨hx, hb, hml, hown, hts, hK, hA0, hM, hin, hG, hR1, hR2⟩ := X
  cases hi : M.2.2.2.2.2.2.lookup pc with
  | none => rw [hi] at hp; cases hp
  | some i =>
    rw [hi] at hp
    dsimp only at hp
    obtain ⟨n, hd, hn, ho⟩ := ax_code_at hM hi
    have hs : s' = s := ax_i_ret hp
    subst hs
    intro H locs arr hl hP hD hS
    have hB : ∀ t : State, t.heap = H → s0.WarmedH t.vm → ax_B D cy adE sB s' s0.heap.size ad t := fun t ht hW =>
      ⟨hag, by rw [ht]; exact hP, va_K.moved hW.alike hK, by rw [← hA]; exact hD⟩
    have hFt : ∀ t : State, t.heap = H → va_F (va_A (ax_wd cy sB adE) s0.heap.size) s0 t := fun t ht => by rw [← hA]; exact hS.F ht
    have hrk := (ax_fact hM).2.2.2.2.1
    cases i with
    | ireturn =>
      cases hn rfl
      simp only [ax_i] at hp
      split at hp
      · split at hp
        · rename_i h1
          cases hp
          rw [h1] at hrk
          have hty : ax_yr mi = some .int := ax_rk1 hrk
          rw [hty] at hr
          exact W.iret hx hb hr (fun t ht hW => ⟨⟨_, ad, rfl, rfl, hB t ht hW⟩, hFt t ht⟩) hS.2.2 hd hlk
        · rename_i h1
          cases hp
          rw [h1] at hrk
          have hty : ax_yr mi = some .boolean := ax_rk3 hrk
          rw [hty] at hr
          refine W.zret hx hb hr ?_ (fun t ht hW => ⟨⟨_, ad, rfl, rfl, hB t ht hW⟩, hFt t ht⟩) hS.2.2 hd hlk
          rcases hg with rfl | rfl
          · exact (by decide +kernel : narrow FieldType.boolean (Value.int (Int32.ofInt 0)) = Value.int (Int32.ofInt 0))
          · exact (by decide +kernel : narrow FieldType.boolean (Value.int (Int32.ofInt 1)) = Value.int (Int32.ofInt 1))
        · cases hp
      · cases hp
    | lreturn =>
      cases hn rfl
      simp only [ax_i] at hp
      split at hp
      · obtain ⟨h1, hp⟩ := ax_cnd hp
        cases hp
        rw [Nat.beq_eq.mp h1] at hrk
        have hty : ax_yr mi = some .long := ax_rk2 hrk
        rw [hty] at hr
        exact W.lret hx hb hr (fun t ht hW => ⟨⟨_, ad, rfl, rfl, hB t ht hW⟩, hFt t ht⟩) hS.2.2 hd hlk
      · cases hp
    | return_ =>
      cases hn rfl
      simp only [ax_i] at hp
      split at hp
      · obtain ⟨h1, hp⟩ := ax_cnd hp
        cases hp
        rw [Nat.beq_eq.mp h1] at hrk
        have hty : ax_yr mi = none := ax_rk0 hrk
        rw [hty] at hr
        exact W.vret hx hb hr (fun t ht hW => ⟨⟨ad, rfl, trivial, hB t ht hW⟩, hFt t ht⟩) hS.2.2 hd hlk
      · cases hp
    | _ =>
      exfalso
      simp only [ax_i, ax_go, ax_gg, ax_ldi, ax_ldl, ax_lda, ax_sti, ax_stl, ax_sta, ax_inc, ax_2, ax_2l, ax_d2, ax_d2l, ax_1, ax_al, ax_as, ax_asl, ax_len, ax_gf, ax_ptf, ax_acp, ax_sln, ax_sch, ax_inv, ax_new, ax_nwa, ax_nwm, cond] at hp
      first
        | (cases hp; done)
        | (repeat' split at hp
           all_goals cases hp)
/-- the whole run of a method -/
theorem ax_run {d : Nat} {sB : ax_S} {v : Option ax_v} {s' : ax_S} (X : ax_cx p R s0 mm args meth c D cy A sa sv mi M) (hA : A = va_A (ax_wd cy sB adE) s0.heap.size) (hr : meth.sig.returnType = ax_yr mi) (hlk : meth.locks = false) (hsaE : ∀ j, adE (1000000 + j) = sa j) (IH : ax_SC d) (hRf : d + 9 ≤ R.frames) (hRl : 64 * (d + 1) + 512 ≤ R.locals) (hRc : R.cells = s'.1 - sB.1) (hRs : R.slots = s'.2.1 - sB.2.1) :
    ∀ (n : Nat) (z : ax_Z) (ad : Nat → Nat), ax_ok (ax_C d) M n z v s' → (∀ i, i < sB.1 ∨ 1000000 ≤ i → ad i = adE i) → ax_le sB z.2.2.2 → ax_wf sB →
      ax_W p l e R s0 mm args below meth c (MQ below (ax_Qc D cy adE sB s' s0.heap.size v) args s0 (s'.1 - sB.1) (s'.2.1 - sB.2.1) A) D cy A sB.1 sB.2.1 ad z := by
  intro n
  induction n with
  | zero => intro z ad h; cases h
  | succ n ih =>
    intro z ad h hag hle hw
    have hsa : ∀ j, ad (1000000 + j) = sa j := fun j => by rw [hag _ (Or.inr (by omega)), hsaE]
    have hlt := ax_ok_le (ax_C_le d) (n + 1) z v s' h
    unfold ax_ok at h
    split at h
    · cases h
    · rename_i g z' hp
      have hl1 := ax_ok_le (ax_C_le d) n z' v s' h.2
      have hz : ax_le z.2.2.2 z'.2.2.2 := by
        have hp := hp
        unfold ax_p at hp
        split at hp
        · cases hp
        · exact ax_i_le2 hp
      refine ax_step X hsa hp h.1 (hle.2.2 hw) hle.1 hle.2.1 (by rw [hRc]; have := hl1.1; omega) (by rw [hRs]; have := hl1.2.1; omega) (fun ad' ha => ?_)
      refine ih z' ad' h.2 (fun i hi => ?_) (hle.tr hz) hw
      rw [ha i (by rcases hi with q | q; (· left; exact Nat.lt_of_lt_of_le q hle.1); (· right; exact q)), hag i hi]
    · rename_i g v1 s1 hp
      obtain ⟨hg, rfl, rfl⟩ := h
      exact ax_s_ret X hA hr hlk hp hg hag
    · rename_i g m as pc' ls' st' s1 hp
      obtain ⟨hg, v1, s2, hC, hok⟩ := h
      have hl2 := ax_ok_le (ax_C_le d) n _ v s' hok
      have hl1 := ax_C_le d m as s1 v1 s2 hC
      obtain ⟨pc, ls, st, s⟩ := z
      have hM : ax_T[mi]? = some M := X.2.2.2.2.2.2.2.1
      unfold ax_p at hp
      dsimp only at hp
      cases hi : M.2.2.2.2.2.2.lookup pc with
      | none => rw [hi] at hp; cases hp
      | some i =>
        rw [hi] at hp
        dsimp only at hp
        obtain ⟨n', hd, hn, ho⟩ := ax_code_at hM hi
        have hc := ax_i_inv hp
        obtain ⟨kd, x, hkd, hinv⟩ := hc
        obtain ⟨nest, Mc, h1, h2, h3, h4, h5, h6, h7, h8, h9, h10⟩ := ax_inv_ok hinv
        subst h8
        subst h9
        subst h10
        have hdd : n' = 3 := by
          rcases hkd with ⟨-, rfl⟩ | ⟨-, rfl⟩ | ⟨-, rfl⟩ <;> exact hn rfl
        subst hdd
        have hv : (ax_vl s1.1 ls' = true ∧ ax_vs s1.1 st' = true) ∨ s2.1 = s1.1 := by
          rcases hkd with ⟨rfl, -⟩ | ⟨rfl, -⟩ | ⟨rfl, -⟩
          · right
            obtain ⟨o, as', q1, q2, q3, q4, q5⟩ := h7.2.2 (by decide)
            exact ax_C_n d m as s1 v1 s2 Mc h2 (q5.1 rfl) hC
          · left; exact h6 rfl
          · right
            have hsta := h7.2.1 rfl
            exact ax_C_n d m as s1 v1 s2 Mc h2 (ax_stat_ini h2 hsta) hC
        refine ax_s_call X hsa IH hRf hRl h1 h2 h3 h4 h5 hv (ax_C_v hC) (hle.2.2 hw) hle.1 hle.2.1 hC (by rw [hRc]; have := hl2.1; dsimp only at this; omega) (by rw [hRs]; have := hl2.2.1; dsimp only at this; omega) ?_ (fun ad' ha => ?_)
        · rcases hkd with ⟨rfl, rfl⟩ | ⟨rfl, rfl⟩ | ⟨rfl, rfl⟩
          · obtain ⟨o, as', q1, q2, q3, q4, q5⟩ := h7.2.2 (by decide)
            exact Or.inr ⟨o, as', q1, q2, q3, q4, Or.inl ⟨hd, q5.1 rfl⟩⟩
          · obtain ⟨o, as', q1, q2, q3, q4, q5⟩ := h7.2.2 (by decide)
            exact Or.inr ⟨o, as', q1, q2, q3, q4, Or.inr ⟨hd, q5.2 rfl⟩⟩
          · exact Or.inl ⟨hd, h7.2.1 rfl⟩
        · refine ih _ ad' hok (fun i hi => ?_) (hle.tr hl1) hw
          rw [ha i (by rcases hi with q | q; (· left; exact Nat.lt_of_lt_of_le q hle.1); (· right; exact q)), hag i hi]
end AXU
/-- SOUNDNESS: what the abstract machine comes to, the machine comes to -/
theorem ax_sound : ∀ d, ax_SC d := by
  intro d
  induction d with
  | zero => intro m as s v s' h; cases h
  | succ d IH =>
    intro m as s v s' h l D cy sa sv ad sz hw hsa
    obtain ⟨M, hM, hent, n, hok⟩ := h
    obtain ⟨a1, a2, a3, a4, a5, a6, a7, a8, a9, a10, a11⟩ := ax_fact hM
    have hml0 : ax_ml m = M.2.2.1 := by unfold ax_ml; rw [hM]
    refine ax_ofW (cc := ax_yb m) (maxL := M.2.2.1) (ret := ax_yr m) a1 (by unfold ax_cdw; rw [hml0]) ?_
    intro p e s0 mm args below meth c s₁ B hml hv
    obtain ⟨rfl, hsz, hP, hK, hD, hG⟩ := hv
    subst hsz
    have hts0 := atoms_spec (ws := ax_cdw m :: ax_tb) B.pre
    have hA : ∀ q, s0.heap.size ≤ q → va_A (ax_wd cy s ad) s0.heap.size q := fun q h => Or.inr h
    have X : ax_cx p (headSpec (ax_cdw m :: ax_tb) (ax_rm (d + 1) (s'.1 - s.1) (s'.2.1 - s.2.1))).room s0 mm (as.map (ax_z ad)).toArray meth c D cy (va_A (ax_wd cy s ad) s0.heap.size) sa sv m M :=
      ⟨B.exec, B.bytes, hml, by rw [a2]; exact findClass_of_methodNamed B.named, fun w hw => hts0 w (List.mem_cons_of_mem _ hw), hK, hA, hM, fun hi => by rw [(name_of_methodNamed B.named B.method).1]; exact a7.mpr hi, hG, Nat.le_add_left 8 (d + 1), Nat.le_add_left 512 (64 * (d + 1))⟩
    rw [lg_entry_eq]
    have hW := ax_run (l := l) (e := e) (below := below) X rfl B.returns B.notSynchronized hsa IH (Nat.le_of_eq (Nat.add_right_comm d 1 8).symm) (Nat.le_refl _) rfl rfl n (0, ax_pad (ax_ent as) M.2.2.1, [], s) ad hok (fun _ _ => rfl) (ax_le.rf s) hw
    have hfin := hW s0.heap [] _ (by rw [hml]; exact ax_entry hent) hP hD.self va_S.rf
    dsimp only at hfin
    rw [Nat.sub_self, Nat.sub_self] at hfin
    exact hfin
