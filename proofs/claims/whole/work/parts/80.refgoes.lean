/-! THE REFERENCE: does a formula go on -/
section ZGO
variable {d : Nat} {I J : zF} {T : Nat → Int} {n : Int} {kd : Nat} {B F : List Int} {s : zs} {dep base k : Int} {cs : List Int} {P : Int → zF → zF → Prop} {Q : Option ax_v → ax_S → Prop}
theorem sr_on0 (hQ : rQ cs F dep base k I) (hl : F.length ≤ 1700) {c : Int} (hc : n32 c) (h : ∀ x q, F = x :: q → x ≠ c) (hP : P 0 I J) : zr_i (d + 1) 279 [.inr (.inr (some 0)), .inl c] I J P := sr_qIsOn hQ hl hc (by
  cases F with
  | nil => exact hP
  | cons x q => show P (if x = c then 1 else 0) I J; rw [if_neg (h x q rfl)]; exact hP)
theorem sr_on1 {c : Int} {q : List Int} (hQ : rQ cs (c :: q) dep base k I) (hl : (c :: q).length ≤ 1700) (hc : n32 c) (hP : P 1 I J) : zr_i (d + 1) 279 [.inr (.inr (some 0)), .inl c] I J P := sr_qIsOn hQ hl hc (by show P (if c = c then 1 else 0) I J; rw [if_pos rfl]; exact hP)
theorem rQ.push {x : Int} (hx : 0 ≤ x ∧ x ≤ 100) (h : rQ cs F dep base k I) : rQ cs (x :: F) dep base k (ax_u (ax_u I 76 F.length x) 0 108 ((F.length : Int) + 1)) := by
  obtain ⟨a, b, e, f, g, q, l, m⟩ := h
  refine ⟨?_, fun i hi => ?_, ?_, ?_, ?_, ?_, ?_, fun y hy => ?_⟩
  · rw [zu_ne (by omega), zu_ne (by omega)]; exact a
  · rw [zu_ne (by omega), zu_ne (by omega)]; exact b i hi
  · rw [zu_eq, List.length_cons]; omega
  · exact ck_cong (I := ax_u I 76 F.length x) (fun j => zu_ne (by omega)) _ (ck_put rfl f)
  · rw [zu_ne (by omega), zu_ne (by omega)]; exact g
  · rw [zu_ne (by omega), zu_ne (by omega)]; exact q
  · rw [zu_ne (by omega), zu_ne (by omega)]; exact l
  · rcases List.mem_cons.mp hy with rfl | h
    · exact hx
    · exact m y h
theorem rQ.chg {x y : Int} (hy : 0 ≤ y ∧ y ≤ 100) (h : rQ cs (x :: F) dep base k I) : rQ cs (y :: F) dep base k (ax_u I 76 F.length y) := by
  obtain ⟨a, b, e, f, g, q, l, m⟩ := h
  refine ⟨?_, fun i hi => ?_, ?_, ck_put rfl f.2, ?_, ?_, ?_, fun z hz => ?_⟩
  · rw [zu_ne (by omega)]; exact a
  · rw [zu_ne (by omega)]; exact b i hi
  · rw [zu_ne (by omega)]; exact e
  · rw [zu_ne (by omega)]; exact g
  · rw [zu_ne (by omega)]; exact q
  · rw [zu_ne (by omega)]; exact l
  · rcases List.mem_cons.mp hz with rfl | h
    · exact hy
    · exact m z (List.mem_cons_of_mem _ h)
theorem rQ.pop {x v : Int} (h : rQ cs (x :: F) dep base k I) : rQ cs F v base k (ax_u (ax_u I 0 108 (I 0 108 - 1)) 0 109 v) ∧ (ax_u (ax_u I 0 108 (I 0 108 - 1)) 0 109 v) 76 F.length = x := by
  obtain ⟨a, b, e, f, g, q, l, m⟩ := h
  rw [List.length_cons] at e
  refine ⟨⟨?_, fun i hi => ?_, ?_, ck_cong (fun j => by rw [zu_ne (by omega), zu_ne (by omega)]) _ f.2, ?_, ?_, ?_, fun z hz => m z (List.mem_cons_of_mem _ hz)⟩, ?_⟩
  · rw [zu_ne (by omega), zu_ne (by omega)]; exact a
  · rw [zu_ne (by omega), zu_ne (by omega)]; exact b i hi
  · rw [zu_ne (by omega), zu_eq]; omega
  · rw [zu_eq]
  · rw [zu_ne (by omega), zu_ne (by omega)]; exact q
  · rw [zu_ne (by omega), zu_ne (by omega)]; exact l
  · rw [zu_ne (by omega), zu_ne (by omega)]; exact f.1
/-- only codes and stack -/
def rKs (I I' : zF) : Prop := ∀ i j, i ≠ 75 → i ≠ 76 → ¬ (i = 0 ∧ (j = 106 ∨ j = 108)) → I' i j = I i j
theorem rKs.refl (I : zF) : rKs I I := fun _ _ _ _ _ => rfl
theorem rKs.trans {I I' I2 : zF} (h : rKs I I') (h2 : rKs I' I2) : rKs I I2 := fun i j a b c => (h2 i j a b c).trans (h i j a b c)
theorem rKs.Z {I I' : zF} (h : rKs I I') : rZ I I' := fun i j a b c => h i j b c (by omega)
theorem rKs.fr {I I' : zF} (h : rKs I I') (hL : rTx T n s I) : rTx T n s I' := hL.fr (fun i j a b c => h i j a b (by omega))
theorem rKs.psh {x v : Int} {m : Nat} (I : zF) : rKs I (ax_u (ax_u I 76 m x) 0 108 v) := fun i j a b c => by rw [zu_ne (by omega), zu_ne (by omega)]
theorem go_162e {a : Int} (ha : 0 ≤ a ∧ a ≤ 100) (hQ : rQ cs F dep base k I) (hl : F.length < 1700) (hx : ∀ x q, F = x :: q → x ≠ 3 ∧ x ≠ 4) (hP : ∀ I', rKs I I' → rQ cs (a :: F) dep base k I' → Q (some (.inl 1)) (zr_S I' J)) : zb_W (d + 2) ax_m289 (162, [some (.inr (.inr (some 0))), some (.inl a)], [], zr_S I J) Q := by
  refine zq_qGoesOn_162 I J a (sr_on0 hQ (by omega) ⟨by decide, by decide⟩ (fun x q e => (hx x q e).1) (b0 (sr_on0 hQ (by omega) ⟨by decide, by decide⟩ (fun x q e => (hx x q e).2) (b0 ?_))))
  have e : I 0 108 = (F.length : Int) := hQ.2.2.1
  rw [zu_ne (by omega), e, zb_w (x := (F.length : Int)) (by omega) (by omega), show (F.length : Int).toNat = F.length by omega]
  exact ⟨by omega, hP _ (rKs.psh I) (hQ.push ha)⟩
theorem go_162 {a : Int} (ha : 0 ≤ a ∧ a ≤ 100) (hB : ∀ x, x ∈ B → 5 ≤ x) {I0 : zF} : ∀ (st cs : List Int) (I : zF), rQ cs (st ++ B) dep base k I → cs.length + (st ++ B).length < 1700 → rKs I0 I → (∀ I', rKs I0 I' → rQ (cs ++ pU fM st) ((a :: pD fM st) ++ B) dep base k I' → Q (some (.inl 1)) (zr_S I' J)) → zb_W (d + 2) ax_m289 (162, [some (.inr (.inr (some 0))), some (.inl a)], [], zr_S I J) Q := by
  intro st
  induction st with
  | nil =>
    intro cs I hQ hl hK hP
    refine go_162e ha hQ (by omega) (fun x q e => ?_) (fun I' h1 h2 => hP I' (hK.trans h1) ?_)
    · have e' : B = x :: q := e
      have := hB x (by rw [e']; simp)
      omega
    · rw [show pU fM [] = [] from rfl, List.append_nil]; exact h2
  | cons x r ih =>
    intro cs I hQ hl hK hP
    have hlen : ((x :: r) ++ B).length = (r ++ B).length + 1 := rfl
    by_cases c : fM x = true
    · have c' := of_decide_eq_true c
      have go : zb_W (d + 2) ax_m289 (178, [some (.inr (.inr (some 0))), some (.inl a)], [], zr_S I J) Q := by
        refine zq_qGoesOn_178 I J a (sr_qDrops (x := x) (r := r ++ B) hQ (by rw [List.length_cons]; omega) (fun I1 h1 q1 => ih (cs ++ [x]) I1 q1 ?_ (hK.trans (fun i j a b c => h1 i j a c)) (fun I' h2 q2 => hP I' h2 ?_)))
        · simp only [List.length_append, List.length_cons, List.length_nil] at *; omega
        · rw [show pU fM (x :: r) = x :: pU fM r from if_pos c, show pD fM (x :: r) = pD fM r from if_pos c]
          rw [List.append_assoc] at q2
          exact q2
      by_cases c3 : x = 3
      · have hQ' := hQ
        rw [c3] at hQ'
        exact zq_qGoesOn_162 I J a (sr_on1 (q := r ++ B) hQ' (by rw [List.length_cons]; omega) ⟨by decide, by decide⟩ (b1 go))
      · have c4 : x = 4 := by omega
        have hQ' := hQ
        rw [c4] at hQ'
        exact zq_qGoesOn_162 I J a (sr_on0 hQ (by omega) ⟨by decide, by decide⟩ (fun y q e => by have e' : x = y := by injection e
                                                                                                 omega) (b0 (sr_on1 (q := r ++ B) hQ' (by rw [List.length_cons]; omega) ⟨by decide, by decide⟩ (b1 go))))
    · have c' : ¬ (x = 3 ∨ x = 4) := fun z => c (decide_eq_true z)
      refine go_162e ha hQ (by omega) (fun y q e => ?_) (fun I' h1 h2 => hP I' (hK.trans h1) ?_)
      · have e' : x = y := by injection e
        omega
      · rw [show pU fM (x :: r) = [] from if_neg c, show pD fM (x :: r) = x :: r from if_neg c, List.append_nil]; exact h2
theorem go_247e {a : Int} (ha : 0 ≤ a ∧ a ≤ 100) (hQ : rQ cs F dep base k I) (hl : F.length < 1700) (hx : ∀ x q, F = x :: q → ¬ (1 ≤ x ∧ x ≤ 4)) (hP : ∀ I', rKs I I' → rQ cs (a :: F) dep base k I' → Q (some (.inl 1)) (zr_S I' J)) : zb_W (d + 2) ax_m289 (247, [some (.inr (.inr (some 0))), some (.inl a)], [], zr_S I J) Q := by
  refine zq_qGoesOn_247 I J a (sr_on0 hQ (by omega) ⟨by decide, by decide⟩ (fun x q e => by have := hx x q e; omega) (b0 (sr_on0 hQ (by omega) ⟨by decide, by decide⟩ (fun x q e => by have := hx x q e; omega) (b0 (sr_on0 hQ (by omega) ⟨by decide, by decide⟩ (fun x q e => by have := hx x q e; omega) (b0 (sr_on0 hQ (by omega) ⟨by decide, by decide⟩ (fun x q e => by have := hx x q e; omega) (b0 ?_))))))))
  have e : I 0 108 = (F.length : Int) := hQ.2.2.1
  rw [zu_ne (by omega), e, zb_w (x := (F.length : Int)) (by omega) (by omega), show (F.length : Int).toNat = F.length by omega]
  exact ⟨by omega, hP _ (rKs.psh I) (hQ.push ha)⟩
theorem go_247 {a : Int} (ha : 0 ≤ a ∧ a ≤ 100) (hB : ∀ x, x ∈ B → 5 ≤ x) {I0 : zF} : ∀ (st cs : List Int) (I : zF), rQ cs (st ++ B) dep base k I → cs.length + (st ++ B).length < 1700 → rKs I0 I → (∀ I', rKs I0 I' → rQ (cs ++ pU fA st) ((a :: pD fA st) ++ B) dep base k I' → Q (some (.inl 1)) (zr_S I' J)) → zb_W (d + 2) ax_m289 (247, [some (.inr (.inr (some 0))), some (.inl a)], [], zr_S I J) Q := by
  intro st
  induction st with
  | nil =>
    intro cs I hQ hl hK hP
    refine go_247e ha hQ (by omega) (fun x q e => ?_) (fun I' h1 h2 => hP I' (hK.trans h1) ?_)
    · have e' : B = x :: q := e
      have := hB x (by rw [e']; simp)
      omega
    · rw [show pU fA [] = [] from rfl, List.append_nil]; exact h2
  | cons x r ih =>
    intro cs I hQ hl hK hP
    have hlen : ((x :: r) ++ B).length = (r ++ B).length + 1 := rfl
    by_cases c : fA x = true
    · have c' := of_decide_eq_true c
      have go : zb_W (d + 2) ax_m289 (279, [some (.inr (.inr (some 0))), some (.inl a)], [], zr_S I J) Q := by
        refine zq_qGoesOn_279 I J a (sr_qDrops (x := x) (r := r ++ B) hQ (by rw [List.length_cons]; omega) (fun I1 h1 q1 => ih (cs ++ [x]) I1 q1 ?_ (hK.trans (fun i j a b c => h1 i j a c)) (fun I' h2 q2 => hP I' h2 ?_)))
        · simp only [List.length_append, List.length_cons, List.length_nil] at *; omega
        · rw [show pU fA (x :: r) = x :: pU fA r from if_pos c, show pD fA (x :: r) = pD fA r from if_pos c]
          rw [List.append_assoc] at q2
          exact q2
      have no : ∀ v, x ≠ v → ∀ y q, (x :: r) ++ B = y :: q → y ≠ v := fun v hv y q e => by
        have e' : x = y := by injection e
        omega
      have hQ' : rQ cs (x :: (r ++ B)) dep base k I := hQ
      have hl1 : (x :: (r ++ B)).length ≤ 1700 := by rw [List.length_cons]; omega
      rcases (show x = 3 ∨ x = 4 ∨ x = 1 ∨ x = 2 by omega) with c3 | c3 | c3 | c3
      · rw [c3] at hQ' hl1
        exact zq_qGoesOn_247 I J a (sr_on1 hQ' hl1 ⟨by decide, by decide⟩ (b1 go))
      · rw [c3] at hQ' hl1
        exact zq_qGoesOn_247 I J a (sr_on0 hQ (by omega) ⟨by decide, by decide⟩ (no 3 (by omega)) (b0 (sr_on1 hQ' hl1 ⟨by decide, by decide⟩ (b1 go))))
      · rw [c3] at hQ' hl1
        exact zq_qGoesOn_247 I J a (sr_on0 hQ (by omega) ⟨by decide, by decide⟩ (no 3 (by omega)) (b0 (sr_on0 hQ (by omega) ⟨by decide, by decide⟩ (no 4 (by omega)) (b0 (sr_on1 hQ' hl1 ⟨by decide, by decide⟩ (b1 go))))))
      · rw [c3] at hQ' hl1
        exact zq_qGoesOn_247 I J a (sr_on0 hQ (by omega) ⟨by decide, by decide⟩ (no 3 (by omega)) (b0 (sr_on0 hQ (by omega) ⟨by decide, by decide⟩ (no 4 (by omega)) (b0 (sr_on0 hQ (by omega) ⟨by decide, by decide⟩ (no 1 (by omega)) (b0 (sr_on1 hQ' hl1 ⟨by decide, by decide⟩ (b1 go))))))))
    · have c' : ¬ (1 ≤ x ∧ x ≤ 4) := fun z => c (decide_eq_true z)
      refine go_247e ha hQ (by omega) (fun y q e => ?_) (fun I' h1 h2 => hP I' (hK.trans h1) ?_)
      · have e' : x = y := by injection e
        omega
      · rw [show pU fA (x :: r) = [] from if_neg c, show pD fA (x :: r) = x :: r from if_neg c, List.append_nil]; exact h2
end ZGO
