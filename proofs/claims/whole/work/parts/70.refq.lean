/-! THE REFERENCE: formulas, what its stack does -/
/-- codes cs, stack F (top first), depth, base, kind of text -/
def rQ (cs F : List Int) (dep base kd : Int) (I : zF) : Prop := I 0 106 = (cs.length : Int) ∧ (∀ i, i < cs.length → I 75 i = cs.getD i 0) ∧ I 0 108 = (F.length : Int) ∧ ck I 76 F ∧ I 0 109 = dep ∧ I 0 110 = base ∧ I 0 56 = kd ∧ (∀ x, x ∈ F → 0 ≤ x ∧ x ≤ 100)
/-- nothing has changed but what a formula's reading writes -/
def rZ (I I' : zF) : Prop := ∀ i j, ¬ (i = 0 ∧ (j = 2 ∨ j = 4 ∨ j = 5 ∨ j = 6 ∨ j = 10 ∨ j = 106 ∨ j = 108 ∨ j = 109 ∨ j = 110)) → i ≠ 75 → i ≠ 76 → I' i j = I i j
theorem rZ.refl (I : zF) : rZ I I := fun _ _ _ _ _ => rfl
theorem rZ.trans {I I' I2 : zF} (h : rZ I I') (h2 : rZ I' I2) : rZ I I2 := fun i j a b c => (h2 i j a b c).trans (h i j a b c)
theorem rY.Z {I I' : zF} (h : rY I I') : rZ I I' := fun i j a _ _ => h i j (by omega)
theorem ck_cong {I I' : zF} {s : Nat} (h : ∀ j, I' s j = I s j) : ∀ (st : List Int), ck I s st → ck I' s st := by
  intro st
  induction st with
  | nil => intro _; trivial
  | cons x r ih => intro hc; exact ⟨by rw [h]; exact hc.1, ih hc.2⟩
theorem rY.Q {I I' : zF} {cs F : List Int} {dep base kd : Int} (h : rY I I') (hQ : rQ cs F dep base kd I) : rQ cs F dep base kd I' := by
  obtain ⟨a, b, c, e, f, g, k, l⟩ := hQ
  exact ⟨by rw [h 0 106 (by omega)]; exact a, fun i hi => by rw [h 75 i (by omega)]; exact b i hi, by rw [h 0 108 (by omega)]; exact c, ck_cong (fun j => h 76 j (by omega)) F e, by rw [h 0 109 (by omega)]; exact f, by rw [h 0 110 (by omega)]; exact g, by rw [h 0 56 (by omega)]; exact k, l⟩
theorem getD_appI {l : List Int} {v : Int} {q : Nat} (hq : q < (l ++ [v]).length) : (l ++ [v]).getD q 0 = if q < l.length then l.getD q 0 else v := by
  have := getD_app (l := l) (v := v) (q := q)
  rw [this]
  simp only [List.length_append, List.length_cons, List.length_nil] at hq
  by_cases c : q < l.length
  · rw [if_pos c, if_pos c]
  · rw [if_neg c, if_neg c, if_pos (by omega)]
section ZRC
variable {d : Nat} {I J : zF} {cs F : List Int} {dep base kd : Int} {P : Int → zF → zF → Prop} {P0 : zF → zF → Prop}
theorem sr_qCode (hQ : rQ cs F dep base kd I) (hl : cs.length < 1700) {c : Int} (hP : ∀ I', (∀ i j, i ≠ 75 → ¬ (i = 0 ∧ j = 106) → I' i j = I i j) → rQ (cs ++ [c]) F dep base kd I' → P0 I' J) : zr_v (d + 1) 277 [.inr (.inr (some 0)), .inl c] I J P0 := by
  obtain ⟨a, b, e, f, g, k, l, m⟩ := hQ
  refine zr_inv (M := ax_m277) rfl (Nat.le_of_ble_eq_true rfl) (zq_qCode_0 I J c ?_)
  have e1 : (ax_u I 75 (ax_w (I 0 106)).toNat c) 0 106 = (cs.length : Int) := by rw [zu_ne (by omega)]; exact a
  rw [e1, a, zb_w (x := (cs.length : Int)) (by omega) (by omega)]
  refine ⟨by omega, zr_Qv.of (hP _ (fun i j q1 q2 => by rw [zu_ne (by omega), zu_ne (by omega)]) ⟨?_, fun i hi => ?_, ?_, ?_, ?_, ?_, ?_, m⟩)⟩
  · rw [zu_eq]; simp only [List.length_append, List.length_cons, List.length_nil]; omega
  · rw [zu_ne (by omega), getD_appI hi]
    simp only [List.length_append, List.length_cons, List.length_nil] at hi
    by_cases c : i < cs.length
    · rw [if_pos c, zu_ne (by omega)]; exact b i c
    · rw [if_neg c, show i = (cs.length : Int).toNat by omega, zu_eq]
  · rw [zu_ne (by omega), zu_ne (by omega)]; exact e
  · exact ck_cong (fun j => by rw [zu_ne (by omega), zu_ne (by omega)]) F f
  · rw [zu_ne (by omega), zu_ne (by omega)]; exact g
  · rw [zu_ne (by omega), zu_ne (by omega)]; exact k
  · rw [zu_ne (by omega), zu_ne (by omega)]; exact l
theorem sr_qIsOn (hQ : rQ cs F dep base kd I) (hl : F.length ≤ 1700) {c : Int} (hc : n32 c) (hP : P (match F with | [] => 0 | x :: _ => if x = c then 1 else 0) I J) : zr_i (d + 1) 279 [.inr (.inr (some 0)), .inl c] I J P := by
  obtain ⟨a, b, e, f, g, k, l, m⟩ := hQ
  refine zr_ini (M := ax_m279) rfl (Nat.le_of_ble_eq_true rfl) (zq_qIsOn_0 I J c ?_)
  cases F with
  | nil =>
    have e' : I 0 108 = 0 := e
    rw [e']
    exact ⟨fun q => absurd q (by decide), fun _ => zr_Qi.of hP⟩
  | cons x r =>
    have hx := m x (by simp)
    simp only [List.length_cons] at e hl
    have fx : I 76 r.length = x := f.1
    rw [show I 0 108 - 1 = (r.length : Int) by omega, zb_w (x := (r.length : Int)) (by omega) (by omega), show (r.length : Int).toNat = r.length by omega, fx, zb_w (x := I 0 108) (by omega) (by omega), zb_w (x := x) (by omega) (by omega), hc.w]
    refine ⟨fun _ => ⟨by omega, fun q => zr_Qi.of ?_, fun q => zr_Qi.of ?_⟩, fun q => absurd (show (0 : Int) < I 0 108 by omega) q⟩
    · have hP' : P (if x = c then 1 else 0) I J := hP
      rwa [if_pos q] at hP'
    · have hP' : P (if x = c then 1 else 0) I J := hP
      rwa [if_neg q] at hP'
theorem sr_qDrops {x : Int} {r : List Int} (hQ : rQ cs (x :: r) dep base kd I) (hl : cs.length + (x :: r).length ≤ 1700) (hP : ∀ I', (∀ i j, i ≠ 75 → ¬ (i = 0 ∧ (j = 106 ∨ j = 108)) → I' i j = I i j) → rQ (cs ++ [x]) r dep base kd I' → P0 I' J) : zr_v (d + 2) 280 [.inr (.inr (some 0))] I J P0 := by
  simp only [List.length_cons] at hl
  obtain ⟨a, b, e, f, g, k, l, m⟩ := hQ
  simp only [List.length_cons] at e
  refine zr_inv (M := ax_m280) rfl (Nat.le_of_ble_eq_true rfl) (zq_qDrops_0 I J ?_)
  have fx : I 76 r.length = x := f.1
  have e1 : (ax_u I 0 108 (I 0 108 - 1)) 0 108 = (r.length : Int) := by rw [zu_eq]; omega
  have e2 : (ax_u I 0 108 (I 0 108 - 1)) 76 r.length = x := by rw [zu_ne (by omega)]; exact fx
  rw [e1, zb_w (x := (r.length : Int)) (by omega) (by omega), show (r.length : Int).toNat = r.length by omega, e2]
  refine ⟨by omega, sr_qCode (cs := cs) (F := r) (dep := dep) (base := base) (kd := kd) ⟨?_, fun i hi => ?_, e1, ?_, ?_, ?_, ?_, fun y hy => m y (List.mem_cons_of_mem _ hy)⟩ (by omega) (fun I' h1 h2 => zr_Qv.of (hP I' (fun i j q1 q2 => by rw [h1 i j q1 (by omega), zu_ne (by omega)]) h2))⟩
  · rw [zu_ne (by omega)]; exact a
  · rw [zu_ne (by omega)]; exact b i hi
  · exact ck_cong (fun j => by rw [zu_ne (by omega)]) r f.2
  · rw [zu_ne (by omega)]; exact g
  · rw [zu_ne (by omega)]; exact k
  · rw [zu_ne (by omega)]; exact l
theorem sr_qIsBracket {c : Int} (hc : n32 c) (hP : P (if isBr c = true then 1 else 0) I J) : zr_i (d + 1) 281 [.inl c] I J P := by
  refine zr_ini (M := ax_m281) rfl (Nat.le_of_ble_eq_true rfl) (zq_qIsBracket_0 I J c ?_)
  unfold isBr at hP
  simp only [decide_eq_true_eq] at hP
  rw [hc.w]
  refine ⟨fun q => zr_Qi.of ?_, fun q => ⟨fun q2 => zr_Qi.of ?_, fun q2 => zr_Qi.of ?_⟩⟩
  · have q' : c < 20 := q
    rwa [if_neg (by omega)] at hP
  · have q' : 24 < c := q2
    rwa [if_neg (by omega)] at hP
  · have q' : ¬ c < 20 := q
    have q2' : ¬ 24 < c := q2
    rwa [if_pos (by omega)] at hP
end ZRC
