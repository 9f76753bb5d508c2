/-! THE ABSTRACT MACHINE. Numbers are whole numbers that are only cut to 32 (64) bits where they are looked at; a reference is the number of a cell
(from 1000000 on: a string constant); a cell's ints, longs and references are I i j, J i j, R i j, of fields and of elements alike. -/
abbrev ax_v : Type := Int ⊕ (Int ⊕ Option Nat)
/-- how many cells, how many slots, the kind and the length of each, ints, longs, references -/
abbrev ax_S : Type := Nat × Nat × (Nat → Nat × Nat) × (Nat → Nat → Int) × (Nat → Nat → Int) × (Nat → Nat → Option Nat)
abbrev ax_L : Type := List (Option ax_v)
abbrev ax_Z : Type := Nat × ax_L × List ax_v × ax_S
/-- what an instruction leads to: the next state, an answer, or a call -/
abbrev ax_r : Type := ax_Z ⊕ ((Option ax_v × ax_S) ⊕ (Nat × List ax_v × ax_Z))
def ax_K (s : ax_S) : Nat → Nat × Nat := s.2.2.1
def ax_I (s : ax_S) : Nat → Nat → Int := s.2.2.2.1
def ax_J (s : ax_S) : Nat → Nat → Int := s.2.2.2.2.1
def ax_R (s : ax_S) : Nat → Nat → Option Nat := s.2.2.2.2.2
def ax_u {α : Type} (f : Nat → Nat → α) (i j : Nat) (v : α) : Nat → Nat → α := fun a b => if a = i ∧ b = j then v else f a b
def ax_pI (s : ax_S) (i j : Nat) (v : Int) : ax_S := (s.1, s.2.1, s.2.2.1, ax_u s.2.2.2.1 i j v, s.2.2.2.2.1, s.2.2.2.2.2)
def ax_pJ (s : ax_S) (i j : Nat) (v : Int) : ax_S := (s.1, s.2.1, s.2.2.1, s.2.2.2.1, ax_u s.2.2.2.2.1 i j v, s.2.2.2.2.2)
def ax_pR (s : ax_S) (i j : Nat) (v : Option Nat) : ax_S := (s.1, s.2.1, s.2.2.1, s.2.2.2.1, s.2.2.2.2.1, ax_u s.2.2.2.2.2 i j v)
/-- a new cell of a kind, a length, so many slots -/
def ax_nw (s : ax_S) (kd ln sl : Nat) : ax_S :=
  (s.1 + 1, s.2.1 + sl, fun i => if i = s.1 then (kd, ln) else s.2.2.1 i, fun i j => if i = s.1 then 0 else s.2.2.2.1 i j, fun i j => if i = s.1 then 0 else s.2.2.2.2.1 i j, fun i j => if i = s.1 then none else s.2.2.2.2.2 i j)
def ax_w (x : Int) : Int := Int.bmod x 4294967296
def ax_wl (x : Int) : Int := Int.bmod x 18446744073709551616
def ax_and (x y : Int) : Int := (Int32.ofInt x &&& Int32.ofInt y).toInt
def ax_or (x y : Int) : Int := (Int32.ofInt x ||| Int32.ofInt y).toInt
def ax_xor (x y : Int) : Int := (Int32.ofInt x ^^^ Int32.ofInt y).toInt
def ax_shl (x y : Int) : Int := (Int32.ofInt x <<< (Int32.ofInt y &&& 31)).toInt
def ax_shr (x y : Int) : Int := (Int32.ofInt x >>> (Int32.ofInt y &&& 31)).toInt
def ax_ushr (x y : Int) : Int := ((Int32.ofInt x).toUInt32 >>> ((Int32.ofInt y).toUInt32 &&& Int32.toUInt32 31)).toInt32.toInt
def ax_land (x y : Int) : Int := (Int64.ofInt x &&& Int64.ofInt y).toInt
def ax_lcmp (x y : Int) : Int := if ax_wl y < ax_wl x then 1 else if ax_wl x = ax_wl y then 0 else -1
def ax_i2b (x : Int) : Int := (Int32.ofInt x).toInt8.toInt32.toInt
def ax_i2c (x : Int) : Int := ((Int32.ofInt x).toUInt32 % 65536).toInt32.toInt
def ax_fr (own k : Nat) : Option (Nat × Nat × Nat × Bool × Bool) := (ax_frT.getD own []).lookup k
def ax_mr (own k : Nat) : Option (Nat × Bool) := (ax_mrT.getD own []).lookup k
def ax_ct (own k : Nat) : Option (Int ⊕ Nat) := (ax_ctT.getD own []).lookup k
def ax_c2 (own k : Nat) : Option Int := (ax_c2T.getD own []).lookup k
def ax_nr (own k : Nat) : Option Nat := (ax_nwT.getD own []).lookup k
def ax_t (pc : Nat) (off : Int) : Nat := ((pc : Int) + off).toNat
def ax_cat (v : ax_v) : Nat := match v with
  | .inr (.inl _) => 2
  | _ => 1
def ax_cats (st : List ax_v) : Nat := match st with
  | [] => 0
  | v :: r => ax_cat v + ax_cats r
/-- no reference to a cell that is not there -/
def ax_vk (n : Nat) (v : ax_v) : Bool := match v with
  | .inr (.inr (some o)) => Nat.blt o n || Nat.ble 1000000 o
  | _ => true
def ax_vs (n : Nat) (st : List ax_v) : Bool := match st with
  | [] => true
  | v :: r => ax_vk n v && ax_vs n r
def ax_vl (n : Nat) (ls : ax_L) : Bool := match ls with
  | [] => true
  | none :: r => ax_vl n r
  | some v :: r => ax_vk n v && ax_vl n r
def ax_ent (as : List ax_v) : ax_L := match as with
  | [] => []
  | .inr (.inl y) :: r => some (.inr (.inl y)) :: none :: ax_ent r
  | v :: r => some v :: ax_ent r
def ax_pad (ls : ax_L) (n : Nat) : ax_L := ls ++ List.replicate (n - ls.length) none
/-- the place before, cleared if a long begins there -/
def ax_clr (ls : ax_L) (k : Nat) : ax_L := match k with
  | 0 => ls
  | j + 1 => match ls[j]? with
    | some (some (.inr (.inl _))) => ls.set j none
    | _ => ls
def ax_st1 (ls : ax_L) (k : Nat) (v : ax_v) : Option ax_L := cond (Nat.blt k ls.length) (some ((ax_clr ls k).set k (some v))) none
def ax_st2 (ls : ax_L) (k : Nat) (v : ax_v) : Option ax_L := cond (Nat.blt (k + 1) ls.length) (some (((ax_clr ls k).set k (some v)).set (k + 1) none)) none
def ax_go (pc : Nat) (ls : ax_L) (st : List ax_v) (s : ax_S) : Option (Prop × ax_r) := some (True, .inl (pc, ls, st, s))
def ax_gg (g : Prop) (pc : Nat) (ls : ax_L) (st : List ax_v) (s : ax_S) : Option (Prop × ax_r) := some (g, .inl (pc, ls, st, s))
def ax_ldi (pc : Nat) (ls : ax_L) (k : Nat) (st : List ax_v) (s : ax_S) : Option (Prop × ax_r) := match ls[k]? with
  | some (some (.inl x)) => ax_go pc ls (.inl x :: st) s
  | _ => none
def ax_ldl (pc : Nat) (ls : ax_L) (k : Nat) (st : List ax_v) (s : ax_S) : Option (Prop × ax_r) := match ls[k]? with
  | some (some (.inr (.inl x))) => ax_go pc ls (.inr (.inl x) :: st) s
  | _ => none
def ax_lda (pc : Nat) (ls : ax_L) (k : Nat) (st : List ax_v) (s : ax_S) : Option (Prop × ax_r) := match ls[k]? with
  | some (some (.inr (.inr (some o)))) => ax_go pc ls (.inr (.inr (some o)) :: st) s
  | _ => none
def ax_sti (pc : Nat) (ls : ax_L) (k : Nat) (st : List ax_v) (s : ax_S) : Option (Prop × ax_r) := match st with
  | .inl x :: r => match ax_st1 ls k (.inl x) with
    | some l => ax_go pc l r s
    | none => none
  | _ => none
def ax_stl (pc : Nat) (ls : ax_L) (k : Nat) (st : List ax_v) (s : ax_S) : Option (Prop × ax_r) := match st with
  | .inr (.inl x) :: r => match ax_st2 ls k (.inr (.inl x)) with
    | some l => ax_go pc l r s
    | none => none
  | _ => none
def ax_sta (pc : Nat) (ls : ax_L) (k : Nat) (st : List ax_v) (s : ax_S) : Option (Prop × ax_r) := match st with
  | .inr (.inr (some o)) :: r => match ax_st1 ls k (.inr (.inr (some o))) with
    | some l => ax_go pc l r s
    | none => none
  | _ => none
def ax_inc (pc : Nat) (ls : ax_L) (k : Nat) (n : Int) (st : List ax_v) (s : ax_S) : Option (Prop × ax_r) := match ls[k]? with
  | some (some (.inl x)) => match ax_st1 ls k (.inl (x + n)) with
    | some l => ax_go pc l st s
    | none => none
  | _ => none
def ax_2 (f : Int → Int → Int) (pc : Nat) (ls : ax_L) (st : List ax_v) (s : ax_S) : Option (Prop × ax_r) := match st with
  | .inl y :: .inl x :: r => ax_go (pc + 1) ls (.inl (f x y) :: r) s
  | _ => none
def ax_2l (f : Int → Int → Int) (pc : Nat) (ls : ax_L) (st : List ax_v) (s : ax_S) : Option (Prop × ax_r) := match st with
  | .inr (.inl y) :: .inr (.inl x) :: r => ax_go (pc + 1) ls (.inr (.inl (f x y)) :: r) s
  | _ => none
def ax_d2 (f : Int → Int → Int) (pc : Nat) (ls : ax_L) (st : List ax_v) (s : ax_S) : Option (Prop × ax_r) := match st with
  | .inl y :: .inl x :: r => ax_gg (ax_w y ≠ 0) (pc + 1) ls (.inl (f (ax_w x) (ax_w y)) :: r) s
  | _ => none
def ax_d2l (f : Int → Int → Int) (pc : Nat) (ls : ax_L) (st : List ax_v) (s : ax_S) : Option (Prop × ax_r) := match st with
  | .inr (.inl y) :: .inr (.inl x) :: r => ax_gg (ax_wl y ≠ 0) (pc + 1) ls (.inr (.inl (f (ax_wl x) (ax_wl y))) :: r) s
  | _ => none
def ax_1 (f : Int → Int) (pc : Nat) (ls : ax_L) (st : List ax_v) (s : ax_S) : Option (Prop × ax_r) := match st with
  | .inl x :: r => ax_go (pc + 1) ls (.inl (f x) :: r) s
  | _ => none
def ax_br (c : Jvm.ClassFile.Cond) (x y : Int) (p q : Nat) : Nat := match c with
  | .eq => if ax_w x = ax_w y then p else q
  | .ne => if ax_w x = ax_w y then q else p
  | .lt => if ax_w x < ax_w y then p else q
  | .ge => if ax_w x < ax_w y then q else p
  | .gt => if ax_w y < ax_w x then p else q
  | .le => if ax_w y < ax_w x then q else p
def ax_sw (x : Int) (d : Nat) (ps : List (Int × Nat)) : Nat := match ps with
  | [] => d
  | (k, t) :: r => if ax_w x = k then t else ax_sw x d r
def ax_tsl (pc : Nat) (lo : Int) (os : List Int) : List (Int × Nat) := match os with
  | [] => []
  | o :: r => (lo, ax_t pc o) :: ax_tsl pc (lo + 1) r
def ax_lsl (pc : Nat) (ps : List (Int × Int)) : List (Int × Nat) := match ps with
  | [] => []
  | (k, o) :: r => (k, ax_t pc o) :: ax_lsl pc r
/-- an element of an array of kind kd -/
def ax_al (kd : Nat) (f : Nat → Nat → ax_v) (pc : Nat) (ls : ax_L) (st : List ax_v) (s : ax_S) : Option (Prop × ax_r) := match st with
  | .inl i :: .inr (.inr (some o)) :: r => cond (Nat.blt o s.1 && Nat.beq (ax_K s o).1 kd) (ax_gg (0 ≤ ax_w i ∧ ax_w i < ((ax_K s o).2 : Nat)) (pc + 1) ls (f o (ax_w i).toNat :: r) s) none
  | _ => none
def ax_as (kd : Nat) (f : Int → Int) (pc : Nat) (ls : ax_L) (st : List ax_v) (s : ax_S) : Option (Prop × ax_r) := match st with
  | .inl x :: .inl i :: .inr (.inr (some o)) :: r => cond (Nat.blt o s.1 && Nat.beq (ax_K s o).1 kd) (ax_gg (0 ≤ ax_w i ∧ ax_w i < ((ax_K s o).2 : Nat)) (pc + 1) ls r (ax_pI s o (ax_w i).toNat (f x))) none
  | _ => none
def ax_asl (pc : Nat) (ls : ax_L) (st : List ax_v) (s : ax_S) : Option (Prop × ax_r) := match st with
  | .inr (.inl x) :: .inl i :: .inr (.inr (some o)) :: r => cond (Nat.blt o s.1 && Nat.beq (ax_K s o).1 23) (ax_gg (0 ≤ ax_w i ∧ ax_w i < ((ax_K s o).2 : Nat)) (pc + 1) ls r (ax_pJ s o (ax_w i).toNat x)) none
  | _ => none
def ax_len (pc : Nat) (ls : ax_L) (st : List ax_v) (s : ax_S) : Option (Prop × ax_r) := match st with
  | .inr (.inr (some o)) :: r => cond (Nat.blt o s.1 && Nat.ble 20 (ax_K s o).1 && Nat.ble (ax_K s o).1 24) (ax_go (pc + 1) ls (.inl ((ax_K s o).2 : Nat) :: r) s) none
  | _ => none
def ax_f (s : ax_S) (o k t : Nat) : ax_v := match t with
  | 1 => .inr (.inl (ax_J s o k))
  | 2 => .inr (.inr (ax_R s o k))
  | _ => .inl (ax_I s o k)
def ax_gf (own k pc : Nat) (ls : ax_L) (st : List ax_v) (s : ax_S) : Option (Prop × ax_r) := match st with
  | .inr (.inr (some o)) :: r => match ax_fr own k with
    | some (ci, f, t, _, _) => cond (Nat.blt o s.1 && Nat.beq (ax_K s o).1 ci) (ax_go (pc + 3) ls (ax_f s o f t :: r) s) none
    | none => none
  | _ => none
def ax_pf (s : ax_S) (o k t : Nat) (v : ax_v) : Option (Prop × ax_S) := match t, v with
  | 0, .inl x => some (True, ax_pI s o k x)
  | 1, .inr (.inl y) => some (True, ax_pJ s o k y)
  | 2, .inr (.inr (some a)) => cond (Nat.blt a s.1) (some (True, ax_pR s o k (some a))) none
  | 3, .inl x => some ((x = 0 ∨ x = 1), ax_pI s o k x)
  | _, _ => none
def ax_ptf (own : Nat) (ini : Bool) (k pc : Nat) (ls : ax_L) (st : List ax_v) (s : ax_S) : Option (Prop × ax_r) := match st with
  | v :: .inr (.inr (some o)) :: r => match ax_fr own k with
    | some (ci, f, t, fin, nest) => cond (Nat.blt o s.1 && Nat.beq (ax_K s o).1 ci && (!fin || (ini && (Nat.beq ci own && !nest)))) (match ax_pf s o f t v with
      | some (g, s') => ax_gg g (pc + 3) ls r s'
      | none => none) none
    | none => none
  | _ => none
/-- the ints of the array a1, from dp on, n of those of a0 from sp on -/
def ax_cpy (f : Nat → Nat → Int) (a0 sp a1 dp n : Nat) : Nat → Nat → Int := fun i j => if i = a1 ∧ dp ≤ j ∧ j < dp + n then f a0 (sp + (j - dp)) else f i j
def ax_acp (pc : Nat) (ls : ax_L) (st : List ax_v) (s : ax_S) : Option (Prop × ax_r) := match st with
  | .inl n :: .inl dp :: .inr (.inr (some a1)) :: .inl sp :: .inr (.inr (some a0)) :: r =>
    cond (Nat.blt a0 s.1 && Nat.beq (ax_K s a0).1 20 && Nat.blt a1 s.1 && Nat.beq (ax_K s a1).1 20 && Nat.ble (ax_cats r) 8)
      (ax_gg (0 ≤ ax_w sp ∧ 0 ≤ ax_w dp ∧ 0 ≤ ax_w n ∧ ax_w sp + ax_w n ≤ ((ax_K s a0).2 : Nat) ∧ ax_w dp + ax_w n ≤ ((ax_K s a1).2 : Nat)) (pc + 3) ls r
        (s.1, s.2.1, s.2.2.1, ax_cpy s.2.2.2.1 a0 (ax_w sp).toNat a1 (ax_w dp).toNat (ax_w n).toNat, s.2.2.2.2.1, s.2.2.2.2.2)) none
  | _ => none
def ax_sl (k : Nat) : Nat := (ax_sb.getD k []).length
def ax_sc (k j : Nat) : Int := ((ax_sb.getD k []).getD j 0 : Nat)
def ax_sln (pc : Nat) (ls : ax_L) (st : List ax_v) (s : ax_S) : Option (Prop × ax_r) := match st with
  | .inr (.inr (some o)) :: r => cond (Nat.ble 1000000 o && Nat.blt o 1000035 && Nat.ble (ax_cats r) 8) (ax_go (pc + 3) ls (.inl (ax_sl (o - 1000000) : Nat) :: r) s) none
  | _ => none
def ax_sch (pc : Nat) (ls : ax_L) (st : List ax_v) (s : ax_S) : Option (Prop × ax_r) := match st with
  | .inl i :: .inr (.inr (some o)) :: r => cond (Nat.ble 1000000 o && Nat.blt o 1000035 && Nat.ble (ax_cats r) 8) (ax_gg (0 ≤ ax_w i ∧ ax_w i < (ax_sl (o - 1000000) : Nat)) (pc + 3) ls (.inl (ax_sc (o - 1000000) (ax_w i).toNat) :: r) s) none
  | _ => none
/-- only a constructor makes cells: there the caller's references must be there -/
def ax_iv (kd n : Nat) (ls : ax_L) (st : List ax_v) : Bool := match kd with
  | 1 => ax_vl n ls && ax_vs n st
  | _ => true
/-- a call: kind 0 virtual, 1 special, 2 static -/
def ax_inv (own kd k pc : Nat) (ls : ax_L) (st : List ax_v) (s : ax_S) : Option (Prop × ax_r) := match ax_mr own k with
  | none => none
  | some (m, _) => match m with
    | 9000 => match st with
      | .inr (.inr (some _)) :: r => cond (Nat.beq kd 1 && Nat.ble (ax_cats r) 8) (ax_go (pc + 3) ls r s) none
      | _ => none
    | 9001 => cond (Nat.beq kd 2) (ax_acp pc ls st s) none
    | 9002 => cond (Nat.beq kd 0) (ax_sln pc ls st s) none
    | 9003 => cond (Nat.beq kd 0) (ax_sch pc ls st s) none
    | m => match ax_T[m]? with
      | none => none
      | some M => cond (Nat.ble M.2.1 st.length && Nat.ble (ax_cats (st.drop M.2.1)) 8 && ax_iv kd s.1 ls (st.drop M.2.1))
        (match kd with
          | 2 => cond M.2.2.2.2.2.1 (some (True, .inr (.inr (m, (st.take M.2.1).reverse, pc + 3, ls, st.drop M.2.1, s)))) none
          | _ => cond M.2.2.2.2.2.1 none (match (st.take M.2.1).reverse with
            | .inr (.inr (some o)) :: as => cond (Nat.blt o s.1 && Nat.beq (ax_K s o).1 M.1 && Bool.xor M.2.2.2.2.1 (Nat.beq kd 0)) (some (True, .inr (.inr (m, .inr (.inr (some o)) :: as, pc + 3, ls, st.drop M.2.1, s)))) none
            | _ => none)) none
def ax_new (own k pc : Nat) (ls : ax_L) (st : List ax_v) (s : ax_S) : Option (Prop × ax_r) := match ax_nr own k with
  | some c => cond (Nat.blt c 13 && Nat.blt s.1 1000000 && ax_vl s.1 ls && ax_vs s.1 st) (ax_go (pc + 3) ls (.inr (.inr (some s.1)) :: st) (ax_nw s c 0 (ax_fd.getD c []).length)) none
  | none => none
/-- the kinds of arrays -/
def ax_ak (t : ArrayType) : Nat := match t with
  | .int => 20
  | .char => 21
  | .byte => 22
  | .long => 23
  | _ => 99
def ax_nwa (t : ArrayType) (pc : Nat) (ls : ax_L) (st : List ax_v) (s : ax_S) : Option (Prop × ax_r) := match st with
  | .inl n :: r => cond (Nat.ble (ax_ak t) 23 && Nat.blt s.1 1000000 && ax_vl s.1 ls && ax_vs s.1 r) (ax_gg (0 ≤ ax_w n ∧ ax_w n ≤ 65536) (pc + 2) ls (.inr (.inr (some s.1)) :: r) (ax_nw s (ax_ak t) (ax_w n).toNat (ax_w n).toNat)) none
  | _ => none
/-- new int[N][K]: the outer one, then N inner ones -/
def ax_mna (s : ax_S) (n k : Nat) : ax_S := (s.1 + (1 + n), s.2.1 + (n + n * k), fun i => if i < s.1 then s.2.2.1 i else if i = s.1 then (24, n) else if i < s.1 + (1 + n) then (20, k) else s.2.2.1 i,
  fun i j => if i < s.1 then s.2.2.2.1 i j else if i < s.1 + (1 + n) then 0 else s.2.2.2.1 i j, fun i j => if i < s.1 then s.2.2.2.2.1 i j else if i < s.1 + (1 + n) then 0 else s.2.2.2.2.1 i j,
  fun i j => if i < s.1 then s.2.2.2.2.2 i j else if i = s.1 then (if j < n then some (s.1 + 1 + j) else none) else if i < s.1 + (1 + n) then none else s.2.2.2.2.2 i j)
def ax_nwm (own k pc : Nat) (ls : ax_L) (st : List ax_v) (s : ax_S) : Option (Prop × ax_r) := match st with
  | .inl b :: .inl a :: r => cond (Nat.beq own 10 && Nat.beq k 20 && Nat.blt s.1 900000 && ax_vl s.1 ls && ax_vs s.1 r) (ax_gg (0 ≤ ax_w a ∧ ax_w a ≤ 65536 ∧ 0 ≤ ax_w b ∧ ax_w b ≤ 65536) (pc + 4) ls (.inr (.inr (some s.1)) :: r) (ax_mna s (ax_w a).toNat (ax_w b).toNat)) none
  | _ => none
def ax_i (own rt : Nat) (ini : Bool) (pc : Nat) (i : Instr) (ls : ax_L) (st : List ax_v) (s : ax_S) : Option (Prop × ax_r) := match i with
  | .iconst n => ax_go (pc + 1) ls (.inl n :: st) s
  | .bipush n => ax_go (pc + 2) ls (.inl n :: st) s
  | .sipush n => ax_go (pc + 3) ls (.inl n :: st) s
  | .lconst n => ax_go (pc + 1) ls (.inr (.inl (n.val : Int)) :: st) s
  | .ldc k => match ax_ct own k with
    | some (.inl x) => ax_go (pc + 2) ls (.inl x :: st) s
    | some (.inr a) => ax_go (pc + 2) ls (.inr (.inr (some (1000000 + a))) :: st) s
    | none => none
  | .ldc_w k => match ax_ct own k with
    | some (.inl x) => ax_go (pc + 3) ls (.inl x :: st) s
    | _ => none
  | .ldc2_w k => match ax_c2 own k with
    | some x => ax_go (pc + 3) ls (.inr (.inl x) :: st) s
    | none => none
  | .iload k => ax_ldi (pc + 2) ls k st s
  | .iload_n k => ax_ldi (pc + 1) ls k.val st s
  | .lload k => ax_ldl (pc + 2) ls k st s
  | .lload_n k => ax_ldl (pc + 1) ls k.val st s
  | .aload k => ax_lda (pc + 2) ls k st s
  | .aload_n k => ax_lda (pc + 1) ls k.val st s
  | .istore k => ax_sti (pc + 2) ls k st s
  | .istore_n k => ax_sti (pc + 1) ls k.val st s
  | .lstore k => ax_stl (pc + 2) ls k st s
  | .lstore_n k => ax_stl (pc + 1) ls k.val st s
  | .astore k => ax_sta (pc + 2) ls k st s
  | .astore_n k => ax_sta (pc + 1) ls k.val st s
  | .iinc k n => ax_inc (pc + 3) ls k n st s
  | .iadd => ax_2 (fun x y => x + y) pc ls st s
  | .isub => ax_2 (fun x y => x - y) pc ls st s
  | .imul => ax_2 (fun x y => x * y) pc ls st s
  | .iand => ax_2 ax_and pc ls st s
  | .ior => ax_2 ax_or pc ls st s
  | .ixor => ax_2 ax_xor pc ls st s
  | .ishl => ax_2 ax_shl pc ls st s
  | .ishr => ax_2 ax_shr pc ls st s
  | .iushr => ax_2 ax_ushr pc ls st s
  | .idiv => ax_d2 Int.tdiv pc ls st s
  | .irem => ax_d2 Int.tmod pc ls st s
  | .ladd => ax_2l (fun x y => x + y) pc ls st s
  | .lsub => ax_2l (fun x y => x - y) pc ls st s
  | .lmul => ax_2l (fun x y => x * y) pc ls st s
  | .land => ax_2l ax_land pc ls st s
  | .ldiv => ax_d2l Int.tdiv pc ls st s
  | .lrem => ax_d2l Int.tmod pc ls st s
  | .lcmp => match st with
    | .inr (.inl y) :: .inr (.inl x) :: r => ax_go (pc + 1) ls (.inl (ax_lcmp x y) :: r) s
    | _ => none
  | .i2l => match st with
    | .inl x :: r => ax_go (pc + 1) ls (.inr (.inl (ax_w x)) :: r) s
    | _ => none
  | .l2i => match st with
    | .inr (.inl x) :: r => ax_go (pc + 1) ls (.inl x :: r) s
    | _ => none
  | .i2b => ax_1 ax_i2b pc ls st s
  | .i2c => ax_1 ax_i2c pc ls st s
  | .dup => match st with
    | v :: r => cond (Nat.beq (ax_cat v) 1) (ax_go (pc + 1) ls (v :: v :: r) s) none
    | _ => none
  | .dup2 => match st with
    | v :: w :: r => cond (Nat.beq (ax_cat v) 1 && Nat.beq (ax_cat w) 1) (ax_go (pc + 1) ls (v :: w :: v :: w :: r) s) none
    | _ => none
  | .pop => match st with
    | v :: r => cond (Nat.beq (ax_cat v) 1) (ax_go (pc + 1) ls r s) none
    | _ => none
  | .ifCond c off => match st with
    | .inl x :: r => ax_go (ax_br c x 0 (ax_t pc off) (pc + 3)) ls r s
    | _ => none
  | .if_icmp c off => match st with
    | .inl y :: .inl x :: r => ax_go (ax_br c x y (ax_t pc off) (pc + 3)) ls r s
    | _ => none
  | .goto off => ax_go (ax_t pc off) ls st s
  | .tableswitch d lo _ os => match st with
    | .inl x :: r => ax_go (ax_sw x (ax_t pc d) (ax_tsl pc lo os.toList)) ls r s
    | _ => none
  | .lookupswitch d ps => match st with
    | .inl x :: r => ax_go (ax_sw x (ax_t pc d) (ax_lsl pc ps.toList)) ls r s
    | _ => none
  | .iaload => ax_al 20 (fun o j => .inl (ax_I s o j)) pc ls st s
  | .caload => ax_al 21 (fun o j => .inl (ax_I s o j)) pc ls st s
  | .baload => ax_al 22 (fun o j => .inl (ax_I s o j)) pc ls st s
  | .laload => ax_al 23 (fun o j => .inr (.inl (ax_J s o j))) pc ls st s
  | .aaload => ax_al 24 (fun o j => .inr (.inr (ax_R s o j))) pc ls st s
  | .iastore => ax_as 20 (fun x => x) pc ls st s
  | .castore => ax_as 21 ax_i2c pc ls st s
  | .bastore => ax_as 22 ax_i2b pc ls st s
  | .lastore => ax_asl pc ls st s
  | .arraylength => ax_len pc ls st s
  | .getfield k => ax_gf own k pc ls st s
  | .putfield k => ax_ptf own ini k pc ls st s
  | .invokevirtual k => ax_inv own 0 k pc ls st s
  | .invokespecial k => ax_inv own 1 k pc ls st s
  | .invokestatic k => ax_inv own 2 k pc ls st s
  | .new k => ax_new own k pc ls st s
  | .newarray t => ax_nwa t pc ls st s
  | .multianewarray k d => cond (Nat.beq d 2) (ax_nwm own k pc ls st s) none
  | .ireturn => match st with
    | [.inl x] => match rt with
      | 1 => some (True, .inr (.inl (some (.inl x), s)))
      | 3 => some ((x = 0 ∨ x = 1), .inr (.inl (some (.inl x), s)))
      | _ => none
    | _ => none
  | .lreturn => match st with
    | [.inr (.inl x)] => cond (Nat.beq rt 2) (some (True, .inr (.inl (some (.inr (.inl x)), s)))) none
    | _ => none
  | .return_ => match st with
    | [] => cond (Nat.beq rt 0) (some (True, .inr (.inl (none, s)))) none
    | _ => none
  | _ => none
/-- one step of a method at a state -/
def ax_p (M : ax_M) (z : ax_Z) : Option (Prop × ax_r) := match M.2.2.2.2.2.2.lookup z.1 with
  | none => none
  | some i => ax_i M.1 M.2.2.2.1 M.2.2.2.2.1 z.1 i z.2.1 z.2.2.1 z.2.2.2
/-- the method comes from the state to the answer v, in the store s', in n steps of its own; C: what its calls come to -/
def ax_ok (C : Nat → List ax_v → ax_S → Option ax_v → ax_S → Prop) (M : ax_M) : Nat → ax_Z → Option ax_v → ax_S → Prop
  | 0, _, _, _ => False
  | n + 1, z, v, s' => match ax_p M z with
    | none => False
    | some (g, .inl z') => g ∧ ax_ok C M n z' v s'
    | some (g, .inr (.inl (v1, s1))) => g ∧ v = v1 ∧ s' = s1
    | some (g, .inr (.inr (m, as, pc, ls, st, s))) => g ∧ ∃ v1 s1, C m as s v1 s1 ∧ ax_ok C M n (pc, ls, v1.toList ++ st, s1) v s'
/-- a call of depth d -/
def ax_C : Nat → Nat → List ax_v → ax_S → Option ax_v → ax_S → Prop
  | 0 => fun _ _ _ _ _ => False
  | d + 1 => fun m as s v s' => ∃ M, ax_T[m]? = some M ∧ (ax_ent as).length ≤ M.2.2.1 ∧ ∃ n, ax_ok (ax_C d) M n (0, ax_pad (ax_ent as) M.2.2.1, [], s) v s'
