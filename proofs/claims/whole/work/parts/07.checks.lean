/-! what is checked of the tables, by the kernel -/
def ax_il (i : Instr) : Nat := match i with
  | .bipush _ => 2
  | .sipush _ => 3
  | .ldc _ => 2
  | .ldc_w _ => 3
  | .ldc2_w _ => 3
  | .iload _ => 2
  | .lload _ => 2
  | .aload _ => 2
  | .istore _ => 2
  | .lstore _ => 2
  | .astore _ => 2
  | .iinc _ _ => 3
  | .ifCond _ _ => 3
  | .if_icmp _ _ => 3
  | .goto _ => 3
  | .getfield _ => 3
  | .putfield _ => 3
  | .invokevirtual _ => 3
  | .invokespecial _ => 3
  | .invokestatic _ => 3
  | .new _ => 3
  | .newarray _ => 2
  | .multianewarray _ _ => 4
  | _ => 1
def ax_tg (pc : Nat) (o : Int) : Bool := decide ((pc : Int) + o = (ax_t pc o : Int))
def ax_oi (pc : Nat) (i : Instr) : Bool := match i with
  | .bipush n => decide ((Int8.ofInt n).toInt32 = Int32.ofInt n)
  | .sipush n => decide ((Int16.ofInt n).toInt32 = Int32.ofInt n)
  | .ifCond _ o => ax_tg pc o
  | .if_icmp _ o => ax_tg pc o
  | .goto o => ax_tg pc o
  | .tableswitch d lo hi os => ax_tg pc d && os.toList.all (ax_tg pc) && decide (hi + 1 = lo + (os.toList.length : Int))
  | .lookupswitch d ps => ax_tg pc d && ps.toList.all (fun p => ax_tg pc p.2) && (ps.toList.zip (ps.toList.drop 1)).all (fun (a, next) => a.1 < next.1)
  | _ => true
def ax_isw (i : Instr) : Bool := match i with
  | .tableswitch _ _ _ _ => true
  | .lookupswitch _ _ => true
  | _ => false
def ax_dk (cc : ByteArray) (e : Nat × Instr) : Bool := ax_oi e.1 e.2 && (match decode cc e.1 with
  | .ok (j, n) => decide (j = e.2) && (ax_isw e.2 || Nat.beq n (ax_il e.2))
  | _ => false)
/-- the code of method m is what its bytes decode to -/
def ax_k1 (m : Nat) : Bool := match ax_T[m]?, ax_Y[m]? with
  | some M, some Y => M.2.2.2.2.2.2.all (ax_dk Y.2.1)
  | _, _ => false
/-- the words of l stand in r, in this order -/
def ax_sub (l r : List Cond) : Bool := match r with
  | [] => l.isEmpty
  | b :: r => match l with
    | [] => true
    | a :: l => if a = b then ax_sub l r else ax_sub (a :: l) r
theorem ax_sub_mem : ∀ {r l : List Cond}, ax_sub l r = true → ∀ w ∈ l, w ∈ r := by
  intro r
  induction r with
  | nil =>
    intro l h w hw
    unfold ax_sub at h
    rw [List.isEmpty_iff.mp h] at hw
    cases hw
  | cons b r ih =>
    intro l h w hw
    cases l with
    | nil => cases hw
    | cons a l =>
      unfold ax_sub at h
      dsimp only at h
      split at h
      · rename_i e
        rcases List.mem_cons.mp hw with q | q
        · rw [q, e]; exact List.mem_cons_self
        · exact List.mem_cons_of_mem _ (ih h w q)
      · exact List.mem_cons_of_mem _ (ih h w hw)
/-- words that hold on where they held -/
def ax_tb : List Cond := lw_tbl.filter goodWord
theorem ax_tb_mem {l : List Cond} (h : ax_sub l lw_tbl = true) (k : l.all goodWord = true) {w : Cond} (hw : w ∈ l) : w ∈ ax_tb := List.mem_filter.mpr ⟨ax_sub_mem h w hw, List.all_eq_true.mp k w hw⟩
def ax_yn (m : Nat) : MethodName := match ax_Y[m]? with
  | some Y => Y.1
  | none => Lib.objectInit
def ax_yb (m : Nat) : ByteArray := match ax_Y[m]? with
  | some Y => Y.2.1
  | none => ⟨#[]⟩
def ax_yr (m : Nat) : Option FieldType := match ax_Y[m]? with
  | some Y => Y.2.2
  | none => none
def ax_ml (m : Nat) : Nat := match ax_T[m]? with
  | some M => M.2.2.1
  | none => 0
def ax_oc (c : Nat) : String := ax_cn.getD c ""
def ax_fn (c : Nat) : Nat := (ax_fd.getD c []).length
def ax_pstat : List Nat := [322, 92, 320, 161, 81, 323, 324, 325, 316, 162, 163, 11, 53, 54, 318, 321, 319, 317, 164, 12, 41, 31, 33, 35, 34, 36, 180, 181, 176, 281, 220, 222, 296, 297, 250, 306]
def ax_pinst : List Nat := [126, 84, 89, 48, 13, 76, 55, 106, 27, 62, 0, 37, 63, 1, 49, 50, 38, 127, 85, 160, 86, 128, 87, 129, 77, 90, 91, 88, 93, 78, 94, 96, 80, 101, 97, 103, 105, 102, 98, 100, 3, 104, 7, 2, 82, 69, 64, 83, 70, 67, 66, 68, 65, 14, 18, 19, 20, 95, 23, 99, 21, 22, 24, 25, 26, 15, 16, 17, 79, 107, 108, 109, 110, 71, 6, 4, 111, 130, 131, 112, 116, 115, 117, 120, 132, 5, 133, 134, 165, 113, 114, 167, 135, 166, 136, 118, 137, 138, 8, 52, 139, 9, 140, 168, 75, 141, 72, 142, 169, 39, 40, 42, 43, 44, 45, 46, 143, 47, 144, 73, 145, 146, 170, 147, 171, 148, 10, 149, 172, 121, 123, 124, 125, 119, 150, 173, 174, 151, 152, 153, 122, 154, 155, 56, 57, 51, 58, 59, 74, 60, 61, 156, 28, 29, 30, 157, 32, 158, 159, 175, 177, 178, 200, 182, 199, 179, 184, 183, 194, 190, 189, 185, 188, 192, 193, 196, 195, 197, 198, 294, 278, 291, 277, 290, 288, 285, 284, 191, 187, 186, 286, 287, 280, 289, 282, 283, 279, 293, 295, 292, 201, 219, 213, 214, 212, 210, 211, 202, 237, 203, 204, 236, 218, 238, 208, 205, 239, 206, 240, 207, 216, 217, 242, 241, 243, 244, 209, 245, 224, 223, 298, 300, 221, 299, 246, 225, 247, 235, 233, 232, 229, 231, 228, 227, 226, 230, 234, 249, 215, 248, 257, 256, 255, 254, 252, 253, 251, 258, 259, 260, 262, 261, 264, 263, 265, 267, 269, 268, 266, 270, 273, 271, 272, 275, 274, 276, 305, 303, 302, 301, 304, 309, 308, 307, 310, 314, 313, 311, 312, 315]
def ax_psel : List Nat := [63, 160, 78, 96, 80, 97, 105, 82, 83, 18, 19, 20, 23, 21, 22, 24, 25, 26, 15, 16, 17, 79, 165, 167, 166, 168, 169, 40, 42, 43, 170, 171, 172, 125, 119, 173, 174, 57, 60, 29, 30, 182, 199, 179, 184, 183, 194, 190, 189, 185, 188, 192, 193, 196, 195, 197, 198, 294, 278, 291, 277, 290, 288, 285, 284, 191, 187, 186, 286, 287, 280, 289, 282, 283, 279, 293, 295, 292, 201, 219, 213, 214, 212, 210, 211, 203, 204, 236, 218, 208, 205, 206, 207, 216, 217, 241, 209, 224, 223, 298, 300, 221, 299, 225, 235, 233, 232, 229, 231, 228, 227, 226, 230, 234, 215, 248, 256, 255, 254, 252, 253, 251, 261, 263, 268, 266, 271, 272, 274, 303, 302, 301, 304, 308, 307, 313, 311, 312, 1, 49, 50, 38, 127, 85, 86, 128, 87, 129, 77, 90, 91, 88, 93, 94, 101, 103, 102, 98, 100, 3, 104, 7, 2, 69, 64, 70, 67, 66, 68, 65, 14, 95, 99, 107, 108, 109, 110, 71, 6, 4, 111, 130, 131, 112, 116, 115, 117, 120, 132, 5, 133, 134, 113, 114, 135, 136, 118, 137, 138, 8, 52, 139, 9, 140, 75, 141, 72, 142, 39, 44, 45, 46, 143, 47, 144, 73, 145, 146, 147, 148, 10, 149, 121, 123, 124, 150, 151, 152, 153, 122, 154, 155, 56, 51, 58, 59, 74, 61, 156, 28, 157, 32, 158, 159, 177, 178, 200, 202, 237, 238, 239, 240, 242, 243, 244, 245, 246, 247, 249, 257, 258, 259, 260, 262, 264, 265, 267, 269, 270, 273, 275, 276, 305, 309, 310, 314, 315]
def ax_pini : List Nat := [13, 11, 8, 9, 4, 1, 7, 5, 10, 2, 6, 0, 3, 16, 12, 15, 14]
def ax_pnst : List Nat := [11, 8, 9, 4, 1, 7, 5, 10, 2, 6, 0, 3, 12]
def ax_cdw (m : Nat) : Cond := .code (ax_yn m) (ax_yb m) (ax_ml m) (ax_yr m)
def ax_slw (m : Nat) : Cond := .selects (ax_yn m).cls (ax_yn m) (ax_yn m)
set_option maxRecDepth 100000 in
theorem ax_g2 : ax_sub (ax_pstat.map fun m => .static (ax_yn m)) lw_tbl = true ∧ (ax_pstat.map fun m => Cond.static (ax_yn m)).all goodWord = true := by decide +kernel
set_option maxRecDepth 100000 in
theorem ax_g3 : ax_sub (ax_pinst.map fun m => .instanceMethod (ax_yn m)) lw_tbl = true ∧ (ax_pinst.map fun m => Cond.instanceMethod (ax_yn m)).all goodWord = true := by decide +kernel
set_option maxRecDepth 100000 in
theorem ax_g4 : ax_sub (ax_psel.map ax_slw) lw_tbl = true ∧ (ax_psel.map ax_slw).all goodWord = true := by decide +kernel
set_option maxRecDepth 100000 in
theorem ax_g5 : ax_sub (ax_pini.map fun c => .initialized (ax_oc c)) lw_tbl = true ∧ (ax_pini.map fun c => Cond.initialized (ax_oc c)).all goodWord = true := by decide +kernel
set_option maxRecDepth 100000 in
theorem ax_g6 : ax_sub (ax_pnst.map fun c => .instantiable (ax_oc c) (ax_fn c)) lw_tbl = true ∧ (ax_pnst.map fun c => Cond.instantiable (ax_oc c) (ax_fn c)).all goodWord = true := by decide +kernel
