/-! the resolution tables, by the kernel -/
def ax_fw (own : Nat) (r : Nat × Nat × Nat × Nat × Bool × Bool) : Cond := .fieldLink (ax_oc own) r.1 (ax_tx r.2.1 r.2.2.1).1 (ax_tx r.2.1 r.2.2.1).2.1 (ax_tx r.2.1 r.2.2.1).2.2.1
def ax_fwn (own : Nat) (r : Nat × Nat × Nat × Nat × Bool × Bool) : Cond := .fieldLinkNest (ax_oc own) r.1 (ax_tx r.2.1 r.2.2.1).1 (ax_tx r.2.1 r.2.2.1).2.1 (ax_tx r.2.1 r.2.2.1).2.2.1 "TurnedBoards"
def ax_strl : MethodName := ⟨"java/lang/String", "length", "()I"⟩
def ax_strc : MethodName := ⟨"java/lang/String", "charAt", "(I)C"⟩
def ax_yx (m : Nat) : MethodName := if m = 9000 then Lib.objectInit else if m = 9001 then arraycopyName else if m = 9002 then ax_strl else if m = 9003 then ax_strc else ax_yn m
def ax_mw (own : Nat) (r : Nat × Nat × Bool) : Cond := .methodLink (ax_oc own) r.1 (ax_yx r.2.1)
def ax_mwn (own : Nat) (r : Nat × Nat × Bool) : Cond := .methodLinkNest (ax_oc own) r.1 (ax_yx r.2.1) "TurnedBoards"
def ax_fp (own : Nat) : List (Nat × Nat × Nat × Nat × Bool × Bool) := (ax_frT.getD own []).filter (fun r => !r.2.2.2.2.2)
def ax_fq (own : Nat) : List (Nat × Nat × Nat × Nat × Bool × Bool) := (ax_frT.getD own []).filter (fun r => r.2.2.2.2.2)
def ax_mp (own : Nat) : List (Nat × Nat × Bool) := (ax_mrT.getD own []).filter (fun r => !r.2.2)
def ax_mq (own : Nat) : List (Nat × Nat × Bool) := (ax_mrT.getD own []).filter (fun r => r.2.2)
def ax_cp (own : Nat) : List (Nat × Int) := (ax_ctT.getD own []).filterMap (fun r => match r.2 with
  | .inl x => some (r.1, x)
  | _ => none)
def ax_cw (own : Nat) (r : Nat × Int) : Cond := .constant (ax_oc own) r.1 (Int32.ofInt r.2)
def ax_lw (own : Nat) (r : Nat × Int) : Cond := .constantLong (ax_oc own) r.1 (Int64.ofInt r.2)
def ax_nww (own : Nat) (r : Nat × Nat) : Cond := .classLink (ax_oc own) r.1 (ax_oc r.2)
def ax_gs (l : List Cond) : Bool := ax_sub l lw_tbl && l.all goodWord
set_option maxRecDepth 100000 in
theorem ax_h0 : ax_gs ((ax_fp 0).map (ax_fw 0)) = true ∧ ax_sub ((ax_fq 0).map (ax_fwn 0)) lw_tbl = true ∧ ax_gs ((ax_mp 0).map (ax_mw 0)) = true ∧ ax_sub ((ax_mq 0).map (ax_mwn 0)) lw_tbl = true ∧ ax_gs ((ax_cp 0).map (ax_cw 0)) = true ∧ ax_gs ((ax_c2T.getD 0 []).map (ax_lw 0)) = true ∧ ax_gs ((ax_nwT.getD 0 []).map (ax_nww 0)) = true := by decide +kernel
set_option maxRecDepth 100000 in
theorem ax_h1 : ax_gs ((ax_fp 1).map (ax_fw 1)) = true ∧ ax_sub ((ax_fq 1).map (ax_fwn 1)) lw_tbl = true ∧ ax_gs ((ax_mp 1).map (ax_mw 1)) = true ∧ ax_sub ((ax_mq 1).map (ax_mwn 1)) lw_tbl = true ∧ ax_gs ((ax_cp 1).map (ax_cw 1)) = true ∧ ax_gs ((ax_c2T.getD 1 []).map (ax_lw 1)) = true ∧ ax_gs ((ax_nwT.getD 1 []).map (ax_nww 1)) = true := by decide +kernel
set_option maxRecDepth 100000 in
theorem ax_h2 : ax_gs ((ax_fp 2).map (ax_fw 2)) = true ∧ ax_sub ((ax_fq 2).map (ax_fwn 2)) lw_tbl = true ∧ ax_gs ((ax_mp 2).map (ax_mw 2)) = true ∧ ax_sub ((ax_mq 2).map (ax_mwn 2)) lw_tbl = true ∧ ax_gs ((ax_cp 2).map (ax_cw 2)) = true ∧ ax_gs ((ax_c2T.getD 2 []).map (ax_lw 2)) = true ∧ ax_gs ((ax_nwT.getD 2 []).map (ax_nww 2)) = true := by decide +kernel
set_option maxRecDepth 100000 in
theorem ax_h3 : ax_gs ((ax_fp 3).map (ax_fw 3)) = true ∧ ax_sub ((ax_fq 3).map (ax_fwn 3)) lw_tbl = true ∧ ax_gs ((ax_mp 3).map (ax_mw 3)) = true ∧ ax_sub ((ax_mq 3).map (ax_mwn 3)) lw_tbl = true ∧ ax_gs ((ax_cp 3).map (ax_cw 3)) = true ∧ ax_gs ((ax_c2T.getD 3 []).map (ax_lw 3)) = true ∧ ax_gs ((ax_nwT.getD 3 []).map (ax_nww 3)) = true := by decide +kernel
set_option maxRecDepth 100000 in
theorem ax_h4 : ax_gs ((ax_fp 4).map (ax_fw 4)) = true ∧ ax_sub ((ax_fq 4).map (ax_fwn 4)) lw_tbl = true ∧ ax_gs ((ax_mp 4).map (ax_mw 4)) = true ∧ ax_sub ((ax_mq 4).map (ax_mwn 4)) lw_tbl = true ∧ ax_gs ((ax_cp 4).map (ax_cw 4)) = true ∧ ax_gs ((ax_c2T.getD 4 []).map (ax_lw 4)) = true ∧ ax_gs ((ax_nwT.getD 4 []).map (ax_nww 4)) = true := by decide +kernel
set_option maxRecDepth 100000 in
theorem ax_h5 : ax_gs ((ax_fp 5).map (ax_fw 5)) = true ∧ ax_sub ((ax_fq 5).map (ax_fwn 5)) lw_tbl = true ∧ ax_gs ((ax_mp 5).map (ax_mw 5)) = true ∧ ax_sub ((ax_mq 5).map (ax_mwn 5)) lw_tbl = true ∧ ax_gs ((ax_cp 5).map (ax_cw 5)) = true ∧ ax_gs ((ax_c2T.getD 5 []).map (ax_lw 5)) = true ∧ ax_gs ((ax_nwT.getD 5 []).map (ax_nww 5)) = true := by decide +kernel
set_option maxRecDepth 100000 in
theorem ax_h6 : ax_gs ((ax_fp 6).map (ax_fw 6)) = true ∧ ax_sub ((ax_fq 6).map (ax_fwn 6)) lw_tbl = true ∧ ax_gs ((ax_mp 6).map (ax_mw 6)) = true ∧ ax_sub ((ax_mq 6).map (ax_mwn 6)) lw_tbl = true ∧ ax_gs ((ax_cp 6).map (ax_cw 6)) = true ∧ ax_gs ((ax_c2T.getD 6 []).map (ax_lw 6)) = true ∧ ax_gs ((ax_nwT.getD 6 []).map (ax_nww 6)) = true := by decide +kernel
set_option maxRecDepth 100000 in
theorem ax_h7 : ax_gs ((ax_fp 7).map (ax_fw 7)) = true ∧ ax_sub ((ax_fq 7).map (ax_fwn 7)) lw_tbl = true ∧ ax_gs ((ax_mp 7).map (ax_mw 7)) = true ∧ ax_sub ((ax_mq 7).map (ax_mwn 7)) lw_tbl = true ∧ ax_gs ((ax_cp 7).map (ax_cw 7)) = true ∧ ax_gs ((ax_c2T.getD 7 []).map (ax_lw 7)) = true ∧ ax_gs ((ax_nwT.getD 7 []).map (ax_nww 7)) = true := by decide +kernel
set_option maxRecDepth 100000 in
theorem ax_h8 : ax_gs ((ax_fp 8).map (ax_fw 8)) = true ∧ ax_sub ((ax_fq 8).map (ax_fwn 8)) lw_tbl = true ∧ ax_gs ((ax_mp 8).map (ax_mw 8)) = true ∧ ax_sub ((ax_mq 8).map (ax_mwn 8)) lw_tbl = true ∧ ax_gs ((ax_cp 8).map (ax_cw 8)) = true ∧ ax_gs ((ax_c2T.getD 8 []).map (ax_lw 8)) = true ∧ ax_gs ((ax_nwT.getD 8 []).map (ax_nww 8)) = true := by decide +kernel
set_option maxRecDepth 100000 in
theorem ax_h9 : ax_gs ((ax_fp 9).map (ax_fw 9)) = true ∧ ax_sub ((ax_fq 9).map (ax_fwn 9)) lw_tbl = true ∧ ax_gs ((ax_mp 9).map (ax_mw 9)) = true ∧ ax_sub ((ax_mq 9).map (ax_mwn 9)) lw_tbl = true ∧ ax_gs ((ax_cp 9).map (ax_cw 9)) = true ∧ ax_gs ((ax_c2T.getD 9 []).map (ax_lw 9)) = true ∧ ax_gs ((ax_nwT.getD 9 []).map (ax_nww 9)) = true := by decide +kernel
set_option maxRecDepth 100000 in
theorem ax_h10 : ax_gs ((ax_fp 10).map (ax_fw 10)) = true ∧ ax_sub ((ax_fq 10).map (ax_fwn 10)) lw_tbl = true ∧ ax_gs ((ax_mp 10).map (ax_mw 10)) = true ∧ ax_sub ((ax_mq 10).map (ax_mwn 10)) lw_tbl = true ∧ ax_gs ((ax_cp 10).map (ax_cw 10)) = true ∧ ax_gs ((ax_c2T.getD 10 []).map (ax_lw 10)) = true ∧ ax_gs ((ax_nwT.getD 10 []).map (ax_nww 10)) = true := by decide +kernel
set_option maxRecDepth 100000 in
theorem ax_h11 : ax_gs ((ax_fp 11).map (ax_fw 11)) = true ∧ ax_sub ((ax_fq 11).map (ax_fwn 11)) lw_tbl = true ∧ ax_gs ((ax_mp 11).map (ax_mw 11)) = true ∧ ax_sub ((ax_mq 11).map (ax_mwn 11)) lw_tbl = true ∧ ax_gs ((ax_cp 11).map (ax_cw 11)) = true ∧ ax_gs ((ax_c2T.getD 11 []).map (ax_lw 11)) = true ∧ ax_gs ((ax_nwT.getD 11 []).map (ax_nww 11)) = true := by decide +kernel
set_option maxRecDepth 100000 in
theorem ax_h12 : ax_gs ((ax_fp 12).map (ax_fw 12)) = true ∧ ax_sub ((ax_fq 12).map (ax_fwn 12)) lw_tbl = true ∧ ax_gs ((ax_mp 12).map (ax_mw 12)) = true ∧ ax_sub ((ax_mq 12).map (ax_mwn 12)) lw_tbl = true ∧ ax_gs ((ax_cp 12).map (ax_cw 12)) = true ∧ ax_gs ((ax_c2T.getD 12 []).map (ax_lw 12)) = true ∧ ax_gs ((ax_nwT.getD 12 []).map (ax_nww 12)) = true := by decide +kernel
set_option maxRecDepth 100000 in
theorem ax_h13 : ax_gs ((ax_fp 13).map (ax_fw 13)) = true ∧ ax_sub ((ax_fq 13).map (ax_fwn 13)) lw_tbl = true ∧ ax_gs ((ax_mp 13).map (ax_mw 13)) = true ∧ ax_sub ((ax_mq 13).map (ax_mwn 13)) lw_tbl = true ∧ ax_gs ((ax_cp 13).map (ax_cw 13)) = true ∧ ax_gs ((ax_c2T.getD 13 []).map (ax_lw 13)) = true ∧ ax_gs ((ax_nwT.getD 13 []).map (ax_nww 13)) = true := by decide +kernel
set_option maxRecDepth 100000 in
theorem ax_h14 : ax_gs ((ax_fp 14).map (ax_fw 14)) = true ∧ ax_sub ((ax_fq 14).map (ax_fwn 14)) lw_tbl = true ∧ ax_gs ((ax_mp 14).map (ax_mw 14)) = true ∧ ax_sub ((ax_mq 14).map (ax_mwn 14)) lw_tbl = true ∧ ax_gs ((ax_cp 14).map (ax_cw 14)) = true ∧ ax_gs ((ax_c2T.getD 14 []).map (ax_lw 14)) = true ∧ ax_gs ((ax_nwT.getD 14 []).map (ax_nww 14)) = true := by decide +kernel
set_option maxRecDepth 100000 in
theorem ax_h15 : ax_gs ((ax_fp 15).map (ax_fw 15)) = true ∧ ax_sub ((ax_fq 15).map (ax_fwn 15)) lw_tbl = true ∧ ax_gs ((ax_mp 15).map (ax_mw 15)) = true ∧ ax_sub ((ax_mq 15).map (ax_mwn 15)) lw_tbl = true ∧ ax_gs ((ax_cp 15).map (ax_cw 15)) = true ∧ ax_gs ((ax_c2T.getD 15 []).map (ax_lw 15)) = true ∧ ax_gs ((ax_nwT.getD 15 []).map (ax_nww 15)) = true := by decide +kernel
set_option maxRecDepth 100000 in
theorem ax_h16 : ax_gs ((ax_fp 16).map (ax_fw 16)) = true ∧ ax_sub ((ax_fq 16).map (ax_fwn 16)) lw_tbl = true ∧ ax_gs ((ax_mp 16).map (ax_mw 16)) = true ∧ ax_sub ((ax_mq 16).map (ax_mwn 16)) lw_tbl = true ∧ ax_gs ((ax_cp 16).map (ax_cw 16)) = true ∧ ax_gs ((ax_c2T.getD 16 []).map (ax_lw 16)) = true ∧ ax_gs ((ax_nwT.getD 16 []).map (ax_nww 16)) = true := by decide +kernel
set_option maxRecDepth 100000 in
theorem ax_hc0 : ax_gs (u_ws (ax_oc 0) (ax_tx 0) (ax_fn 0)) = true := by decide +kernel
set_option maxRecDepth 100000 in
theorem ax_hc1 : ax_gs (u_ws (ax_oc 1) (ax_tx 1) (ax_fn 1)) = true := by decide +kernel
set_option maxRecDepth 100000 in
theorem ax_hc2 : ax_gs (u_ws (ax_oc 2) (ax_tx 2) (ax_fn 2)) = true := by decide +kernel
set_option maxRecDepth 100000 in
theorem ax_hc3 : ax_gs (u_ws (ax_oc 3) (ax_tx 3) (ax_fn 3)) = true := by decide +kernel
set_option maxRecDepth 100000 in
theorem ax_hc4 : ax_gs (u_ws (ax_oc 4) (ax_tx 4) (ax_fn 4)) = true := by decide +kernel
set_option maxRecDepth 100000 in
theorem ax_hc5 : ax_gs (u_ws (ax_oc 5) (ax_tx 5) (ax_fn 5)) = true := by decide +kernel
set_option maxRecDepth 100000 in
theorem ax_hc6 : ax_gs (u_ws (ax_oc 6) (ax_tx 6) (ax_fn 6)) = true := by decide +kernel
set_option maxRecDepth 100000 in
theorem ax_hc7 : ax_gs (u_ws (ax_oc 7) (ax_tx 7) (ax_fn 7)) = true := by decide +kernel
set_option maxRecDepth 100000 in
theorem ax_hc8 : ax_gs (u_ws (ax_oc 8) (ax_tx 8) (ax_fn 8)) = true := by decide +kernel
set_option maxRecDepth 100000 in
theorem ax_hc9 : ax_gs (u_ws (ax_oc 9) (ax_tx 9) (ax_fn 9)) = true := by decide +kernel
set_option maxRecDepth 100000 in
theorem ax_hc10 : ax_gs (u_ws (ax_oc 10) (ax_tx 10) (ax_fn 10)) = true := by decide +kernel
set_option maxRecDepth 100000 in
theorem ax_hc11 : ax_gs (u_ws (ax_oc 11) (ax_tx 11) (ax_fn 11)) = true := by decide +kernel
set_option maxRecDepth 100000 in
theorem ax_hc12 : ax_gs (u_ws (ax_oc 12) (ax_tx 12) (ax_fn 12)) = true := by decide +kernel
