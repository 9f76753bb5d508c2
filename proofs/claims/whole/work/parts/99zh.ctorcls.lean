/-! THE CONSTRUCTOR of TurnedBoards, run over the abstract machine (printed by gen_ctor.py) -/
def yc_K0 : Nat → Nat × Nat := fun _ => (11, 0)
def yc_I0 : Nat → Nat → Int := fun _ _ => 0
def yc_J0 : Nat → Nat → Int := fun _ _ => 0
def yc_R0 : Nat → Nat → Option Nat := fun _ _ => none
def yc_l0 : Nat := 10
def yc_s0 : ax_S := (1, yc_l0, yc_K0, yc_I0, yc_J0, yc_R0)
def yc_K1 : Nat → Nat × Nat := (fun i => if i = 1 then (8, 0) else yc_K0 i)
def yc_I1 : Nat → Nat → Int := (fun i j => if i = 1 then 0 else yc_I0 i j)
def yc_J1 : Nat → Nat → Int := (fun i j => if i = 1 then 0 else yc_J0 i j)
def yc_R1 : Nat → Nat → Option Nat := (fun i j => if i = 1 then none else yc_R0 i j)
def yc_l1 : Nat := (yc_l0 + 2)
def yc_s1 : ax_S := (2, yc_l1, yc_K1, yc_I1, yc_J1, yc_R1)
def yc_K2 : Nat → Nat × Nat := (fun i => if i = 2 then (22, (ax_w 1600).toNat) else yc_K1 i)
def yc_I2 : Nat → Nat → Int := (fun i j => if i = 2 then 0 else yc_I1 i j)
def yc_J2 : Nat → Nat → Int := (fun i j => if i = 2 then 0 else yc_J1 i j)
def yc_R2 : Nat → Nat → Option Nat := (ax_u (fun i j => if i = 2 then none else yc_R1 i j) 1 0 (some 2))
def yc_l2 : Nat := (yc_l1 + (ax_w 1600).toNat)
def yc_s2 : ax_S := (3, yc_l2, yc_K2, yc_I2, yc_J2, yc_R2)
def yc_K3 : Nat → Nat × Nat := (fun i => if i = 3 then (9, 0) else yc_K2 i)
def yc_I3 : Nat → Nat → Int := (fun i j => if i = 3 then 0 else yc_I2 i j)
def yc_J3 : Nat → Nat → Int := (fun i j => if i = 3 then 0 else yc_J2 i j)
def yc_R3 : Nat → Nat → Option Nat := (fun i j => if i = 3 then none else (ax_u yc_R2 0 0 (some 1)) i j)
def yc_l3 : Nat := (yc_l2 + 8)
def yc_s3 : ax_S := (4, yc_l3, yc_K3, yc_I3, yc_J3, yc_R3)
def yc_I4 : Nat → Nat → Int := (ax_u yc_I3 3 7 (-1))
def yc_R4 : Nat → Nat → Option Nat := (ax_u yc_R3 3 0 (some 1))
def yc_s4 : ax_S := (4, yc_l3, yc_K3, yc_I4, yc_J3, yc_R4)
def yc_K5 : Nat → Nat × Nat := (fun i => if i = 4 then (4, 0) else yc_K3 i)
def yc_I5 : Nat → Nat → Int := (fun i j => if i = 4 then 0 else yc_I4 i j)
def yc_J5 : Nat → Nat → Int := (fun i j => if i = 4 then 0 else yc_J3 i j)
def yc_R5 : Nat → Nat → Option Nat := (fun i j => if i = 4 then none else (ax_u yc_R4 0 1 (some 3)) i j)
def yc_l5 : Nat := (yc_l3 + 3)
def yc_s5 : ax_S := (5, yc_l5, yc_K5, yc_I5, yc_J5, yc_R5)
def yc_K6 : Nat → Nat × Nat := (fun i => if i = 6 then (20, (ax_w 64).toNat) else (fun i => if i = 5 then (20, (ax_w 1600).toNat) else yc_K5 i) i)
def yc_I6 : Nat → Nat → Int := (fun i j => if i = 6 then 0 else (fun i j => if i = 5 then 0 else yc_I5 i j) i j)
def yc_J6 : Nat → Nat → Int := (fun i j => if i = 6 then 0 else (fun i j => if i = 5 then 0 else yc_J5 i j) i j)
def yc_R6 : Nat → Nat → Option Nat := (ax_u (fun i j => if i = 6 then none else (ax_u (fun i j => if i = 5 then none else yc_R5 i j) 4 0 (some 5)) i j) 4 1 (some 6))
def yc_l6 : Nat := ((yc_l5 + (ax_w 1600).toNat) + (ax_w 64).toNat)
def yc_s6 : ax_S := (7, yc_l6, yc_K6, yc_I6, yc_J6, yc_R6)
def yc_K7 : Nat → Nat × Nat := (fun i => if i = 7 then (1, 0) else yc_K6 i)
def yc_I7 : Nat → Nat → Int := (fun i j => if i = 7 then 0 else yc_I6 i j)
def yc_J7 : Nat → Nat → Int := (fun i j => if i = 7 then 0 else yc_J6 i j)
def yc_R7 : Nat → Nat → Option Nat := (fun i j => if i = 7 then none else yc_R6 i j)
def yc_l7 : Nat := (yc_l6 + 3)
def yc_s7 : ax_S := (8, yc_l7, yc_K7, yc_I7, yc_J7, yc_R7)
def yc_R8 : Nat → Nat → Option Nat := (ax_u (ax_u yc_R7 7 0 (some 3)) 7 1 (some 4))
def yc_s8 : ax_S := (8, yc_l7, yc_K7, yc_I7, yc_J7, yc_R8)
def yc_K9 : Nat → Nat × Nat := (fun i => if i = 8 then (7, 0) else yc_K7 i)
def yc_I9 : Nat → Nat → Int := (fun i j => if i = 8 then 0 else yc_I7 i j)
def yc_J9 : Nat → Nat → Int := (fun i j => if i = 8 then 0 else yc_J7 i j)
def yc_R9 : Nat → Nat → Option Nat := (fun i j => if i = 8 then none else yc_R8 i j)
def yc_l9 : Nat := (yc_l7 + 5)
def yc_s9 : ax_S := (9, yc_l9, yc_K9, yc_I9, yc_J9, yc_R9)
def yc_K10 : Nat → Nat × Nat := (fun i => if i = 9 then (20, (ax_w 6).toNat) else yc_K9 i)
def yc_I10 : Nat → Nat → Int := (fun i j => if i = 9 then 0 else yc_I9 i j)
def yc_J10 : Nat → Nat → Int := (fun i j => if i = 9 then 0 else yc_J9 i j)
def yc_R10 : Nat → Nat → Option Nat := (ax_u (ax_u (ax_u (fun i j => if i = 9 then none else yc_R9 i j) 8 2 (some 9)) 8 0 (some 3)) 8 1 (some 7))
def yc_l10 : Nat := (yc_l9 + (ax_w 6).toNat)
def yc_s10 : ax_S := (10, yc_l10, yc_K10, yc_I10, yc_J10, yc_R10)
def yc_K11 : Nat → Nat × Nat := (fun i => if i = 10 then (5, 0) else yc_K10 i)
def yc_I11 : Nat → Nat → Int := (fun i j => if i = 10 then 0 else yc_I10 i j)
def yc_J11 : Nat → Nat → Int := (fun i j => if i = 10 then 0 else yc_J10 i j)
def yc_R11 : Nat → Nat → Option Nat := (fun i j => if i = 10 then none else (ax_u yc_R10 0 2 (some 8)) i j)
def yc_l11 : Nat := (yc_l10 + 8)
def yc_s11 : ax_S := (11, yc_l11, yc_K11, yc_I11, yc_J11, yc_R11)
def yc_K12 : Nat → Nat × Nat := (fun i => if i = 11 then (20, (ax_w 24).toNat) else yc_K11 i)
def yc_I12 : Nat → Nat → Int := (fun i j => if i = 11 then 0 else yc_I11 i j)
def yc_J12 : Nat → Nat → Int := (fun i j => if i = 11 then 0 else yc_J11 i j)
def yc_R12 : Nat → Nat → Option Nat := (ax_u (ax_u (ax_u (ax_u (fun i j => if i = 11 then none else yc_R11 i j) 10 3 (some 11)) 10 0 (some 3)) 10 1 (some 7)) 10 2 (some 4))
def yc_l12 : Nat := (yc_l11 + (ax_w 24).toNat)
def yc_s12 : ax_S := (12, yc_l12, yc_K12, yc_I12, yc_J12, yc_R12)
def yc_K13 : Nat → Nat × Nat := (fun i => if i = 12 then (10, 0) else yc_K12 i)
def yc_I13 : Nat → Nat → Int := (fun i j => if i = 12 then 0 else yc_I12 i j)
def yc_J13 : Nat → Nat → Int := (fun i j => if i = 12 then 0 else yc_J12 i j)
def yc_R13 : Nat → Nat → Option Nat := (fun i j => if i = 12 then none else (ax_u yc_R12 0 3 (some 10)) i j)
def yc_l13 : Nat := (yc_l12 + 5)
def yc_s13 : ax_S := (13, yc_l13, yc_K13, yc_I13, yc_J13, yc_R13)
def yc_K14 : Nat → Nat × Nat := (fun i => if i < 15 then (fun i => if i = 14 then (20, (ax_w 74).toNat) else (fun i => if i = 13 then (20, (ax_w 74).toNat) else yc_K13 i) i) i else if i = 15 then (24, (ax_w 20).toNat) else if i < 15 + (1 + (ax_w 20).toNat) then (20, (ax_w 74).toNat) else (fun i => if i = 14 then (20, (ax_w 74).toNat) else (fun i => if i = 13 then (20, (ax_w 74).toNat) else yc_K13 i) i) i)
def yc_I14 : Nat → Nat → Int := (fun i j => if i < 15 then (fun i j => if i = 14 then 0 else (fun i j => if i = 13 then 0 else yc_I13 i j) i j) i j else if i < 15 + (1 + (ax_w 20).toNat) then 0 else (fun i j => if i = 14 then 0 else (fun i j => if i = 13 then 0 else yc_I13 i j) i j) i j)
def yc_J14 : Nat → Nat → Int := (fun i j => if i < 15 then (fun i j => if i = 14 then 0 else (fun i j => if i = 13 then 0 else yc_J13 i j) i j) i j else if i < 15 + (1 + (ax_w 20).toNat) then 0 else (fun i j => if i = 14 then 0 else (fun i j => if i = 13 then 0 else yc_J13 i j) i j) i j)
def yc_R14 : Nat → Nat → Option Nat := (ax_u (fun i j => if i < 15 then (ax_u (fun i j => if i = 14 then none else (ax_u (fun i j => if i = 13 then none else yc_R13 i j) 12 0 (some 13)) i j) 12 1 (some 14)) i j else if i = 15 then (if j < (ax_w 20).toNat then some (15 + 1 + j) else none) else if i < 15 + (1 + (ax_w 20).toNat) then none else (ax_u (fun i j => if i = 14 then none else (ax_u (fun i j => if i = 13 then none else yc_R13 i j) 12 0 (some 13)) i j) 12 1 (some 14)) i j) 12 2 (some 15))
def yc_l14 : Nat := (((yc_l13 + (ax_w 74).toNat) + (ax_w 74).toNat) + ((ax_w 20).toNat + (ax_w 20).toNat * (ax_w 74).toNat))
def yc_s14 : ax_S := (36, yc_l14, yc_K14, yc_I14, yc_J14, yc_R14)
def yc_K15 : Nat → Nat × Nat := (fun i => if i = 36 then (2, 0) else yc_K14 i)
def yc_I15 : Nat → Nat → Int := (fun i j => if i = 36 then 0 else yc_I14 i j)
def yc_J15 : Nat → Nat → Int := (fun i j => if i = 36 then 0 else yc_J14 i j)
def yc_R15 : Nat → Nat → Option Nat := (fun i j => if i = 36 then none else (ax_u yc_R14 0 4 (some 12)) i j)
def yc_l15 : Nat := (yc_l14 + 3)
def yc_s15 : ax_S := (37, yc_l15, yc_K15, yc_I15, yc_J15, yc_R15)
def yc_K16 : Nat → Nat × Nat := (fun i => if i = 37 then (20, (ax_w 59).toNat) else yc_K15 i)
def yc_I16 : Nat → Nat → Int := (fun i j => if i = 37 then 0 else yc_I15 i j)
def yc_J16 : Nat → Nat → Int := (fun i j => if i = 37 then 0 else yc_J15 i j)
def yc_R16 : Nat → Nat → Option Nat := (ax_u (fun i j => if i = 37 then none else yc_R15 i j) 36 0 (some 37))
def yc_l16 : Nat := (yc_l15 + (ax_w 59).toNat)
def yc_s16 : ax_S := (38, yc_l16, yc_K16, yc_I16, yc_J16, yc_R16)
def yc_K17 : Nat → Nat × Nat := (fun i => if i = 39 then (6, 0) else (fun i => if i = 38 then (20, (ax_w 6).toNat) else yc_K16 i) i)
def yc_I17 : Nat → Nat → Int := (fun i j => if i = 39 then 0 else (fun i j => if i = 38 then 0 else yc_I16 i j) i j)
def yc_J17 : Nat → Nat → Int := (fun i j => if i = 39 then 0 else (fun i j => if i = 38 then 0 else yc_J16 i j) i j)
def yc_R17 : Nat → Nat → Option Nat := (fun i j => if i = 39 then none else (ax_u (fun i j => if i = 38 then none else (ax_u yc_R16 0 5 (some 36)) i j) 0 6 (some 38)) i j)
def yc_l17 : Nat := ((yc_l16 + (ax_w 6).toNat) + 15)
def yc_s17 : ax_S := (40, yc_l17, yc_K17, yc_I17, yc_J17, yc_R17)
def yc_K18 : Nat → Nat × Nat := (fun i => if i = 40 then (0, 0) else yc_K17 i)
def yc_I18 : Nat → Nat → Int := (fun i j => if i = 40 then 0 else yc_I17 i j)
def yc_J18 : Nat → Nat → Int := (fun i j => if i = 40 then 0 else yc_J17 i j)
def yc_R18 : Nat → Nat → Option Nat := (fun i j => if i = 40 then none else yc_R17 i j)
def yc_l18 : Nat := (yc_l17 + 6)
def yc_s18 : ax_S := (41, yc_l18, yc_K18, yc_I18, yc_J18, yc_R18)
def yc_K19 : Nat → Nat × Nat := (fun i => if i = 45 then (4, 0) else (fun i => if i = 44 then (20, (ax_w 24).toNat) else (fun i => if i = 43 then (20, (ax_w 24).toNat) else (fun i => if i = 42 then (20, (ax_w 24).toNat) else (fun i => if i = 41 then (20, (ax_w 2).toNat) else yc_K18 i) i) i) i) i)
def yc_I19 : Nat → Nat → Int := (fun i j => if i = 45 then 0 else (fun i j => if i = 44 then 0 else (fun i j => if i = 43 then 0 else (fun i j => if i = 42 then 0 else (fun i j => if i = 41 then 0 else yc_I18 i j) i j) i j) i j) i j)
def yc_J19 : Nat → Nat → Int := (fun i j => if i = 45 then 0 else (fun i j => if i = 44 then 0 else (fun i j => if i = 43 then 0 else (fun i j => if i = 42 then 0 else (fun i j => if i = 41 then 0 else yc_J18 i j) i j) i j) i j) i j)
def yc_R19 : Nat → Nat → Option Nat := (fun i j => if i = 45 then none else (ax_u (fun i j => if i = 44 then none else (ax_u (fun i j => if i = 43 then none else (ax_u (fun i j => if i = 42 then none else (ax_u (fun i j => if i = 41 then none else yc_R18 i j) 40 0 (some 41)) i j) 40 1 (some 42)) i j) 40 2 (some 43)) i j) 40 3 (some 44)) i j)
def yc_l19 : Nat := (((((yc_l18 + (ax_w 2).toNat) + (ax_w 24).toNat) + (ax_w 24).toNat) + (ax_w 24).toNat) + 3)
def yc_s19 : ax_S := (46, yc_l19, yc_K19, yc_I19, yc_J19, yc_R19)
def yc_K20 : Nat → Nat × Nat := (fun i => if i = 47 then (20, (ax_w 64).toNat) else (fun i => if i = 46 then (20, (ax_w 1600).toNat) else yc_K19 i) i)
def yc_I20 : Nat → Nat → Int := (fun i j => if i = 47 then 0 else (fun i j => if i = 46 then 0 else yc_I19 i j) i j)
def yc_J20 : Nat → Nat → Int := (fun i j => if i = 47 then 0 else (fun i j => if i = 46 then 0 else yc_J19 i j) i j)
def yc_R20 : Nat → Nat → Option Nat := (ax_u (fun i j => if i = 47 then none else (ax_u (fun i j => if i = 46 then none else yc_R19 i j) 45 0 (some 46)) i j) 45 1 (some 47))
def yc_l20 : Nat := ((yc_l19 + (ax_w 1600).toNat) + (ax_w 64).toNat)
def yc_s20 : ax_S := (48, yc_l20, yc_K20, yc_I20, yc_J20, yc_R20)
def yc_R21 : Nat → Nat → Option Nat := (ax_u yc_R20 40 4 (some 45))
def yc_s21 : ax_S := (48, yc_l20, yc_K20, yc_I20, yc_J20, yc_R21)
def yc_K22 : Nat → Nat × Nat := (fun i => if i = 48 then (3, 0) else yc_K20 i)
def yc_I22 : Nat → Nat → Int := (fun i j => if i = 48 then 0 else yc_I20 i j)
def yc_J22 : Nat → Nat → Int := (fun i j => if i = 48 then 0 else yc_J20 i j)
def yc_R22 : Nat → Nat → Option Nat := (fun i j => if i = 48 then none else (ax_u yc_R21 39 0 (some 40)) i j)
def yc_l22 : Nat := (yc_l20 + 13)
def yc_s22 : ax_S := (49, yc_l22, yc_K22, yc_I22, yc_J22, yc_R22)
def yc_K23 : Nat → Nat × Nat := (fun i => if i = 53 then (20, (ax_w 49).toNat) else (fun i => if i = 52 then (20, (ax_w 6).toNat) else (fun i => if i = 51 then (20, (ax_w 6).toNat) else (fun i => if i = 50 then (20, (ax_w 6).toNat) else (fun i => if i = 49 then (20, (ax_w 6).toNat) else yc_K22 i) i) i) i) i)
def yc_I23 : Nat → Nat → Int := (fun i j => if i = 53 then 0 else (fun i j => if i = 52 then 0 else (fun i j => if i = 51 then 0 else (fun i j => if i = 50 then 0 else (fun i j => if i = 49 then 0 else yc_I22 i j) i j) i j) i j) i j)
def yc_J23 : Nat → Nat → Int := (fun i j => if i = 53 then 0 else (fun i j => if i = 52 then 0 else (fun i j => if i = 51 then 0 else (fun i j => if i = 50 then 0 else (fun i j => if i = 49 then 0 else yc_J22 i j) i j) i j) i j) i j)
def yc_R23 : Nat → Nat → Option Nat := (ax_u (fun i j => if i = 53 then none else (ax_u (fun i j => if i = 52 then none else (ax_u (fun i j => if i = 51 then none else (ax_u (fun i j => if i = 50 then none else (ax_u (fun i j => if i = 49 then none else yc_R22 i j) 48 0 (some 49)) i j) 48 1 (some 50)) i j) 48 2 (some 51)) i j) 48 3 (some 52)) i j) 48 4 (some 53))
def yc_l23 : Nat := (((((yc_l22 + (ax_w 6).toNat) + (ax_w 6).toNat) + (ax_w 6).toNat) + (ax_w 6).toNat) + (ax_w 49).toNat)
def yc_s23 : ax_S := (54, yc_l23, yc_K23, yc_I23, yc_J23, yc_R23)
def yc_K24 : Nat → Nat × Nat := (fun i => if i = 57 then (20, (ax_w 12).toNat) else (fun i => if i = 56 then (20, (ax_w 12).toNat) else (fun i => if i = 55 then (20, (ax_w 49).toNat) else (fun i => if i = 54 then (20, (ax_w 49).toNat) else yc_K23 i) i) i) i)
def yc_I24 : Nat → Nat → Int := (ax_u (ax_u (ax_u (fun i j => if i = 57 then 0 else (fun i j => if i = 56 then 0 else (fun i j => if i = 55 then 0 else (fun i j => if i = 54 then 0 else yc_I23 i j) i j) i j) i j) 48 10 (-1)) 48 11 (-1)) 48 12 (-1))
def yc_J24 : Nat → Nat → Int := (fun i j => if i = 57 then 0 else (fun i j => if i = 56 then 0 else (fun i j => if i = 55 then 0 else (fun i j => if i = 54 then 0 else yc_J23 i j) i j) i j) i j)
def yc_R24 : Nat → Nat → Option Nat := (ax_u (fun i j => if i = 57 then none else (ax_u (fun i j => if i = 56 then none else (ax_u (fun i j => if i = 55 then none else (ax_u (fun i j => if i = 54 then none else yc_R23 i j) 48 5 (some 54)) i j) 48 6 (some 55)) i j) 48 7 (some 56)) i j) 48 8 (some 57))
def yc_l24 : Nat := ((((yc_l23 + (ax_w 49).toNat) + (ax_w 49).toNat) + (ax_w 12).toNat) + (ax_w 12).toNat)
def yc_s24 : ax_S := (58, yc_l24, yc_K24, yc_I24, yc_J24, yc_R24)
def yc_K25 : Nat → Nat × Nat := (fun i => if i = 58 then (4, 0) else yc_K24 i)
def yc_I25 : Nat → Nat → Int := (fun i j => if i = 58 then 0 else yc_I24 i j)
def yc_J25 : Nat → Nat → Int := (fun i j => if i = 58 then 0 else yc_J24 i j)
def yc_R25 : Nat → Nat → Option Nat := (fun i j => if i = 58 then none else (ax_u yc_R24 39 1 (some 48)) i j)
def yc_l25 : Nat := (yc_l24 + 3)
def yc_s25 : ax_S := (59, yc_l25, yc_K25, yc_I25, yc_J25, yc_R25)
def yc_K26 : Nat → Nat × Nat := (fun i => if i = 60 then (20, (ax_w 64).toNat) else (fun i => if i = 59 then (20, (ax_w 1600).toNat) else yc_K25 i) i)
def yc_I26 : Nat → Nat → Int := (fun i j => if i = 60 then 0 else (fun i j => if i = 59 then 0 else yc_I25 i j) i j)
def yc_J26 : Nat → Nat → Int := (fun i j => if i = 60 then 0 else (fun i j => if i = 59 then 0 else yc_J25 i j) i j)
def yc_R26 : Nat → Nat → Option Nat := (ax_u (fun i j => if i = 60 then none else (ax_u (fun i j => if i = 59 then none else yc_R25 i j) 58 0 (some 59)) i j) 58 1 (some 60))
def yc_l26 : Nat := ((yc_l25 + (ax_w 1600).toNat) + (ax_w 64).toNat)
def yc_s26 : ax_S := (61, yc_l26, yc_K26, yc_I26, yc_J26, yc_R26)
def yc_K27 : Nat → Nat × Nat := (fun i => if i = 66 then (20, (ax_w 6).toNat) else (fun i => if i = 65 then (20, (ax_w 4).toNat) else (fun i => if i = 64 then (20, (ax_w 4).toNat) else (fun i => if i = 63 then (20, (ax_w 48).toNat) else (fun i => if i = 62 then (20, (ax_w 8).toNat) else (fun i => if i = 61 then (20, (ax_w 24).toNat) else yc_K26 i) i) i) i) i) i)
def yc_I27 : Nat → Nat → Int := (fun i j => if i = 66 then 0 else (fun i j => if i = 65 then 0 else (fun i j => if i = 64 then 0 else (fun i j => if i = 63 then 0 else (fun i j => if i = 62 then 0 else (fun i j => if i = 61 then 0 else yc_I26 i j) i j) i j) i j) i j) i j)
def yc_J27 : Nat → Nat → Int := (fun i j => if i = 66 then 0 else (fun i j => if i = 65 then 0 else (fun i j => if i = 64 then 0 else (fun i j => if i = 63 then 0 else (fun i j => if i = 62 then 0 else (fun i j => if i = 61 then 0 else yc_J26 i j) i j) i j) i j) i j) i j)
def yc_R27 : Nat → Nat → Option Nat := (fun i j => if i = 66 then none else (ax_u (fun i j => if i = 65 then none else (ax_u (fun i j => if i = 64 then none else (ax_u (fun i j => if i = 63 then none else (ax_u (fun i j => if i = 62 then none else (ax_u (fun i j => if i = 61 then none else (ax_u yc_R26 39 2 (some 58)) i j) 39 3 (some 61)) i j) 39 4 (some 62)) i j) 39 5 (some 63)) i j) 39 6 (some 64)) i j) 39 7 (some 65)) i j)
def yc_l27 : Nat := ((((((yc_l26 + (ax_w 24).toNat) + (ax_w 8).toNat) + (ax_w 48).toNat) + (ax_w 4).toNat) + (ax_w 4).toNat) + (ax_w 6).toNat)
def yc_s27 : ax_S := (67, yc_l27, yc_K27, yc_I27, yc_J27, yc_R27)
def yc_K28 : Nat → Nat × Nat := (fun i => if i = 67 then (20, (ax_w 64).toNat) else yc_K27 i)
def yc_I28 : Nat → Nat → Int := (fun i j => if i = 67 then 0 else yc_I27 i j)
def yc_J28 : Nat → Nat → Int := (fun i j => if i = 67 then 0 else yc_J27 i j)
def yc_R28 : Nat → Nat → Option Nat := (ax_u (fun i j => if i = 67 then none else (ax_u yc_R27 39 8 (some 66)) i j) 39 9 (some 67))
def yc_l28 : Nat := (yc_l27 + (ax_w 64).toNat)
def yc_s28 : ax_S := (68, yc_l28, yc_K28, yc_I28, yc_J28, yc_R28)
def yc_I29 : Nat → Nat → Int := (ax_u (ax_u yc_I28 41 (ax_w 0).toNat 0) 41 (ax_w 1).toNat 0)
def yc_s29 : ax_S := (68, yc_l28, yc_K28, yc_I29, yc_J28, yc_R28)
def yc_I30 : Nat → Nat → Int := (ax_u yc_I29 40 5 2)
def yc_s30 : ax_S := (68, yc_l28, yc_K28, yc_I30, yc_J28, yc_R28)
def yc_I31 : Nat → Nat → Int := (ax_u yc_I30 45 2 0)
def yc_s31 : ax_S := (68, yc_l28, yc_K28, yc_I31, yc_J28, yc_R28)
def yc_I32 : Nat → Nat → Int := (ax_u (ax_u yc_I31 46 (ax_w 0).toNat (ax_or (ax_shl 0 4) 1)) 45 2 1)
def yc_s32 : ax_S := (68, yc_l28, yc_K28, yc_I32, yc_J28, yc_R28)
def yc_I33 : Nat → Nat → Int := (ax_u (ax_u yc_I32 46 (ax_w 1).toNat (ax_or (ax_shl 1 4) 1)) 45 2 2)
def yc_s33 : ax_S := (68, yc_l28, yc_K28, yc_I33, yc_J28, yc_R28)
def yc_I34 : Nat → Nat → Int := (ax_u (ax_u yc_I33 46 (ax_w 2).toNat (ax_or (ax_shl 2 4) 0)) 45 2 3)
def yc_s34 : ax_S := (68, yc_l28, yc_K28, yc_I34, yc_J28, yc_R28)
def yc_I35 : Nat → Nat → Int := (ax_u (ax_u yc_I34 46 (ax_w 3).toNat (ax_or (ax_shl 0 4) 7)) 45 2 4)
def yc_s35 : ax_S := (68, yc_l28, yc_K28, yc_I35, yc_J28, yc_R28)
def yc_I36 : Nat → Nat → Int := (ax_u (ax_u yc_I35 46 (ax_w 4).toNat (ax_or (ax_shl 0 4) 5)) 45 2 5)
def yc_s36 : ax_S := (68, yc_l28, yc_K28, yc_I36, yc_J28, yc_R28)
def yc_I37 : Nat → Nat → Int := (ax_u yc_I36 48 10 (-1))
def yc_s37 : ax_S := (68, yc_l28, yc_K28, yc_I37, yc_J28, yc_R28)
def yc_I38 : Nat → Nat → Int := (ax_u yc_I37 58 2 0)
def yc_s38 : ax_S := (68, yc_l28, yc_K28, yc_I38, yc_J28, yc_R28)
def yc_I39 : Nat → Nat → Int := (ax_u (ax_u yc_I38 67 (ax_w 0).toNat (-1)) 67 (ax_w 1).toNat (-1))
def yc_s39 : ax_S := (68, yc_l28, yc_K28, yc_I39, yc_J28, yc_R28)
def yc_I40 : Nat → Nat → Int := (ax_u (ax_u (ax_u yc_I39 67 (ax_w 2).toNat (-1)) 67 (ax_w 3).toNat (-1)) 67 (ax_w 4).toNat (-1))
def yc_s40 : ax_S := (68, yc_l28, yc_K28, yc_I40, yc_J28, yc_R28)
def yc_I41 : Nat → Nat → Int := (ax_u (ax_u yc_I40 67 (ax_w 5).toNat (-1)) 67 (ax_w 6).toNat (-1))
def yc_s41 : ax_S := (68, yc_l28, yc_K28, yc_I41, yc_J28, yc_R28)
def yc_I42 : Nat → Nat → Int := (ax_u (ax_u (ax_u yc_I41 67 (ax_w 7).toNat (-1)) 67 (ax_w 8).toNat (-1)) 67 (ax_w 9).toNat (-1))
def yc_s42 : ax_S := (68, yc_l28, yc_K28, yc_I42, yc_J28, yc_R28)
def yc_I43 : Nat → Nat → Int := (ax_u (ax_u (ax_u yc_I42 67 (ax_w 10).toNat (-1)) 67 (ax_w 11).toNat (-1)) 67 (ax_w 12).toNat (-1))
def yc_s43 : ax_S := (68, yc_l28, yc_K28, yc_I43, yc_J28, yc_R28)
def yc_I44 : Nat → Nat → Int := (ax_u (ax_u yc_I43 67 (ax_w 13).toNat (-1)) 67 (ax_w 14).toNat (-1))
def yc_s44 : ax_S := (68, yc_l28, yc_K28, yc_I44, yc_J28, yc_R28)
def yc_I45 : Nat → Nat → Int := (ax_u (ax_u (ax_u yc_I44 67 (ax_w 15).toNat (-1)) 67 (ax_w 16).toNat (-1)) 67 (ax_w 17).toNat (-1))
def yc_s45 : ax_S := (68, yc_l28, yc_K28, yc_I45, yc_J28, yc_R28)
def yc_I46 : Nat → Nat → Int := (ax_u (ax_u (ax_u yc_I45 67 (ax_w 18).toNat (-1)) 67 (ax_w 19).toNat (-1)) 67 (ax_w 20).toNat (-1))
def yc_s46 : ax_S := (68, yc_l28, yc_K28, yc_I46, yc_J28, yc_R28)
def yc_I47 : Nat → Nat → Int := (ax_u (ax_u yc_I46 67 (ax_w 21).toNat (-1)) 67 (ax_w 22).toNat (-1))
def yc_s47 : ax_S := (68, yc_l28, yc_K28, yc_I47, yc_J28, yc_R28)
def yc_I48 : Nat → Nat → Int := (ax_u (ax_u (ax_u yc_I47 67 (ax_w 23).toNat (-1)) 67 (ax_w 24).toNat (-1)) 67 (ax_w 25).toNat (-1))
def yc_s48 : ax_S := (68, yc_l28, yc_K28, yc_I48, yc_J28, yc_R28)
def yc_I49 : Nat → Nat → Int := (ax_u (ax_u (ax_u yc_I48 67 (ax_w 26).toNat (-1)) 67 (ax_w 27).toNat (-1)) 67 (ax_w 28).toNat (-1))
def yc_s49 : ax_S := (68, yc_l28, yc_K28, yc_I49, yc_J28, yc_R28)
def yc_I50 : Nat → Nat → Int := (ax_u (ax_u yc_I49 67 (ax_w 29).toNat (-1)) 67 (ax_w 30).toNat (-1))
def yc_s50 : ax_S := (68, yc_l28, yc_K28, yc_I50, yc_J28, yc_R28)
def yc_I51 : Nat → Nat → Int := (ax_u (ax_u (ax_u yc_I50 67 (ax_w 31).toNat (-1)) 67 (ax_w 32).toNat (-1)) 67 (ax_w 33).toNat (-1))
def yc_s51 : ax_S := (68, yc_l28, yc_K28, yc_I51, yc_J28, yc_R28)
def yc_I52 : Nat → Nat → Int := (ax_u (ax_u (ax_u yc_I51 67 (ax_w 34).toNat (-1)) 67 (ax_w 35).toNat (-1)) 67 (ax_w 36).toNat (-1))
def yc_s52 : ax_S := (68, yc_l28, yc_K28, yc_I52, yc_J28, yc_R28)
def yc_I53 : Nat → Nat → Int := (ax_u (ax_u yc_I52 67 (ax_w 37).toNat (-1)) 67 (ax_w 38).toNat (-1))
def yc_s53 : ax_S := (68, yc_l28, yc_K28, yc_I53, yc_J28, yc_R28)
def yc_I54 : Nat → Nat → Int := (ax_u (ax_u (ax_u yc_I53 67 (ax_w 39).toNat (-1)) 67 (ax_w 40).toNat (-1)) 67 (ax_w 41).toNat (-1))
def yc_s54 : ax_S := (68, yc_l28, yc_K28, yc_I54, yc_J28, yc_R28)
def yc_I55 : Nat → Nat → Int := (ax_u (ax_u (ax_u yc_I54 67 (ax_w 42).toNat (-1)) 67 (ax_w 43).toNat (-1)) 67 (ax_w 44).toNat (-1))
def yc_s55 : ax_S := (68, yc_l28, yc_K28, yc_I55, yc_J28, yc_R28)
def yc_I56 : Nat → Nat → Int := (ax_u (ax_u yc_I55 67 (ax_w 45).toNat (-1)) 67 (ax_w 46).toNat (-1))
def yc_s56 : ax_S := (68, yc_l28, yc_K28, yc_I56, yc_J28, yc_R28)
def yc_I57 : Nat → Nat → Int := (ax_u (ax_u (ax_u yc_I56 67 (ax_w 47).toNat (-1)) 67 (ax_w 48).toNat (-1)) 67 (ax_w 49).toNat (-1))
def yc_s57 : ax_S := (68, yc_l28, yc_K28, yc_I57, yc_J28, yc_R28)
def yc_I58 : Nat → Nat → Int := (ax_u (ax_u (ax_u yc_I57 67 (ax_w 50).toNat (-1)) 67 (ax_w 51).toNat (-1)) 67 (ax_w 52).toNat (-1))
def yc_s58 : ax_S := (68, yc_l28, yc_K28, yc_I58, yc_J28, yc_R28)
def yc_I59 : Nat → Nat → Int := (ax_u (ax_u yc_I58 67 (ax_w 53).toNat (-1)) 67 (ax_w 54).toNat (-1))
def yc_s59 : ax_S := (68, yc_l28, yc_K28, yc_I59, yc_J28, yc_R28)
def yc_I60 : Nat → Nat → Int := (ax_u (ax_u (ax_u yc_I59 67 (ax_w 55).toNat (-1)) 67 (ax_w 56).toNat (-1)) 67 (ax_w 57).toNat (-1))
def yc_s60 : ax_S := (68, yc_l28, yc_K28, yc_I60, yc_J28, yc_R28)
def yc_I61 : Nat → Nat → Int := (ax_u (ax_u (ax_u yc_I60 67 (ax_w 58).toNat (-1)) 67 (ax_w 59).toNat (-1)) 67 (ax_w 60).toNat (-1))
def yc_s61 : ax_S := (68, yc_l28, yc_K28, yc_I61, yc_J28, yc_R28)
def yc_I62 : Nat → Nat → Int := (ax_u (ax_u yc_I61 67 (ax_w 61).toNat (-1)) 67 (ax_w 62).toNat (-1))
def yc_s62 : ax_S := (68, yc_l28, yc_K28, yc_I62, yc_J28, yc_R28)
def yc_I63 : Nat → Nat → Int := (ax_u yc_I62 67 (ax_w 63).toNat (-1))
def yc_s63 : ax_S := (68, yc_l28, yc_K28, yc_I63, yc_J28, yc_R28)
def yc_I64 : Nat → Nat → Int := (ax_u (ax_u (ax_u (ax_u (ax_u yc_I63 39 10 0) 39 11 0) 39 12 0) 39 13 9) 39 14 0)
def yc_s64 : ax_S := (68, yc_l28, yc_K28, yc_I64, yc_J28, yc_R28)
def yc_K65 : Nat → Nat × Nat := (fun i => if i = 68 then (6, 0) else yc_K28 i)
def yc_I65 : Nat → Nat → Int := (fun i j => if i = 68 then 0 else yc_I64 i j)
def yc_J65 : Nat → Nat → Int := (fun i j => if i = 68 then 0 else yc_J28 i j)
def yc_R65 : Nat → Nat → Option Nat := (fun i j => if i = 68 then none else (ax_u yc_R28 0 7 (some 39)) i j)
def yc_l65 : Nat := (yc_l28 + 15)
def yc_s65 : ax_S := (69, yc_l65, yc_K65, yc_I65, yc_J65, yc_R65)
def yc_K66 : Nat → Nat × Nat := (fun i => if i = 69 then (0, 0) else yc_K65 i)
def yc_I66 : Nat → Nat → Int := (fun i j => if i = 69 then 0 else yc_I65 i j)
def yc_J66 : Nat → Nat → Int := (fun i j => if i = 69 then 0 else yc_J65 i j)
def yc_R66 : Nat → Nat → Option Nat := (fun i j => if i = 69 then none else yc_R65 i j)
def yc_l66 : Nat := (yc_l65 + 6)
def yc_s66 : ax_S := (70, yc_l66, yc_K66, yc_I66, yc_J66, yc_R66)
def yc_K67 : Nat → Nat × Nat := (fun i => if i = 74 then (4, 0) else (fun i => if i = 73 then (20, (ax_w 24).toNat) else (fun i => if i = 72 then (20, (ax_w 24).toNat) else (fun i => if i = 71 then (20, (ax_w 24).toNat) else (fun i => if i = 70 then (20, (ax_w 2).toNat) else yc_K66 i) i) i) i) i)
def yc_I67 : Nat → Nat → Int := (fun i j => if i = 74 then 0 else (fun i j => if i = 73 then 0 else (fun i j => if i = 72 then 0 else (fun i j => if i = 71 then 0 else (fun i j => if i = 70 then 0 else yc_I66 i j) i j) i j) i j) i j)
def yc_J67 : Nat → Nat → Int := (fun i j => if i = 74 then 0 else (fun i j => if i = 73 then 0 else (fun i j => if i = 72 then 0 else (fun i j => if i = 71 then 0 else (fun i j => if i = 70 then 0 else yc_J66 i j) i j) i j) i j) i j)
def yc_R67 : Nat → Nat → Option Nat := (fun i j => if i = 74 then none else (ax_u (fun i j => if i = 73 then none else (ax_u (fun i j => if i = 72 then none else (ax_u (fun i j => if i = 71 then none else (ax_u (fun i j => if i = 70 then none else yc_R66 i j) 69 0 (some 70)) i j) 69 1 (some 71)) i j) 69 2 (some 72)) i j) 69 3 (some 73)) i j)
def yc_l67 : Nat := (((((yc_l66 + (ax_w 2).toNat) + (ax_w 24).toNat) + (ax_w 24).toNat) + (ax_w 24).toNat) + 3)
def yc_s67 : ax_S := (75, yc_l67, yc_K67, yc_I67, yc_J67, yc_R67)
def yc_K68 : Nat → Nat × Nat := (fun i => if i = 76 then (20, (ax_w 64).toNat) else (fun i => if i = 75 then (20, (ax_w 1600).toNat) else yc_K67 i) i)
def yc_I68 : Nat → Nat → Int := (fun i j => if i = 76 then 0 else (fun i j => if i = 75 then 0 else yc_I67 i j) i j)
def yc_J68 : Nat → Nat → Int := (fun i j => if i = 76 then 0 else (fun i j => if i = 75 then 0 else yc_J67 i j) i j)
def yc_R68 : Nat → Nat → Option Nat := (ax_u (fun i j => if i = 76 then none else (ax_u (fun i j => if i = 75 then none else yc_R67 i j) 74 0 (some 75)) i j) 74 1 (some 76))
def yc_l68 : Nat := ((yc_l67 + (ax_w 1600).toNat) + (ax_w 64).toNat)
def yc_s68 : ax_S := (77, yc_l68, yc_K68, yc_I68, yc_J68, yc_R68)
def yc_R69 : Nat → Nat → Option Nat := (ax_u yc_R68 69 4 (some 74))
def yc_s69 : ax_S := (77, yc_l68, yc_K68, yc_I68, yc_J68, yc_R69)
def yc_K70 : Nat → Nat × Nat := (fun i => if i = 77 then (3, 0) else yc_K68 i)
def yc_I70 : Nat → Nat → Int := (fun i j => if i = 77 then 0 else yc_I68 i j)
def yc_J70 : Nat → Nat → Int := (fun i j => if i = 77 then 0 else yc_J68 i j)
def yc_R70 : Nat → Nat → Option Nat := (fun i j => if i = 77 then none else (ax_u yc_R69 68 0 (some 69)) i j)
def yc_l70 : Nat := (yc_l68 + 13)
def yc_s70 : ax_S := (78, yc_l70, yc_K70, yc_I70, yc_J70, yc_R70)
def yc_K71 : Nat → Nat × Nat := (fun i => if i = 82 then (20, (ax_w 49).toNat) else (fun i => if i = 81 then (20, (ax_w 6).toNat) else (fun i => if i = 80 then (20, (ax_w 6).toNat) else (fun i => if i = 79 then (20, (ax_w 6).toNat) else (fun i => if i = 78 then (20, (ax_w 6).toNat) else yc_K70 i) i) i) i) i)
def yc_I71 : Nat → Nat → Int := (fun i j => if i = 82 then 0 else (fun i j => if i = 81 then 0 else (fun i j => if i = 80 then 0 else (fun i j => if i = 79 then 0 else (fun i j => if i = 78 then 0 else yc_I70 i j) i j) i j) i j) i j)
def yc_J71 : Nat → Nat → Int := (fun i j => if i = 82 then 0 else (fun i j => if i = 81 then 0 else (fun i j => if i = 80 then 0 else (fun i j => if i = 79 then 0 else (fun i j => if i = 78 then 0 else yc_J70 i j) i j) i j) i j) i j)
def yc_R71 : Nat → Nat → Option Nat := (ax_u (fun i j => if i = 82 then none else (ax_u (fun i j => if i = 81 then none else (ax_u (fun i j => if i = 80 then none else (ax_u (fun i j => if i = 79 then none else (ax_u (fun i j => if i = 78 then none else yc_R70 i j) 77 0 (some 78)) i j) 77 1 (some 79)) i j) 77 2 (some 80)) i j) 77 3 (some 81)) i j) 77 4 (some 82))
def yc_l71 : Nat := (((((yc_l70 + (ax_w 6).toNat) + (ax_w 6).toNat) + (ax_w 6).toNat) + (ax_w 6).toNat) + (ax_w 49).toNat)
def yc_s71 : ax_S := (83, yc_l71, yc_K71, yc_I71, yc_J71, yc_R71)
def yc_K72 : Nat → Nat × Nat := (fun i => if i = 86 then (20, (ax_w 12).toNat) else (fun i => if i = 85 then (20, (ax_w 12).toNat) else (fun i => if i = 84 then (20, (ax_w 49).toNat) else (fun i => if i = 83 then (20, (ax_w 49).toNat) else yc_K71 i) i) i) i)
def yc_I72 : Nat → Nat → Int := (ax_u (ax_u (ax_u (fun i j => if i = 86 then 0 else (fun i j => if i = 85 then 0 else (fun i j => if i = 84 then 0 else (fun i j => if i = 83 then 0 else yc_I71 i j) i j) i j) i j) 77 10 (-1)) 77 11 (-1)) 77 12 (-1))
def yc_J72 : Nat → Nat → Int := (fun i j => if i = 86 then 0 else (fun i j => if i = 85 then 0 else (fun i j => if i = 84 then 0 else (fun i j => if i = 83 then 0 else yc_J71 i j) i j) i j) i j)
def yc_R72 : Nat → Nat → Option Nat := (ax_u (fun i j => if i = 86 then none else (ax_u (fun i j => if i = 85 then none else (ax_u (fun i j => if i = 84 then none else (ax_u (fun i j => if i = 83 then none else yc_R71 i j) 77 5 (some 83)) i j) 77 6 (some 84)) i j) 77 7 (some 85)) i j) 77 8 (some 86))
def yc_l72 : Nat := ((((yc_l71 + (ax_w 49).toNat) + (ax_w 49).toNat) + (ax_w 12).toNat) + (ax_w 12).toNat)
def yc_s72 : ax_S := (87, yc_l72, yc_K72, yc_I72, yc_J72, yc_R72)
def yc_K73 : Nat → Nat × Nat := (fun i => if i = 87 then (4, 0) else yc_K72 i)
def yc_I73 : Nat → Nat → Int := (fun i j => if i = 87 then 0 else yc_I72 i j)
def yc_J73 : Nat → Nat → Int := (fun i j => if i = 87 then 0 else yc_J72 i j)
def yc_R73 : Nat → Nat → Option Nat := (fun i j => if i = 87 then none else (ax_u yc_R72 68 1 (some 77)) i j)
def yc_l73 : Nat := (yc_l72 + 3)
def yc_s73 : ax_S := (88, yc_l73, yc_K73, yc_I73, yc_J73, yc_R73)
def yc_K74 : Nat → Nat × Nat := (fun i => if i = 89 then (20, (ax_w 64).toNat) else (fun i => if i = 88 then (20, (ax_w 1600).toNat) else yc_K73 i) i)
def yc_I74 : Nat → Nat → Int := (fun i j => if i = 89 then 0 else (fun i j => if i = 88 then 0 else yc_I73 i j) i j)
def yc_J74 : Nat → Nat → Int := (fun i j => if i = 89 then 0 else (fun i j => if i = 88 then 0 else yc_J73 i j) i j)
def yc_R74 : Nat → Nat → Option Nat := (ax_u (fun i j => if i = 89 then none else (ax_u (fun i j => if i = 88 then none else yc_R73 i j) 87 0 (some 88)) i j) 87 1 (some 89))
def yc_l74 : Nat := ((yc_l73 + (ax_w 1600).toNat) + (ax_w 64).toNat)
def yc_s74 : ax_S := (90, yc_l74, yc_K74, yc_I74, yc_J74, yc_R74)
def yc_K75 : Nat → Nat × Nat := (fun i => if i = 95 then (20, (ax_w 6).toNat) else (fun i => if i = 94 then (20, (ax_w 4).toNat) else (fun i => if i = 93 then (20, (ax_w 4).toNat) else (fun i => if i = 92 then (20, (ax_w 48).toNat) else (fun i => if i = 91 then (20, (ax_w 8).toNat) else (fun i => if i = 90 then (20, (ax_w 24).toNat) else yc_K74 i) i) i) i) i) i)
def yc_I75 : Nat → Nat → Int := (fun i j => if i = 95 then 0 else (fun i j => if i = 94 then 0 else (fun i j => if i = 93 then 0 else (fun i j => if i = 92 then 0 else (fun i j => if i = 91 then 0 else (fun i j => if i = 90 then 0 else yc_I74 i j) i j) i j) i j) i j) i j)
def yc_J75 : Nat → Nat → Int := (fun i j => if i = 95 then 0 else (fun i j => if i = 94 then 0 else (fun i j => if i = 93 then 0 else (fun i j => if i = 92 then 0 else (fun i j => if i = 91 then 0 else (fun i j => if i = 90 then 0 else yc_J74 i j) i j) i j) i j) i j) i j)
def yc_R75 : Nat → Nat → Option Nat := (fun i j => if i = 95 then none else (ax_u (fun i j => if i = 94 then none else (ax_u (fun i j => if i = 93 then none else (ax_u (fun i j => if i = 92 then none else (ax_u (fun i j => if i = 91 then none else (ax_u (fun i j => if i = 90 then none else (ax_u yc_R74 68 2 (some 87)) i j) 68 3 (some 90)) i j) 68 4 (some 91)) i j) 68 5 (some 92)) i j) 68 6 (some 93)) i j) 68 7 (some 94)) i j)
def yc_l75 : Nat := ((((((yc_l74 + (ax_w 24).toNat) + (ax_w 8).toNat) + (ax_w 48).toNat) + (ax_w 4).toNat) + (ax_w 4).toNat) + (ax_w 6).toNat)
def yc_s75 : ax_S := (96, yc_l75, yc_K75, yc_I75, yc_J75, yc_R75)
def yc_K76 : Nat → Nat × Nat := (fun i => if i = 96 then (20, (ax_w 64).toNat) else yc_K75 i)
def yc_I76 : Nat → Nat → Int := (fun i j => if i = 96 then 0 else yc_I75 i j)
def yc_J76 : Nat → Nat → Int := (fun i j => if i = 96 then 0 else yc_J75 i j)
def yc_R76 : Nat → Nat → Option Nat := (ax_u (fun i j => if i = 96 then none else (ax_u yc_R75 68 8 (some 95)) i j) 68 9 (some 96))
def yc_l76 : Nat := (yc_l75 + (ax_w 64).toNat)
def yc_s76 : ax_S := (97, yc_l76, yc_K76, yc_I76, yc_J76, yc_R76)
def yc_I77 : Nat → Nat → Int := (ax_u (ax_u yc_I76 70 (ax_w 0).toNat 0) 70 (ax_w 1).toNat 0)
def yc_s77 : ax_S := (97, yc_l76, yc_K76, yc_I77, yc_J76, yc_R76)
def yc_I78 : Nat → Nat → Int := (ax_u yc_I77 69 5 2)
def yc_s78 : ax_S := (97, yc_l76, yc_K76, yc_I78, yc_J76, yc_R76)
def yc_I79 : Nat → Nat → Int := (ax_u yc_I78 74 2 0)
def yc_s79 : ax_S := (97, yc_l76, yc_K76, yc_I79, yc_J76, yc_R76)
def yc_I80 : Nat → Nat → Int := (ax_u (ax_u yc_I79 75 (ax_w 0).toNat (ax_or (ax_shl 0 4) 1)) 74 2 1)
def yc_s80 : ax_S := (97, yc_l76, yc_K76, yc_I80, yc_J76, yc_R76)
def yc_I81 : Nat → Nat → Int := (ax_u (ax_u yc_I80 75 (ax_w 1).toNat (ax_or (ax_shl 1 4) 1)) 74 2 2)
def yc_s81 : ax_S := (97, yc_l76, yc_K76, yc_I81, yc_J76, yc_R76)
def yc_I82 : Nat → Nat → Int := (ax_u (ax_u yc_I81 75 (ax_w 2).toNat (ax_or (ax_shl 2 4) 0)) 74 2 3)
def yc_s82 : ax_S := (97, yc_l76, yc_K76, yc_I82, yc_J76, yc_R76)
def yc_I83 : Nat → Nat → Int := (ax_u (ax_u yc_I82 75 (ax_w 3).toNat (ax_or (ax_shl 0 4) 7)) 74 2 4)
def yc_s83 : ax_S := (97, yc_l76, yc_K76, yc_I83, yc_J76, yc_R76)
def yc_I84 : Nat → Nat → Int := (ax_u (ax_u yc_I83 75 (ax_w 4).toNat (ax_or (ax_shl 0 4) 5)) 74 2 5)
def yc_s84 : ax_S := (97, yc_l76, yc_K76, yc_I84, yc_J76, yc_R76)
def yc_I85 : Nat → Nat → Int := (ax_u yc_I84 77 10 (-1))
def yc_s85 : ax_S := (97, yc_l76, yc_K76, yc_I85, yc_J76, yc_R76)
def yc_I86 : Nat → Nat → Int := (ax_u yc_I85 87 2 0)
def yc_s86 : ax_S := (97, yc_l76, yc_K76, yc_I86, yc_J76, yc_R76)
def yc_I87 : Nat → Nat → Int := (ax_u (ax_u yc_I86 96 (ax_w 0).toNat (-1)) 96 (ax_w 1).toNat (-1))
def yc_s87 : ax_S := (97, yc_l76, yc_K76, yc_I87, yc_J76, yc_R76)
def yc_I88 : Nat → Nat → Int := (ax_u (ax_u (ax_u yc_I87 96 (ax_w 2).toNat (-1)) 96 (ax_w 3).toNat (-1)) 96 (ax_w 4).toNat (-1))
def yc_s88 : ax_S := (97, yc_l76, yc_K76, yc_I88, yc_J76, yc_R76)
def yc_I89 : Nat → Nat → Int := (ax_u (ax_u yc_I88 96 (ax_w 5).toNat (-1)) 96 (ax_w 6).toNat (-1))
def yc_s89 : ax_S := (97, yc_l76, yc_K76, yc_I89, yc_J76, yc_R76)
def yc_I90 : Nat → Nat → Int := (ax_u (ax_u (ax_u yc_I89 96 (ax_w 7).toNat (-1)) 96 (ax_w 8).toNat (-1)) 96 (ax_w 9).toNat (-1))
def yc_s90 : ax_S := (97, yc_l76, yc_K76, yc_I90, yc_J76, yc_R76)
def yc_I91 : Nat → Nat → Int := (ax_u (ax_u (ax_u yc_I90 96 (ax_w 10).toNat (-1)) 96 (ax_w 11).toNat (-1)) 96 (ax_w 12).toNat (-1))
def yc_s91 : ax_S := (97, yc_l76, yc_K76, yc_I91, yc_J76, yc_R76)
def yc_I92 : Nat → Nat → Int := (ax_u (ax_u yc_I91 96 (ax_w 13).toNat (-1)) 96 (ax_w 14).toNat (-1))
def yc_s92 : ax_S := (97, yc_l76, yc_K76, yc_I92, yc_J76, yc_R76)
def yc_I93 : Nat → Nat → Int := (ax_u (ax_u (ax_u yc_I92 96 (ax_w 15).toNat (-1)) 96 (ax_w 16).toNat (-1)) 96 (ax_w 17).toNat (-1))
def yc_s93 : ax_S := (97, yc_l76, yc_K76, yc_I93, yc_J76, yc_R76)
def yc_I94 : Nat → Nat → Int := (ax_u (ax_u (ax_u yc_I93 96 (ax_w 18).toNat (-1)) 96 (ax_w 19).toNat (-1)) 96 (ax_w 20).toNat (-1))
def yc_s94 : ax_S := (97, yc_l76, yc_K76, yc_I94, yc_J76, yc_R76)
def yc_I95 : Nat → Nat → Int := (ax_u (ax_u yc_I94 96 (ax_w 21).toNat (-1)) 96 (ax_w 22).toNat (-1))
def yc_s95 : ax_S := (97, yc_l76, yc_K76, yc_I95, yc_J76, yc_R76)
def yc_I96 : Nat → Nat → Int := (ax_u (ax_u (ax_u yc_I95 96 (ax_w 23).toNat (-1)) 96 (ax_w 24).toNat (-1)) 96 (ax_w 25).toNat (-1))
def yc_s96 : ax_S := (97, yc_l76, yc_K76, yc_I96, yc_J76, yc_R76)
def yc_I97 : Nat → Nat → Int := (ax_u (ax_u (ax_u yc_I96 96 (ax_w 26).toNat (-1)) 96 (ax_w 27).toNat (-1)) 96 (ax_w 28).toNat (-1))
def yc_s97 : ax_S := (97, yc_l76, yc_K76, yc_I97, yc_J76, yc_R76)
def yc_I98 : Nat → Nat → Int := (ax_u (ax_u yc_I97 96 (ax_w 29).toNat (-1)) 96 (ax_w 30).toNat (-1))
def yc_s98 : ax_S := (97, yc_l76, yc_K76, yc_I98, yc_J76, yc_R76)
def yc_I99 : Nat → Nat → Int := (ax_u (ax_u (ax_u yc_I98 96 (ax_w 31).toNat (-1)) 96 (ax_w 32).toNat (-1)) 96 (ax_w 33).toNat (-1))
def yc_s99 : ax_S := (97, yc_l76, yc_K76, yc_I99, yc_J76, yc_R76)
def yc_I100 : Nat → Nat → Int := (ax_u (ax_u (ax_u yc_I99 96 (ax_w 34).toNat (-1)) 96 (ax_w 35).toNat (-1)) 96 (ax_w 36).toNat (-1))
def yc_s100 : ax_S := (97, yc_l76, yc_K76, yc_I100, yc_J76, yc_R76)
def yc_I101 : Nat → Nat → Int := (ax_u (ax_u yc_I100 96 (ax_w 37).toNat (-1)) 96 (ax_w 38).toNat (-1))
def yc_s101 : ax_S := (97, yc_l76, yc_K76, yc_I101, yc_J76, yc_R76)
def yc_I102 : Nat → Nat → Int := (ax_u (ax_u (ax_u yc_I101 96 (ax_w 39).toNat (-1)) 96 (ax_w 40).toNat (-1)) 96 (ax_w 41).toNat (-1))
def yc_s102 : ax_S := (97, yc_l76, yc_K76, yc_I102, yc_J76, yc_R76)
def yc_I103 : Nat → Nat → Int := (ax_u (ax_u (ax_u yc_I102 96 (ax_w 42).toNat (-1)) 96 (ax_w 43).toNat (-1)) 96 (ax_w 44).toNat (-1))
def yc_s103 : ax_S := (97, yc_l76, yc_K76, yc_I103, yc_J76, yc_R76)
def yc_I104 : Nat → Nat → Int := (ax_u (ax_u yc_I103 96 (ax_w 45).toNat (-1)) 96 (ax_w 46).toNat (-1))
def yc_s104 : ax_S := (97, yc_l76, yc_K76, yc_I104, yc_J76, yc_R76)
def yc_I105 : Nat → Nat → Int := (ax_u (ax_u (ax_u yc_I104 96 (ax_w 47).toNat (-1)) 96 (ax_w 48).toNat (-1)) 96 (ax_w 49).toNat (-1))
def yc_s105 : ax_S := (97, yc_l76, yc_K76, yc_I105, yc_J76, yc_R76)
def yc_I106 : Nat → Nat → Int := (ax_u (ax_u (ax_u yc_I105 96 (ax_w 50).toNat (-1)) 96 (ax_w 51).toNat (-1)) 96 (ax_w 52).toNat (-1))
def yc_s106 : ax_S := (97, yc_l76, yc_K76, yc_I106, yc_J76, yc_R76)
def yc_I107 : Nat → Nat → Int := (ax_u (ax_u yc_I106 96 (ax_w 53).toNat (-1)) 96 (ax_w 54).toNat (-1))
def yc_s107 : ax_S := (97, yc_l76, yc_K76, yc_I107, yc_J76, yc_R76)
def yc_I108 : Nat → Nat → Int := (ax_u (ax_u (ax_u yc_I107 96 (ax_w 55).toNat (-1)) 96 (ax_w 56).toNat (-1)) 96 (ax_w 57).toNat (-1))
def yc_s108 : ax_S := (97, yc_l76, yc_K76, yc_I108, yc_J76, yc_R76)
def yc_I109 : Nat → Nat → Int := (ax_u (ax_u (ax_u yc_I108 96 (ax_w 58).toNat (-1)) 96 (ax_w 59).toNat (-1)) 96 (ax_w 60).toNat (-1))
def yc_s109 : ax_S := (97, yc_l76, yc_K76, yc_I109, yc_J76, yc_R76)
def yc_I110 : Nat → Nat → Int := (ax_u (ax_u yc_I109 96 (ax_w 61).toNat (-1)) 96 (ax_w 62).toNat (-1))
def yc_s110 : ax_S := (97, yc_l76, yc_K76, yc_I110, yc_J76, yc_R76)
def yc_I111 : Nat → Nat → Int := (ax_u yc_I110 96 (ax_w 63).toNat (-1))
def yc_s111 : ax_S := (97, yc_l76, yc_K76, yc_I111, yc_J76, yc_R76)
def yc_I112 : Nat → Nat → Int := (ax_u (ax_u (ax_u (ax_u (ax_u yc_I111 68 10 0) 68 11 0) 68 12 0) 68 13 9) 68 14 0)
def yc_s112 : ax_S := (97, yc_l76, yc_K76, yc_I112, yc_J76, yc_R76)
def yc_J113 : Nat → Nat → Int := (ax_u yc_J76 0 9 1)
def yc_R113 : Nat → Nat → Option Nat := (ax_u yc_R76 0 8 (some 68))
def yc_s113 : ax_S := (97, yc_l76, yc_K76, yc_I112, yc_J113, yc_R113)
set_option maxRecDepth 100000 in
theorem yc_m1_0 {d : Nat} : zb_W d ax_m84 (0, [some (.inr (.inr (some 1)))], [], yc_s1) (fun v s => v = none ∧ s = yc_s2) := zb_ret [1, 4, 5, 8, 10, 13] (g := True ∧ True ∧ True ∧ True ∧ ((0 : Int) ≤ ax_w 1600 ∧ ax_w 1600 ≤ 65536) ∧ True ∧ True) (v := none) (s' := yc_s2) rfl (by decide +kernel) ⟨rfl, rfl⟩
theorem yc_m1 {d : Nat} : zb_C (d + 1) 84 [.inr (.inr (some 1))] yc_s1 (fun v s => v = none ∧ s = yc_s2) := zb_in (M := ax_m84) rfl (Nat.le_of_ble_eq_true rfl) yc_m1_0
set_option maxRecDepth 100000 in
theorem yc_m2_0 {d : Nat} : zb_W d ax_m89 (0, [some (.inr (.inr (some 3))), some (.inr (.inr (some 1)))], [], yc_s3) (fun v s => v = none ∧ s = yc_s4) := zb_ret [1, 4, 5, 6, 9, 10, 11, 14] (g := True ∧ True ∧ True ∧ True ∧ True ∧ True ∧ True ∧ True ∧ True) (v := none) (s' := yc_s4) rfl (by decide +kernel) ⟨rfl, rfl⟩
theorem yc_m2 {d : Nat} : zb_C (d + 1) 89 [.inr (.inr (some 3)), .inr (.inr (some 1))] yc_s3 (fun v s => v = none ∧ s = yc_s4) := zb_in (M := ax_m89) rfl (Nat.le_of_ble_eq_true rfl) yc_m2_0
set_option maxRecDepth 100000 in
theorem yc_m3_0 {d : Nat} : zb_W d ax_m48 (0, [some (.inr (.inr (some 4)))], [], yc_s5) (fun v s => v = none ∧ s = yc_s6) := zb_ret [1, 4, 5, 8, 10, 13, 14, 16, 18, 21] (g := True ∧ True ∧ True ∧ True ∧ ((0 : Int) ≤ ax_w 1600 ∧ ax_w 1600 ≤ 65536) ∧ True ∧ True ∧ True ∧ ((0 : Int) ≤ ax_w 64 ∧ ax_w 64 ≤ 65536) ∧ True ∧ True) (v := none) (s' := yc_s6) rfl (by decide +kernel) ⟨rfl, rfl⟩
theorem yc_m3 {d : Nat} : zb_C (d + 1) 48 [.inr (.inr (some 4))] yc_s5 (fun v s => v = none ∧ s = yc_s6) := zb_in (M := ax_m48) rfl (Nat.le_of_ble_eq_true rfl) yc_m3_0
set_option maxRecDepth 100000 in
theorem yc_m4_0 {d : Nat} : zb_W d ax_m13 (0, [some (.inr (.inr (some 7))), some (.inr (.inr (some 3))), some (.inr (.inr (some 4)))], [], yc_s7) (fun v s => v = none ∧ s = yc_s8) := zb_ret [1, 4, 5, 6, 9, 10, 11, 14] (g := True ∧ True ∧ True ∧ True ∧ True ∧ True ∧ True ∧ True ∧ True) (v := none) (s' := yc_s8) rfl (by decide +kernel) ⟨rfl, rfl⟩
theorem yc_m4 {d : Nat} : zb_C (d + 1) 13 [.inr (.inr (some 7)), .inr (.inr (some 3)), .inr (.inr (some 4))] yc_s7 (fun v s => v = none ∧ s = yc_s8) := zb_in (M := ax_m13) rfl (Nat.le_of_ble_eq_true rfl) yc_m4_0
set_option maxRecDepth 100000 in
theorem yc_m5_0 {d : Nat} : zb_W d ax_m76 (0, [some (.inr (.inr (some 8))), some (.inr (.inr (some 3))), some (.inr (.inr (some 7)))], [], yc_s9) (fun v s => v = none ∧ s = yc_s10) := zb_ret [1, 4, 5, 7, 9, 12, 13, 14, 17, 18, 19, 22] (g := True ∧ True ∧ True ∧ True ∧ ((0 : Int) ≤ ax_w 6 ∧ ax_w 6 ≤ 65536) ∧ True ∧ True ∧ True ∧ True ∧ True ∧ True ∧ True ∧ True) (v := none) (s' := yc_s10) rfl (by decide +kernel) ⟨rfl, rfl⟩
theorem yc_m5 {d : Nat} : zb_C (d + 1) 76 [.inr (.inr (some 8)), .inr (.inr (some 3)), .inr (.inr (some 7))] yc_s9 (fun v s => v = none ∧ s = yc_s10) := zb_in (M := ax_m76) rfl (Nat.le_of_ble_eq_true rfl) yc_m5_0
set_option maxRecDepth 100000 in
theorem yc_m6_0 {d : Nat} : zb_W d ax_m55 (0, [some (.inr (.inr (some 10))), some (.inr (.inr (some 3))), some (.inr (.inr (some 7))), some (.inr (.inr (some 4)))], [], yc_s11) (fun v s => v = none ∧ s = yc_s12) := zb_ret [1, 4, 5, 7, 9, 12, 13, 14, 17, 18, 19, 22, 23, 24, 27] (g := True ∧ True ∧ True ∧ True ∧ ((0 : Int) ≤ ax_w 24 ∧ ax_w 24 ≤ 65536) ∧ True ∧ True ∧ True ∧ True ∧ True ∧ True ∧ True ∧ True ∧ True ∧ True ∧ True) (v := none) (s' := yc_s12) rfl (by decide +kernel) ⟨rfl, rfl⟩
theorem yc_m6 {d : Nat} : zb_C (d + 1) 55 [.inr (.inr (some 10)), .inr (.inr (some 3)), .inr (.inr (some 7)), .inr (.inr (some 4))] yc_s11 (fun v s => v = none ∧ s = yc_s12) := zb_in (M := ax_m55) rfl (Nat.le_of_ble_eq_true rfl) yc_m6_0
set_option maxRecDepth 100000 in
theorem yc_m7_0 {d : Nat} : zb_W d ax_m106 (0, [some (.inr (.inr (some 12)))], [], yc_s13) (fun v s => v = none ∧ s = yc_s14) := zb_ret [1, 4, 5, 7, 9, 12, 13, 15, 17, 20, 21, 23, 25, 29, 32] (g := True ∧ True ∧ True ∧ True ∧ ((0 : Int) ≤ ax_w 74 ∧ ax_w 74 ≤ 65536) ∧ True ∧ True ∧ True ∧ ((0 : Int) ≤ ax_w 74 ∧ ax_w 74 ≤ 65536) ∧ True ∧ True ∧ True ∧ True ∧ ((0 : Int) ≤ ax_w 20 ∧ ax_w 20 ≤ 65536 ∧ 0 ≤ ax_w 74 ∧ ax_w 74 ≤ 65536) ∧ True ∧ True) (v := none) (s' := yc_s14) rfl (by decide +kernel) ⟨rfl, rfl⟩
theorem yc_m7 {d : Nat} : zb_C (d + 1) 106 [.inr (.inr (some 12))] yc_s13 (fun v s => v = none ∧ s = yc_s14) := zb_in (M := ax_m106) rfl (Nat.le_of_ble_eq_true rfl) yc_m7_0
set_option maxRecDepth 100000 in
theorem yc_m8_0 {d : Nat} : zb_W d ax_m27 (0, [some (.inr (.inr (some 36)))], [], yc_s15) (fun v s => v = none ∧ s = yc_s16) := zb_ret [1, 4, 5, 7, 9, 12] (g := True ∧ True ∧ True ∧ True ∧ ((0 : Int) ≤ ax_w 59 ∧ ax_w 59 ≤ 65536) ∧ True ∧ True) (v := none) (s' := yc_s16) rfl (by decide +kernel) ⟨rfl, rfl⟩
theorem yc_m8 {d : Nat} : zb_C (d + 1) 27 [.inr (.inr (some 36))] yc_s15 (fun v s => v = none ∧ s = yc_s16) := zb_in (M := ax_m27) rfl (Nat.le_of_ble_eq_true rfl) yc_m8_0
set_option maxRecDepth 100000 in
theorem yc_m11_0 {d : Nat} : zb_W d ax_m48 (0, [some (.inr (.inr (some 45)))], [], yc_s19) (fun v s => v = none ∧ s = yc_s20) := zb_ret [1, 4, 5, 8, 10, 13, 14, 16, 18, 21] (g := True ∧ True ∧ True ∧ True ∧ ((0 : Int) ≤ ax_w 1600 ∧ ax_w 1600 ≤ 65536) ∧ True ∧ True ∧ True ∧ ((0 : Int) ≤ ax_w 64 ∧ ax_w 64 ≤ 65536) ∧ True ∧ True) (v := none) (s' := yc_s20) rfl (by decide +kernel) ⟨rfl, rfl⟩
theorem yc_m11 {d : Nat} : zb_C (d + 1) 48 [.inr (.inr (some 45))] yc_s19 (fun v s => v = none ∧ s = yc_s20) := zb_in (M := ax_m48) rfl (Nat.le_of_ble_eq_true rfl) yc_m11_0
set_option maxRecDepth 100000 in
theorem yc_m10_2 {d : Nat} : zb_W (d + 1) ax_m0 (43, [some (.inr (.inr (some 40)))], [.inr (.inr (some 45)), .inr (.inr (some 40))], yc_s20) (fun v s => v = none ∧ s = yc_s21) := zb_ret [46] (g := True ∧ True) (v := none) (s' := yc_s21) rfl (by decide +kernel) ⟨rfl, rfl⟩
set_option maxRecDepth 100000 in
theorem yc_m10_1 {d : Nat} : zb_W (d + 1) ax_m0 (40, [some (.inr (.inr (some 40)))], [.inr (.inr (some 45)), .inr (.inr (some 45)), .inr (.inr (some 40))], yc_s19) (fun v s => v = none ∧ s = yc_s21) := zb_cl [] (g := True) (m := 48) (as := [.inr (.inr (some 45))]) (pc' := 43) (ls' := [some (.inr (.inr (some 40)))]) (st' := [.inr (.inr (some 45)), .inr (.inr (some 40))]) (s' := yc_s19) (v1 := none) (s1 := yc_s20) rfl trivial (yc_m11 (d := d)) yc_m10_2
set_option maxRecDepth 100000 in
theorem yc_m10_0 {d : Nat} : zb_W (d + 1) ax_m0 (0, [some (.inr (.inr (some 40)))], [], yc_s18) (fun v s => v = none ∧ s = yc_s21) := zb_go [1, 4, 5, 6, 8, 11, 12, 14, 16, 19, 20, 22, 24, 27, 28, 30, 32, 35, 36, 39] (g := True ∧ True ∧ True ∧ True ∧ ((0 : Int) ≤ ax_w 2 ∧ ax_w 2 ≤ 65536) ∧ True ∧ True ∧ True ∧ ((0 : Int) ≤ ax_w 24 ∧ ax_w 24 ≤ 65536) ∧ True ∧ True ∧ True ∧ ((0 : Int) ≤ ax_w 24 ∧ ax_w 24 ≤ 65536) ∧ True ∧ True ∧ True ∧ ((0 : Int) ≤ ax_w 24 ∧ ax_w 24 ≤ 65536) ∧ True ∧ True ∧ True ∧ True) (z' := (40, [some (.inr (.inr (some 40)))], [.inr (.inr (some 45)), .inr (.inr (some 45)), .inr (.inr (some 40))], yc_s19)) rfl (by decide +kernel) yc_m10_1
theorem yc_m10 {d : Nat} : zb_C (d + 2) 0 [.inr (.inr (some 40))] yc_s18 (fun v s => v = none ∧ s = yc_s21) := zb_in (M := ax_m0) rfl (Nat.le_of_ble_eq_true rfl) yc_m10_0
set_option maxRecDepth 100000 in
theorem yc_m12_1 {d : Nat} : zb_W d ax_m37 (47, [some (.inr (.inr (some 48)))], [.inl 49, .inr (.inr (some 48))], yc_s23) (fun v s => v = none ∧ s = yc_s24) := zb_ret [49, 52, 53, 55, 57, 60, 61, 63, 65, 68, 69, 71, 73, 76, 77, 78, 81, 82, 83, 86, 87, 88, 91] (g := ((0 : Int) ≤ ax_w 49 ∧ ax_w 49 ≤ 65536) ∧ True ∧ True ∧ True ∧ ((0 : Int) ≤ ax_w 49 ∧ ax_w 49 ≤ 65536) ∧ True ∧ True ∧ True ∧ ((0 : Int) ≤ ax_w 12 ∧ ax_w 12 ≤ 65536) ∧ True ∧ True ∧ True ∧ ((0 : Int) ≤ ax_w 12 ∧ ax_w 12 ≤ 65536) ∧ True ∧ True ∧ True ∧ True ∧ True ∧ True ∧ True ∧ True ∧ True ∧ True ∧ True) (v := none) (s' := yc_s24) rfl (by decide +kernel) ⟨rfl, rfl⟩
set_option maxRecDepth 100000 in
theorem yc_m12_0 {d : Nat} : zb_W d ax_m37 (0, [some (.inr (.inr (some 48)))], [], yc_s22) (fun v s => v = none ∧ s = yc_s24) := zb_go [1, 4, 5, 7, 9, 12, 13, 15, 17, 20, 21, 23, 25, 28, 29, 31, 33, 36, 37, 39, 41, 44, 45] (g := True ∧ True ∧ True ∧ True ∧ ((0 : Int) ≤ ax_w 6 ∧ ax_w 6 ≤ 65536) ∧ True ∧ True ∧ True ∧ ((0 : Int) ≤ ax_w 6 ∧ ax_w 6 ≤ 65536) ∧ True ∧ True ∧ True ∧ ((0 : Int) ≤ ax_w 6 ∧ ax_w 6 ≤ 65536) ∧ True ∧ True ∧ True ∧ ((0 : Int) ≤ ax_w 6 ∧ ax_w 6 ≤ 65536) ∧ True ∧ True ∧ True ∧ ((0 : Int) ≤ ax_w 49 ∧ ax_w 49 ≤ 65536) ∧ True ∧ True ∧ True) (z' := (47, [some (.inr (.inr (some 48)))], [.inl 49, .inr (.inr (some 48))], yc_s23)) rfl (by decide +kernel) yc_m12_1
theorem yc_m12 {d : Nat} : zb_C (d + 1) 37 [.inr (.inr (some 48))] yc_s22 (fun v s => v = none ∧ s = yc_s24) := zb_in (M := ax_m37) rfl (Nat.le_of_ble_eq_true rfl) yc_m12_0
set_option maxRecDepth 100000 in
theorem yc_m13_0 {d : Nat} : zb_W d ax_m48 (0, [some (.inr (.inr (some 58)))], [], yc_s25) (fun v s => v = none ∧ s = yc_s26) := zb_ret [1, 4, 5, 8, 10, 13, 14, 16, 18, 21] (g := True ∧ True ∧ True ∧ True ∧ ((0 : Int) ≤ ax_w 1600 ∧ ax_w 1600 ≤ 65536) ∧ True ∧ True ∧ True ∧ ((0 : Int) ≤ ax_w 64 ∧ ax_w 64 ≤ 65536) ∧ True ∧ True) (v := none) (s' := yc_s26) rfl (by decide +kernel) ⟨rfl, rfl⟩
theorem yc_m13 {d : Nat} : zb_C (d + 1) 48 [.inr (.inr (some 58))] yc_s25 (fun v s => v = none ∧ s = yc_s26) := zb_in (M := ax_m48) rfl (Nat.le_of_ble_eq_true rfl) yc_m13_0
set_option maxRecDepth 100000 in
theorem yc_m16_1 {d : Nat} : zb_W d ax_m322 (6, [some (.inr (.inr (some 41))), some (.inl 0), some (.inl 2), some (.inl 2)], [.inl 2], yc_s29) (fun v s => v = none ∧ s = yc_s29) := zb_ret [7, 20] (g := True ∧ True ∧ True) (v := none) (s' := yc_s29) rfl (by decide +kernel) ⟨rfl, rfl⟩
set_option maxRecDepth 100000 in
theorem yc_m16_0 {d : Nat} : zb_W d ax_m322 (0, [some (.inr (.inr (some 41))), some (.inl 0), none, none], [], yc_s28) (fun v s => v = none ∧ s = yc_s29) := zb_go [1, 2, 3, 4, 5, 6, 7, 10, 11, 12, 13, 14, 17, 5, 6, 7, 10, 11, 12, 13, 14, 17, 5] (g := True ∧ True ∧ True ∧ True ∧ True ∧ True ∧ True ∧ True ∧ True ∧ True ∧ True ∧ ((0 : Int) ≤ ax_w 0 ∧ ax_w 0 < ((2 : Nat) : Int)) ∧ True ∧ True ∧ True ∧ True ∧ True ∧ True ∧ True ∧ True ∧ ((0 : Int) ≤ ax_w 1 ∧ ax_w 1 < ((2 : Nat) : Int)) ∧ True ∧ True ∧ True) (z' := (6, [some (.inr (.inr (some 41))), some (.inl 0), some (.inl 2), some (.inl 2)], [.inl 2], yc_s29)) rfl (by decide +kernel) yc_m16_1
theorem yc_m16 {d : Nat} : zb_C (d + 1) 322 [.inr (.inr (some 41)), .inl 0] yc_s28 (fun v s => v = none ∧ s = yc_s29) := zb_in (M := ax_m322) rfl (Nat.le_of_ble_eq_true rfl) yc_m16_0
set_option maxRecDepth 100000 in
theorem yc_m17_0 {d : Nat} : zb_W d ax_m49 (0, [some (.inr (.inr (some 45)))], [], yc_s30) (fun v s => v = none ∧ s = yc_s31) := zb_ret [1, 2, 5] (g := True ∧ True ∧ True ∧ True) (v := none) (s' := yc_s31) rfl (by decide +kernel) ⟨rfl, rfl⟩
theorem yc_m17 {d : Nat} : zb_C (d + 1) 49 [.inr (.inr (some 45))] yc_s30 (fun v s => v = none ∧ s = yc_s31) := zb_in (M := ax_m49) rfl (Nat.le_of_ble_eq_true rfl) yc_m17_0
set_option maxRecDepth 100000 in
theorem yc_m18_0 {d : Nat} : zb_W d ax_m50 (0, [some (.inr (.inr (some 45))), some (.inl 1), some (.inl 0)], [], yc_s31) (fun v s => v = none ∧ s = yc_s32) := zb_ret [1, 4, 5, 8, 9, 12, 13, 16, 17, 20, 21, 22, 23, 24, 25, 26, 27, 28, 31, 32, 33, 36] (g := True ∧ True ∧ True ∧ True ∧ True ∧ True ∧ True ∧ True ∧ True ∧ True ∧ True ∧ True ∧ True ∧ True ∧ True ∧ ((0 : Int) ≤ ax_w 0 ∧ ax_w 0 < ((1600 : Nat) : Int)) ∧ True ∧ True ∧ True ∧ True ∧ True ∧ True ∧ True) (v := none) (s' := yc_s32) rfl (by decide +kernel) ⟨rfl, rfl⟩
theorem yc_m18 {d : Nat} : zb_C (d + 1) 50 [.inr (.inr (some 45)), .inl 1, .inl 0] yc_s31 (fun v s => v = none ∧ s = yc_s32) := zb_in (M := ax_m50) rfl (Nat.le_of_ble_eq_true rfl) yc_m18_0
set_option maxRecDepth 100000 in
theorem yc_m19_0 {d : Nat} : zb_W d ax_m50 (0, [some (.inr (.inr (some 45))), some (.inl 1), some (.inl 1)], [], yc_s32) (fun v s => v = none ∧ s = yc_s33) := zb_ret [1, 4, 5, 8, 9, 12, 13, 16, 17, 20, 21, 22, 23, 24, 25, 26, 27, 28, 31, 32, 33, 36] (g := True ∧ True ∧ True ∧ True ∧ True ∧ True ∧ True ∧ True ∧ True ∧ True ∧ True ∧ True ∧ True ∧ True ∧ True ∧ ((0 : Int) ≤ ax_w 1 ∧ ax_w 1 < ((1600 : Nat) : Int)) ∧ True ∧ True ∧ True ∧ True ∧ True ∧ True ∧ True) (v := none) (s' := yc_s33) rfl (by decide +kernel) ⟨rfl, rfl⟩
theorem yc_m19 {d : Nat} : zb_C (d + 1) 50 [.inr (.inr (some 45)), .inl 1, .inl 1] yc_s32 (fun v s => v = none ∧ s = yc_s33) := zb_in (M := ax_m50) rfl (Nat.le_of_ble_eq_true rfl) yc_m19_0
set_option maxRecDepth 100000 in
theorem yc_m20_0 {d : Nat} : zb_W d ax_m50 (0, [some (.inr (.inr (some 45))), some (.inl 0), some (.inl 2)], [], yc_s33) (fun v s => v = none ∧ s = yc_s34) := zb_ret [1, 4, 5, 8, 9, 12, 13, 16, 17, 20, 21, 22, 23, 24, 25, 26, 27, 28, 31, 32, 33, 36] (g := True ∧ True ∧ True ∧ True ∧ True ∧ True ∧ True ∧ True ∧ True ∧ True ∧ True ∧ True ∧ True ∧ True ∧ True ∧ ((0 : Int) ≤ ax_w 2 ∧ ax_w 2 < ((1600 : Nat) : Int)) ∧ True ∧ True ∧ True ∧ True ∧ True ∧ True ∧ True) (v := none) (s' := yc_s34) rfl (by decide +kernel) ⟨rfl, rfl⟩
theorem yc_m20 {d : Nat} : zb_C (d + 1) 50 [.inr (.inr (some 45)), .inl 0, .inl 2] yc_s33 (fun v s => v = none ∧ s = yc_s34) := zb_in (M := ax_m50) rfl (Nat.le_of_ble_eq_true rfl) yc_m20_0
set_option maxRecDepth 100000 in
theorem yc_m21_0 {d : Nat} : zb_W d ax_m50 (0, [some (.inr (.inr (some 45))), some (.inl 7), some (.inl 0)], [], yc_s34) (fun v s => v = none ∧ s = yc_s35) := zb_ret [1, 4, 5, 8, 9, 12, 13, 16, 17, 20, 21, 22, 23, 24, 25, 26, 27, 28, 31, 32, 33, 36] (g := True ∧ True ∧ True ∧ True ∧ True ∧ True ∧ True ∧ True ∧ True ∧ True ∧ True ∧ True ∧ True ∧ True ∧ True ∧ ((0 : Int) ≤ ax_w 3 ∧ ax_w 3 < ((1600 : Nat) : Int)) ∧ True ∧ True ∧ True ∧ True ∧ True ∧ True ∧ True) (v := none) (s' := yc_s35) rfl (by decide +kernel) ⟨rfl, rfl⟩
theorem yc_m21 {d : Nat} : zb_C (d + 1) 50 [.inr (.inr (some 45)), .inl 7, .inl 0] yc_s34 (fun v s => v = none ∧ s = yc_s35) := zb_in (M := ax_m50) rfl (Nat.le_of_ble_eq_true rfl) yc_m21_0
set_option maxRecDepth 100000 in
theorem yc_m22_0 {d : Nat} : zb_W d ax_m50 (0, [some (.inr (.inr (some 45))), some (.inl 5), some (.inl 0)], [], yc_s35) (fun v s => v = none ∧ s = yc_s36) := zb_ret [1, 4, 5, 8, 9, 12, 13, 16, 17, 20, 21, 22, 23, 24, 25, 26, 27, 28, 31, 32, 33, 36] (g := True ∧ True ∧ True ∧ True ∧ True ∧ True ∧ True ∧ True ∧ True ∧ True ∧ True ∧ True ∧ True ∧ True ∧ True ∧ ((0 : Int) ≤ ax_w 4 ∧ ax_w 4 < ((1600 : Nat) : Int)) ∧ True ∧ True ∧ True ∧ True ∧ True ∧ True ∧ True) (v := none) (s' := yc_s36) rfl (by decide +kernel) ⟨rfl, rfl⟩
theorem yc_m22 {d : Nat} : zb_C (d + 1) 50 [.inr (.inr (some 45)), .inl 5, .inl 0] yc_s35 (fun v s => v = none ∧ s = yc_s36) := zb_in (M := ax_m50) rfl (Nat.le_of_ble_eq_true rfl) yc_m22_0
set_option maxRecDepth 100000 in
theorem yc_m15_14 {d : Nat} : zb_W (d + 1) ax_m1 (66, [some (.inr (.inr (some 40)))], [], yc_s36) (fun v s => v = none ∧ s = yc_s36) := zb_ret [] (g := True) (v := none) (s' := yc_s36) rfl (by decide +kernel) ⟨rfl, rfl⟩
set_option maxRecDepth 100000 in
theorem yc_m15_13 {d : Nat} : zb_W (d + 1) ax_m1 (63, [some (.inr (.inr (some 40)))], [.inl 0, .inl 5, .inr (.inr (some 45))], yc_s35) (fun v s => v = none ∧ s = yc_s36) := zb_cl [] (g := True) (m := 50) (as := [.inr (.inr (some 45)), .inl 5, .inl 0]) (pc' := 66) (ls' := [some (.inr (.inr (some 40)))]) (st' := []) (s' := yc_s35) (v1 := none) (s1 := yc_s36) rfl trivial (yc_m22 (d := d)) yc_m15_14
set_option maxRecDepth 100000 in
theorem yc_m15_12 {d : Nat} : zb_W (d + 1) ax_m1 (57, [some (.inr (.inr (some 40)))], [], yc_s35) (fun v s => v = none ∧ s = yc_s36) := zb_go [58, 61, 62] (g := True ∧ True ∧ True ∧ True) (z' := (63, [some (.inr (.inr (some 40)))], [.inl 0, .inl 5, .inr (.inr (some 45))], yc_s35)) rfl (by decide +kernel) yc_m15_13
set_option maxRecDepth 100000 in
theorem yc_m15_11 {d : Nat} : zb_W (d + 1) ax_m1 (54, [some (.inr (.inr (some 40)))], [.inl 0, .inl 7, .inr (.inr (some 45))], yc_s34) (fun v s => v = none ∧ s = yc_s36) := zb_cl [] (g := True) (m := 50) (as := [.inr (.inr (some 45)), .inl 7, .inl 0]) (pc' := 57) (ls' := [some (.inr (.inr (some 40)))]) (st' := []) (s' := yc_s34) (v1 := none) (s1 := yc_s35) rfl trivial (yc_m21 (d := d)) yc_m15_12
set_option maxRecDepth 100000 in
theorem yc_m15_10 {d : Nat} : zb_W (d + 1) ax_m1 (47, [some (.inr (.inr (some 40)))], [], yc_s34) (fun v s => v = none ∧ s = yc_s36) := zb_go [48, 51, 53] (g := True ∧ True ∧ True ∧ True) (z' := (54, [some (.inr (.inr (some 40)))], [.inl 0, .inl 7, .inr (.inr (some 45))], yc_s34)) rfl (by decide +kernel) yc_m15_11
set_option maxRecDepth 100000 in
theorem yc_m15_9 {d : Nat} : zb_W (d + 1) ax_m1 (44, [some (.inr (.inr (some 40)))], [.inl 2, .inl 0, .inr (.inr (some 45))], yc_s33) (fun v s => v = none ∧ s = yc_s36) := zb_cl [] (g := True) (m := 50) (as := [.inr (.inr (some 45)), .inl 0, .inl 2]) (pc' := 47) (ls' := [some (.inr (.inr (some 40)))]) (st' := []) (s' := yc_s33) (v1 := none) (s1 := yc_s34) rfl trivial (yc_m20 (d := d)) yc_m15_10
set_option maxRecDepth 100000 in
theorem yc_m15_8 {d : Nat} : zb_W (d + 1) ax_m1 (38, [some (.inr (.inr (some 40)))], [], yc_s33) (fun v s => v = none ∧ s = yc_s36) := zb_go [39, 42, 43] (g := True ∧ True ∧ True ∧ True) (z' := (44, [some (.inr (.inr (some 40)))], [.inl 2, .inl 0, .inr (.inr (some 45))], yc_s33)) rfl (by decide +kernel) yc_m15_9
set_option maxRecDepth 100000 in
theorem yc_m15_7 {d : Nat} : zb_W (d + 1) ax_m1 (35, [some (.inr (.inr (some 40)))], [.inl 1, .inl 1, .inr (.inr (some 45))], yc_s32) (fun v s => v = none ∧ s = yc_s36) := zb_cl [] (g := True) (m := 50) (as := [.inr (.inr (some 45)), .inl 1, .inl 1]) (pc' := 38) (ls' := [some (.inr (.inr (some 40)))]) (st' := []) (s' := yc_s32) (v1 := none) (s1 := yc_s33) rfl trivial (yc_m19 (d := d)) yc_m15_8
set_option maxRecDepth 100000 in
theorem yc_m15_6 {d : Nat} : zb_W (d + 1) ax_m1 (29, [some (.inr (.inr (some 40)))], [], yc_s32) (fun v s => v = none ∧ s = yc_s36) := zb_go [30, 33, 34] (g := True ∧ True ∧ True ∧ True) (z' := (35, [some (.inr (.inr (some 40)))], [.inl 1, .inl 1, .inr (.inr (some 45))], yc_s32)) rfl (by decide +kernel) yc_m15_7
set_option maxRecDepth 100000 in
theorem yc_m15_5 {d : Nat} : zb_W (d + 1) ax_m1 (26, [some (.inr (.inr (some 40)))], [.inl 0, .inl 1, .inr (.inr (some 45))], yc_s31) (fun v s => v = none ∧ s = yc_s36) := zb_cl [] (g := True) (m := 50) (as := [.inr (.inr (some 45)), .inl 1, .inl 0]) (pc' := 29) (ls' := [some (.inr (.inr (some 40)))]) (st' := []) (s' := yc_s31) (v1 := none) (s1 := yc_s32) rfl trivial (yc_m18 (d := d)) yc_m15_6
set_option maxRecDepth 100000 in
theorem yc_m15_4 {d : Nat} : zb_W (d + 1) ax_m1 (20, [some (.inr (.inr (some 40)))], [], yc_s31) (fun v s => v = none ∧ s = yc_s36) := zb_go [21, 24, 25] (g := True ∧ True ∧ True ∧ True) (z' := (26, [some (.inr (.inr (some 40)))], [.inl 0, .inl 1, .inr (.inr (some 45))], yc_s31)) rfl (by decide +kernel) yc_m15_5
set_option maxRecDepth 100000 in
theorem yc_m15_3 {d : Nat} : zb_W (d + 1) ax_m1 (17, [some (.inr (.inr (some 40)))], [.inr (.inr (some 45))], yc_s30) (fun v s => v = none ∧ s = yc_s36) := zb_cl [] (g := True) (m := 49) (as := [.inr (.inr (some 45))]) (pc' := 20) (ls' := [some (.inr (.inr (some 40)))]) (st' := []) (s' := yc_s30) (v1 := none) (s1 := yc_s31) rfl trivial (yc_m17 (d := d)) yc_m15_4
set_option maxRecDepth 100000 in
theorem yc_m15_2 {d : Nat} : zb_W (d + 1) ax_m1 (8, [some (.inr (.inr (some 40)))], [], yc_s29) (fun v s => v = none ∧ s = yc_s36) := zb_go [9, 10, 13, 14] (g := True ∧ True ∧ True ∧ True ∧ True) (z' := (17, [some (.inr (.inr (some 40)))], [.inr (.inr (some 45))], yc_s30)) rfl (by decide +kernel) yc_m15_3
set_option maxRecDepth 100000 in
theorem yc_m15_1 {d : Nat} : zb_W (d + 1) ax_m1 (5, [some (.inr (.inr (some 40)))], [.inl 0, .inr (.inr (some 41))], yc_s28) (fun v s => v = none ∧ s = yc_s36) := zb_cl [] (g := True) (m := 322) (as := [.inr (.inr (some 41)), .inl 0]) (pc' := 8) (ls' := [some (.inr (.inr (some 40)))]) (st' := []) (s' := yc_s28) (v1 := none) (s1 := yc_s29) rfl trivial (yc_m16 (d := d)) yc_m15_2
set_option maxRecDepth 100000 in
theorem yc_m15_0 {d : Nat} : zb_W (d + 1) ax_m1 (0, [some (.inr (.inr (some 40)))], [], yc_s28) (fun v s => v = none ∧ s = yc_s36) := zb_go [1, 4] (g := True ∧ True ∧ True) (z' := (5, [some (.inr (.inr (some 40)))], [.inl 0, .inr (.inr (some 41))], yc_s28)) rfl (by decide +kernel) yc_m15_1
theorem yc_m15 {d : Nat} : zb_C (d + 2) 1 [.inr (.inr (some 40))] yc_s28 (fun v s => v = none ∧ s = yc_s36) := zb_in (M := ax_m1) rfl (Nat.le_of_ble_eq_true rfl) yc_m15_0
set_option maxRecDepth 100000 in
theorem yc_m23_0 {d : Nat} : zb_W d ax_m38 (0, [some (.inr (.inr (some 48)))], [], yc_s36) (fun v s => v = none ∧ s = yc_s37) := zb_ret [1, 2, 5] (g := True ∧ True ∧ True ∧ True) (v := none) (s' := yc_s37) rfl (by decide +kernel) ⟨rfl, rfl⟩
theorem yc_m23 {d : Nat} : zb_C (d + 1) 38 [.inr (.inr (some 48))] yc_s36 (fun v s => v = none ∧ s = yc_s37) := zb_in (M := ax_m38) rfl (Nat.le_of_ble_eq_true rfl) yc_m23_0
set_option maxRecDepth 100000 in
theorem yc_m24_0 {d : Nat} : zb_W d ax_m49 (0, [some (.inr (.inr (some 58)))], [], yc_s37) (fun v s => v = none ∧ s = yc_s38) := zb_ret [1, 2, 5] (g := True ∧ True ∧ True ∧ True) (v := none) (s' := yc_s38) rfl (by decide +kernel) ⟨rfl, rfl⟩
theorem yc_m24 {d : Nat} : zb_C (d + 1) 49 [.inr (.inr (some 58))] yc_s37 (fun v s => v = none ∧ s = yc_s38) := zb_in (M := ax_m49) rfl (Nat.le_of_ble_eq_true rfl) yc_m24_0
set_option maxRecDepth 100000 in
theorem yc_m25_24 {d : Nat} : zb_W d ax_m322 (11, [some (.inr (.inr (some 67))), some (.inl (-1)), some (.inl 63), some (.inl 64)], [.inr (.inr (some 67))], yc_s62) (fun v s => v = none ∧ s = yc_s63) := zb_ret [12, 13, 14, 17, 5, 6, 7, 20] (g := True ∧ True ∧ ((0 : Int) ≤ ax_w 63 ∧ ax_w 63 < ((64 : Nat) : Int)) ∧ True ∧ True ∧ True ∧ True ∧ True ∧ True) (v := none) (s' := yc_s63) rfl (by decide +kernel) ⟨rfl, rfl⟩
set_option maxRecDepth 100000 in
theorem yc_m25_23 {d : Nat} : zb_W d ax_m322 (14, [some (.inr (.inr (some 67))), some (.inl (-1)), some (.inl 60), some (.inl 64)], [], yc_s61) (fun v s => v = none ∧ s = yc_s63) := zb_go [17, 5, 6, 7, 10, 11, 12, 13, 14, 17, 5, 6, 7, 10, 11, 12, 13, 14, 17, 5, 6, 7, 10] (g := True ∧ True ∧ True ∧ True ∧ True ∧ True ∧ True ∧ True ∧ ((0 : Int) ≤ ax_w 61 ∧ ax_w 61 < ((64 : Nat) : Int)) ∧ True ∧ True ∧ True ∧ True ∧ True ∧ True ∧ True ∧ True ∧ ((0 : Int) ≤ ax_w 62 ∧ ax_w 62 < ((64 : Nat) : Int)) ∧ True ∧ True ∧ True ∧ True ∧ True ∧ True) (z' := (11, [some (.inr (.inr (some 67))), some (.inl (-1)), some (.inl 63), some (.inl 64)], [.inr (.inr (some 67))], yc_s62)) rfl (by decide +kernel) yc_m25_24
set_option maxRecDepth 100000 in
theorem yc_m25_22 {d : Nat} : zb_W d ax_m322 (6, [some (.inr (.inr (some 67))), some (.inl (-1)), some (.inl 58), some (.inl 64)], [.inl 58], yc_s60) (fun v s => v = none ∧ s = yc_s63) := zb_go [7, 10, 11, 12, 13, 14, 17, 5, 6, 7, 10, 11, 12, 13, 14, 17, 5, 6, 7, 10, 11, 12, 13] (g := True ∧ True ∧ True ∧ True ∧ True ∧ ((0 : Int) ≤ ax_w 58 ∧ ax_w 58 < ((64 : Nat) : Int)) ∧ True ∧ True ∧ True ∧ True ∧ True ∧ True ∧ True ∧ True ∧ ((0 : Int) ≤ ax_w 59 ∧ ax_w 59 < ((64 : Nat) : Int)) ∧ True ∧ True ∧ True ∧ True ∧ True ∧ True ∧ True ∧ True ∧ ((0 : Int) ≤ ax_w 60 ∧ ax_w 60 < ((64 : Nat) : Int))) (z' := (14, [some (.inr (.inr (some 67))), some (.inl (-1)), some (.inl 60), some (.inl 64)], [], yc_s61)) rfl (by decide +kernel) yc_m25_23
set_option maxRecDepth 100000 in
theorem yc_m25_21 {d : Nat} : zb_W d ax_m322 (11, [some (.inr (.inr (some 67))), some (.inl (-1)), some (.inl 55), some (.inl 64)], [.inr (.inr (some 67))], yc_s59) (fun v s => v = none ∧ s = yc_s63) := zb_go [12, 13, 14, 17, 5, 6, 7, 10, 11, 12, 13, 14, 17, 5, 6, 7, 10, 11, 12, 13, 14, 17, 5] (g := True ∧ True ∧ ((0 : Int) ≤ ax_w 55 ∧ ax_w 55 < ((64 : Nat) : Int)) ∧ True ∧ True ∧ True ∧ True ∧ True ∧ True ∧ True ∧ True ∧ ((0 : Int) ≤ ax_w 56 ∧ ax_w 56 < ((64 : Nat) : Int)) ∧ True ∧ True ∧ True ∧ True ∧ True ∧ True ∧ True ∧ True ∧ ((0 : Int) ≤ ax_w 57 ∧ ax_w 57 < ((64 : Nat) : Int)) ∧ True ∧ True ∧ True) (z' := (6, [some (.inr (.inr (some 67))), some (.inl (-1)), some (.inl 58), some (.inl 64)], [.inl 58], yc_s60)) rfl (by decide +kernel) yc_m25_22
set_option maxRecDepth 100000 in
theorem yc_m25_20 {d : Nat} : zb_W d ax_m322 (14, [some (.inr (.inr (some 67))), some (.inl (-1)), some (.inl 52), some (.inl 64)], [], yc_s58) (fun v s => v = none ∧ s = yc_s63) := zb_go [17, 5, 6, 7, 10, 11, 12, 13, 14, 17, 5, 6, 7, 10, 11, 12, 13, 14, 17, 5, 6, 7, 10] (g := True ∧ True ∧ True ∧ True ∧ True ∧ True ∧ True ∧ True ∧ ((0 : Int) ≤ ax_w 53 ∧ ax_w 53 < ((64 : Nat) : Int)) ∧ True ∧ True ∧ True ∧ True ∧ True ∧ True ∧ True ∧ True ∧ ((0 : Int) ≤ ax_w 54 ∧ ax_w 54 < ((64 : Nat) : Int)) ∧ True ∧ True ∧ True ∧ True ∧ True ∧ True) (z' := (11, [some (.inr (.inr (some 67))), some (.inl (-1)), some (.inl 55), some (.inl 64)], [.inr (.inr (some 67))], yc_s59)) rfl (by decide +kernel) yc_m25_21
set_option maxRecDepth 100000 in
theorem yc_m25_19 {d : Nat} : zb_W d ax_m322 (6, [some (.inr (.inr (some 67))), some (.inl (-1)), some (.inl 50), some (.inl 64)], [.inl 50], yc_s57) (fun v s => v = none ∧ s = yc_s63) := zb_go [7, 10, 11, 12, 13, 14, 17, 5, 6, 7, 10, 11, 12, 13, 14, 17, 5, 6, 7, 10, 11, 12, 13] (g := True ∧ True ∧ True ∧ True ∧ True ∧ ((0 : Int) ≤ ax_w 50 ∧ ax_w 50 < ((64 : Nat) : Int)) ∧ True ∧ True ∧ True ∧ True ∧ True ∧ True ∧ True ∧ True ∧ ((0 : Int) ≤ ax_w 51 ∧ ax_w 51 < ((64 : Nat) : Int)) ∧ True ∧ True ∧ True ∧ True ∧ True ∧ True ∧ True ∧ True ∧ ((0 : Int) ≤ ax_w 52 ∧ ax_w 52 < ((64 : Nat) : Int))) (z' := (14, [some (.inr (.inr (some 67))), some (.inl (-1)), some (.inl 52), some (.inl 64)], [], yc_s58)) rfl (by decide +kernel) yc_m25_20
set_option maxRecDepth 100000 in
theorem yc_m25_18 {d : Nat} : zb_W d ax_m322 (11, [some (.inr (.inr (some 67))), some (.inl (-1)), some (.inl 47), some (.inl 64)], [.inr (.inr (some 67))], yc_s56) (fun v s => v = none ∧ s = yc_s63) := zb_go [12, 13, 14, 17, 5, 6, 7, 10, 11, 12, 13, 14, 17, 5, 6, 7, 10, 11, 12, 13, 14, 17, 5] (g := True ∧ True ∧ ((0 : Int) ≤ ax_w 47 ∧ ax_w 47 < ((64 : Nat) : Int)) ∧ True ∧ True ∧ True ∧ True ∧ True ∧ True ∧ True ∧ True ∧ ((0 : Int) ≤ ax_w 48 ∧ ax_w 48 < ((64 : Nat) : Int)) ∧ True ∧ True ∧ True ∧ True ∧ True ∧ True ∧ True ∧ True ∧ ((0 : Int) ≤ ax_w 49 ∧ ax_w 49 < ((64 : Nat) : Int)) ∧ True ∧ True ∧ True) (z' := (6, [some (.inr (.inr (some 67))), some (.inl (-1)), some (.inl 50), some (.inl 64)], [.inl 50], yc_s57)) rfl (by decide +kernel) yc_m25_19
set_option maxRecDepth 100000 in
theorem yc_m25_17 {d : Nat} : zb_W d ax_m322 (14, [some (.inr (.inr (some 67))), some (.inl (-1)), some (.inl 44), some (.inl 64)], [], yc_s55) (fun v s => v = none ∧ s = yc_s63) := zb_go [17, 5, 6, 7, 10, 11, 12, 13, 14, 17, 5, 6, 7, 10, 11, 12, 13, 14, 17, 5, 6, 7, 10] (g := True ∧ True ∧ True ∧ True ∧ True ∧ True ∧ True ∧ True ∧ ((0 : Int) ≤ ax_w 45 ∧ ax_w 45 < ((64 : Nat) : Int)) ∧ True ∧ True ∧ True ∧ True ∧ True ∧ True ∧ True ∧ True ∧ ((0 : Int) ≤ ax_w 46 ∧ ax_w 46 < ((64 : Nat) : Int)) ∧ True ∧ True ∧ True ∧ True ∧ True ∧ True) (z' := (11, [some (.inr (.inr (some 67))), some (.inl (-1)), some (.inl 47), some (.inl 64)], [.inr (.inr (some 67))], yc_s56)) rfl (by decide +kernel) yc_m25_18
set_option maxRecDepth 100000 in
theorem yc_m25_16 {d : Nat} : zb_W d ax_m322 (6, [some (.inr (.inr (some 67))), some (.inl (-1)), some (.inl 42), some (.inl 64)], [.inl 42], yc_s54) (fun v s => v = none ∧ s = yc_s63) := zb_go [7, 10, 11, 12, 13, 14, 17, 5, 6, 7, 10, 11, 12, 13, 14, 17, 5, 6, 7, 10, 11, 12, 13] (g := True ∧ True ∧ True ∧ True ∧ True ∧ ((0 : Int) ≤ ax_w 42 ∧ ax_w 42 < ((64 : Nat) : Int)) ∧ True ∧ True ∧ True ∧ True ∧ True ∧ True ∧ True ∧ True ∧ ((0 : Int) ≤ ax_w 43 ∧ ax_w 43 < ((64 : Nat) : Int)) ∧ True ∧ True ∧ True ∧ True ∧ True ∧ True ∧ True ∧ True ∧ ((0 : Int) ≤ ax_w 44 ∧ ax_w 44 < ((64 : Nat) : Int))) (z' := (14, [some (.inr (.inr (some 67))), some (.inl (-1)), some (.inl 44), some (.inl 64)], [], yc_s55)) rfl (by decide +kernel) yc_m25_17
set_option maxRecDepth 100000 in
theorem yc_m25_15 {d : Nat} : zb_W d ax_m322 (11, [some (.inr (.inr (some 67))), some (.inl (-1)), some (.inl 39), some (.inl 64)], [.inr (.inr (some 67))], yc_s53) (fun v s => v = none ∧ s = yc_s63) := zb_go [12, 13, 14, 17, 5, 6, 7, 10, 11, 12, 13, 14, 17, 5, 6, 7, 10, 11, 12, 13, 14, 17, 5] (g := True ∧ True ∧ ((0 : Int) ≤ ax_w 39 ∧ ax_w 39 < ((64 : Nat) : Int)) ∧ True ∧ True ∧ True ∧ True ∧ True ∧ True ∧ True ∧ True ∧ ((0 : Int) ≤ ax_w 40 ∧ ax_w 40 < ((64 : Nat) : Int)) ∧ True ∧ True ∧ True ∧ True ∧ True ∧ True ∧ True ∧ True ∧ ((0 : Int) ≤ ax_w 41 ∧ ax_w 41 < ((64 : Nat) : Int)) ∧ True ∧ True ∧ True) (z' := (6, [some (.inr (.inr (some 67))), some (.inl (-1)), some (.inl 42), some (.inl 64)], [.inl 42], yc_s54)) rfl (by decide +kernel) yc_m25_16
set_option maxRecDepth 100000 in
theorem yc_m25_14 {d : Nat} : zb_W d ax_m322 (14, [some (.inr (.inr (some 67))), some (.inl (-1)), some (.inl 36), some (.inl 64)], [], yc_s52) (fun v s => v = none ∧ s = yc_s63) := zb_go [17, 5, 6, 7, 10, 11, 12, 13, 14, 17, 5, 6, 7, 10, 11, 12, 13, 14, 17, 5, 6, 7, 10] (g := True ∧ True ∧ True ∧ True ∧ True ∧ True ∧ True ∧ True ∧ ((0 : Int) ≤ ax_w 37 ∧ ax_w 37 < ((64 : Nat) : Int)) ∧ True ∧ True ∧ True ∧ True ∧ True ∧ True ∧ True ∧ True ∧ ((0 : Int) ≤ ax_w 38 ∧ ax_w 38 < ((64 : Nat) : Int)) ∧ True ∧ True ∧ True ∧ True ∧ True ∧ True) (z' := (11, [some (.inr (.inr (some 67))), some (.inl (-1)), some (.inl 39), some (.inl 64)], [.inr (.inr (some 67))], yc_s53)) rfl (by decide +kernel) yc_m25_15
set_option maxRecDepth 100000 in
theorem yc_m25_13 {d : Nat} : zb_W d ax_m322 (6, [some (.inr (.inr (some 67))), some (.inl (-1)), some (.inl 34), some (.inl 64)], [.inl 34], yc_s51) (fun v s => v = none ∧ s = yc_s63) := zb_go [7, 10, 11, 12, 13, 14, 17, 5, 6, 7, 10, 11, 12, 13, 14, 17, 5, 6, 7, 10, 11, 12, 13] (g := True ∧ True ∧ True ∧ True ∧ True ∧ ((0 : Int) ≤ ax_w 34 ∧ ax_w 34 < ((64 : Nat) : Int)) ∧ True ∧ True ∧ True ∧ True ∧ True ∧ True ∧ True ∧ True ∧ ((0 : Int) ≤ ax_w 35 ∧ ax_w 35 < ((64 : Nat) : Int)) ∧ True ∧ True ∧ True ∧ True ∧ True ∧ True ∧ True ∧ True ∧ ((0 : Int) ≤ ax_w 36 ∧ ax_w 36 < ((64 : Nat) : Int))) (z' := (14, [some (.inr (.inr (some 67))), some (.inl (-1)), some (.inl 36), some (.inl 64)], [], yc_s52)) rfl (by decide +kernel) yc_m25_14
set_option maxRecDepth 100000 in
theorem yc_m25_12 {d : Nat} : zb_W d ax_m322 (11, [some (.inr (.inr (some 67))), some (.inl (-1)), some (.inl 31), some (.inl 64)], [.inr (.inr (some 67))], yc_s50) (fun v s => v = none ∧ s = yc_s63) := zb_go [12, 13, 14, 17, 5, 6, 7, 10, 11, 12, 13, 14, 17, 5, 6, 7, 10, 11, 12, 13, 14, 17, 5] (g := True ∧ True ∧ ((0 : Int) ≤ ax_w 31 ∧ ax_w 31 < ((64 : Nat) : Int)) ∧ True ∧ True ∧ True ∧ True ∧ True ∧ True ∧ True ∧ True ∧ ((0 : Int) ≤ ax_w 32 ∧ ax_w 32 < ((64 : Nat) : Int)) ∧ True ∧ True ∧ True ∧ True ∧ True ∧ True ∧ True ∧ True ∧ ((0 : Int) ≤ ax_w 33 ∧ ax_w 33 < ((64 : Nat) : Int)) ∧ True ∧ True ∧ True) (z' := (6, [some (.inr (.inr (some 67))), some (.inl (-1)), some (.inl 34), some (.inl 64)], [.inl 34], yc_s51)) rfl (by decide +kernel) yc_m25_13
set_option maxRecDepth 100000 in
theorem yc_m25_11 {d : Nat} : zb_W d ax_m322 (14, [some (.inr (.inr (some 67))), some (.inl (-1)), some (.inl 28), some (.inl 64)], [], yc_s49) (fun v s => v = none ∧ s = yc_s63) := zb_go [17, 5, 6, 7, 10, 11, 12, 13, 14, 17, 5, 6, 7, 10, 11, 12, 13, 14, 17, 5, 6, 7, 10] (g := True ∧ True ∧ True ∧ True ∧ True ∧ True ∧ True ∧ True ∧ ((0 : Int) ≤ ax_w 29 ∧ ax_w 29 < ((64 : Nat) : Int)) ∧ True ∧ True ∧ True ∧ True ∧ True ∧ True ∧ True ∧ True ∧ ((0 : Int) ≤ ax_w 30 ∧ ax_w 30 < ((64 : Nat) : Int)) ∧ True ∧ True ∧ True ∧ True ∧ True ∧ True) (z' := (11, [some (.inr (.inr (some 67))), some (.inl (-1)), some (.inl 31), some (.inl 64)], [.inr (.inr (some 67))], yc_s50)) rfl (by decide +kernel) yc_m25_12
set_option maxRecDepth 100000 in
theorem yc_m25_10 {d : Nat} : zb_W d ax_m322 (6, [some (.inr (.inr (some 67))), some (.inl (-1)), some (.inl 26), some (.inl 64)], [.inl 26], yc_s48) (fun v s => v = none ∧ s = yc_s63) := zb_go [7, 10, 11, 12, 13, 14, 17, 5, 6, 7, 10, 11, 12, 13, 14, 17, 5, 6, 7, 10, 11, 12, 13] (g := True ∧ True ∧ True ∧ True ∧ True ∧ ((0 : Int) ≤ ax_w 26 ∧ ax_w 26 < ((64 : Nat) : Int)) ∧ True ∧ True ∧ True ∧ True ∧ True ∧ True ∧ True ∧ True ∧ ((0 : Int) ≤ ax_w 27 ∧ ax_w 27 < ((64 : Nat) : Int)) ∧ True ∧ True ∧ True ∧ True ∧ True ∧ True ∧ True ∧ True ∧ ((0 : Int) ≤ ax_w 28 ∧ ax_w 28 < ((64 : Nat) : Int))) (z' := (14, [some (.inr (.inr (some 67))), some (.inl (-1)), some (.inl 28), some (.inl 64)], [], yc_s49)) rfl (by decide +kernel) yc_m25_11
set_option maxRecDepth 100000 in
theorem yc_m25_9 {d : Nat} : zb_W d ax_m322 (11, [some (.inr (.inr (some 67))), some (.inl (-1)), some (.inl 23), some (.inl 64)], [.inr (.inr (some 67))], yc_s47) (fun v s => v = none ∧ s = yc_s63) := zb_go [12, 13, 14, 17, 5, 6, 7, 10, 11, 12, 13, 14, 17, 5, 6, 7, 10, 11, 12, 13, 14, 17, 5] (g := True ∧ True ∧ ((0 : Int) ≤ ax_w 23 ∧ ax_w 23 < ((64 : Nat) : Int)) ∧ True ∧ True ∧ True ∧ True ∧ True ∧ True ∧ True ∧ True ∧ ((0 : Int) ≤ ax_w 24 ∧ ax_w 24 < ((64 : Nat) : Int)) ∧ True ∧ True ∧ True ∧ True ∧ True ∧ True ∧ True ∧ True ∧ ((0 : Int) ≤ ax_w 25 ∧ ax_w 25 < ((64 : Nat) : Int)) ∧ True ∧ True ∧ True) (z' := (6, [some (.inr (.inr (some 67))), some (.inl (-1)), some (.inl 26), some (.inl 64)], [.inl 26], yc_s48)) rfl (by decide +kernel) yc_m25_10
set_option maxRecDepth 100000 in
theorem yc_m25_8 {d : Nat} : zb_W d ax_m322 (14, [some (.inr (.inr (some 67))), some (.inl (-1)), some (.inl 20), some (.inl 64)], [], yc_s46) (fun v s => v = none ∧ s = yc_s63) := zb_go [17, 5, 6, 7, 10, 11, 12, 13, 14, 17, 5, 6, 7, 10, 11, 12, 13, 14, 17, 5, 6, 7, 10] (g := True ∧ True ∧ True ∧ True ∧ True ∧ True ∧ True ∧ True ∧ ((0 : Int) ≤ ax_w 21 ∧ ax_w 21 < ((64 : Nat) : Int)) ∧ True ∧ True ∧ True ∧ True ∧ True ∧ True ∧ True ∧ True ∧ ((0 : Int) ≤ ax_w 22 ∧ ax_w 22 < ((64 : Nat) : Int)) ∧ True ∧ True ∧ True ∧ True ∧ True ∧ True) (z' := (11, [some (.inr (.inr (some 67))), some (.inl (-1)), some (.inl 23), some (.inl 64)], [.inr (.inr (some 67))], yc_s47)) rfl (by decide +kernel) yc_m25_9
set_option maxRecDepth 100000 in
theorem yc_m25_7 {d : Nat} : zb_W d ax_m322 (6, [some (.inr (.inr (some 67))), some (.inl (-1)), some (.inl 18), some (.inl 64)], [.inl 18], yc_s45) (fun v s => v = none ∧ s = yc_s63) := zb_go [7, 10, 11, 12, 13, 14, 17, 5, 6, 7, 10, 11, 12, 13, 14, 17, 5, 6, 7, 10, 11, 12, 13] (g := True ∧ True ∧ True ∧ True ∧ True ∧ ((0 : Int) ≤ ax_w 18 ∧ ax_w 18 < ((64 : Nat) : Int)) ∧ True ∧ True ∧ True ∧ True ∧ True ∧ True ∧ True ∧ True ∧ ((0 : Int) ≤ ax_w 19 ∧ ax_w 19 < ((64 : Nat) : Int)) ∧ True ∧ True ∧ True ∧ True ∧ True ∧ True ∧ True ∧ True ∧ ((0 : Int) ≤ ax_w 20 ∧ ax_w 20 < ((64 : Nat) : Int))) (z' := (14, [some (.inr (.inr (some 67))), some (.inl (-1)), some (.inl 20), some (.inl 64)], [], yc_s46)) rfl (by decide +kernel) yc_m25_8
set_option maxRecDepth 100000 in
theorem yc_m25_6 {d : Nat} : zb_W d ax_m322 (11, [some (.inr (.inr (some 67))), some (.inl (-1)), some (.inl 15), some (.inl 64)], [.inr (.inr (some 67))], yc_s44) (fun v s => v = none ∧ s = yc_s63) := zb_go [12, 13, 14, 17, 5, 6, 7, 10, 11, 12, 13, 14, 17, 5, 6, 7, 10, 11, 12, 13, 14, 17, 5] (g := True ∧ True ∧ ((0 : Int) ≤ ax_w 15 ∧ ax_w 15 < ((64 : Nat) : Int)) ∧ True ∧ True ∧ True ∧ True ∧ True ∧ True ∧ True ∧ True ∧ ((0 : Int) ≤ ax_w 16 ∧ ax_w 16 < ((64 : Nat) : Int)) ∧ True ∧ True ∧ True ∧ True ∧ True ∧ True ∧ True ∧ True ∧ ((0 : Int) ≤ ax_w 17 ∧ ax_w 17 < ((64 : Nat) : Int)) ∧ True ∧ True ∧ True) (z' := (6, [some (.inr (.inr (some 67))), some (.inl (-1)), some (.inl 18), some (.inl 64)], [.inl 18], yc_s45)) rfl (by decide +kernel) yc_m25_7
set_option maxRecDepth 100000 in
theorem yc_m25_5 {d : Nat} : zb_W d ax_m322 (14, [some (.inr (.inr (some 67))), some (.inl (-1)), some (.inl 12), some (.inl 64)], [], yc_s43) (fun v s => v = none ∧ s = yc_s63) := zb_go [17, 5, 6, 7, 10, 11, 12, 13, 14, 17, 5, 6, 7, 10, 11, 12, 13, 14, 17, 5, 6, 7, 10] (g := True ∧ True ∧ True ∧ True ∧ True ∧ True ∧ True ∧ True ∧ ((0 : Int) ≤ ax_w 13 ∧ ax_w 13 < ((64 : Nat) : Int)) ∧ True ∧ True ∧ True ∧ True ∧ True ∧ True ∧ True ∧ True ∧ ((0 : Int) ≤ ax_w 14 ∧ ax_w 14 < ((64 : Nat) : Int)) ∧ True ∧ True ∧ True ∧ True ∧ True ∧ True) (z' := (11, [some (.inr (.inr (some 67))), some (.inl (-1)), some (.inl 15), some (.inl 64)], [.inr (.inr (some 67))], yc_s44)) rfl (by decide +kernel) yc_m25_6
set_option maxRecDepth 100000 in
theorem yc_m25_4 {d : Nat} : zb_W d ax_m322 (6, [some (.inr (.inr (some 67))), some (.inl (-1)), some (.inl 10), some (.inl 64)], [.inl 10], yc_s42) (fun v s => v = none ∧ s = yc_s63) := zb_go [7, 10, 11, 12, 13, 14, 17, 5, 6, 7, 10, 11, 12, 13, 14, 17, 5, 6, 7, 10, 11, 12, 13] (g := True ∧ True ∧ True ∧ True ∧ True ∧ ((0 : Int) ≤ ax_w 10 ∧ ax_w 10 < ((64 : Nat) : Int)) ∧ True ∧ True ∧ True ∧ True ∧ True ∧ True ∧ True ∧ True ∧ ((0 : Int) ≤ ax_w 11 ∧ ax_w 11 < ((64 : Nat) : Int)) ∧ True ∧ True ∧ True ∧ True ∧ True ∧ True ∧ True ∧ True ∧ ((0 : Int) ≤ ax_w 12 ∧ ax_w 12 < ((64 : Nat) : Int))) (z' := (14, [some (.inr (.inr (some 67))), some (.inl (-1)), some (.inl 12), some (.inl 64)], [], yc_s43)) rfl (by decide +kernel) yc_m25_5
set_option maxRecDepth 100000 in
theorem yc_m25_3 {d : Nat} : zb_W d ax_m322 (11, [some (.inr (.inr (some 67))), some (.inl (-1)), some (.inl 7), some (.inl 64)], [.inr (.inr (some 67))], yc_s41) (fun v s => v = none ∧ s = yc_s63) := zb_go [12, 13, 14, 17, 5, 6, 7, 10, 11, 12, 13, 14, 17, 5, 6, 7, 10, 11, 12, 13, 14, 17, 5] (g := True ∧ True ∧ ((0 : Int) ≤ ax_w 7 ∧ ax_w 7 < ((64 : Nat) : Int)) ∧ True ∧ True ∧ True ∧ True ∧ True ∧ True ∧ True ∧ True ∧ ((0 : Int) ≤ ax_w 8 ∧ ax_w 8 < ((64 : Nat) : Int)) ∧ True ∧ True ∧ True ∧ True ∧ True ∧ True ∧ True ∧ True ∧ ((0 : Int) ≤ ax_w 9 ∧ ax_w 9 < ((64 : Nat) : Int)) ∧ True ∧ True ∧ True) (z' := (6, [some (.inr (.inr (some 67))), some (.inl (-1)), some (.inl 10), some (.inl 64)], [.inl 10], yc_s42)) rfl (by decide +kernel) yc_m25_4
set_option maxRecDepth 100000 in
theorem yc_m25_2 {d : Nat} : zb_W d ax_m322 (14, [some (.inr (.inr (some 67))), some (.inl (-1)), some (.inl 4), some (.inl 64)], [], yc_s40) (fun v s => v = none ∧ s = yc_s63) := zb_go [17, 5, 6, 7, 10, 11, 12, 13, 14, 17, 5, 6, 7, 10, 11, 12, 13, 14, 17, 5, 6, 7, 10] (g := True ∧ True ∧ True ∧ True ∧ True ∧ True ∧ True ∧ True ∧ ((0 : Int) ≤ ax_w 5 ∧ ax_w 5 < ((64 : Nat) : Int)) ∧ True ∧ True ∧ True ∧ True ∧ True ∧ True ∧ True ∧ True ∧ ((0 : Int) ≤ ax_w 6 ∧ ax_w 6 < ((64 : Nat) : Int)) ∧ True ∧ True ∧ True ∧ True ∧ True ∧ True) (z' := (11, [some (.inr (.inr (some 67))), some (.inl (-1)), some (.inl 7), some (.inl 64)], [.inr (.inr (some 67))], yc_s41)) rfl (by decide +kernel) yc_m25_3
set_option maxRecDepth 100000 in
theorem yc_m25_1 {d : Nat} : zb_W d ax_m322 (6, [some (.inr (.inr (some 67))), some (.inl (-1)), some (.inl 2), some (.inl 64)], [.inl 2], yc_s39) (fun v s => v = none ∧ s = yc_s63) := zb_go [7, 10, 11, 12, 13, 14, 17, 5, 6, 7, 10, 11, 12, 13, 14, 17, 5, 6, 7, 10, 11, 12, 13] (g := True ∧ True ∧ True ∧ True ∧ True ∧ ((0 : Int) ≤ ax_w 2 ∧ ax_w 2 < ((64 : Nat) : Int)) ∧ True ∧ True ∧ True ∧ True ∧ True ∧ True ∧ True ∧ True ∧ ((0 : Int) ≤ ax_w 3 ∧ ax_w 3 < ((64 : Nat) : Int)) ∧ True ∧ True ∧ True ∧ True ∧ True ∧ True ∧ True ∧ True ∧ ((0 : Int) ≤ ax_w 4 ∧ ax_w 4 < ((64 : Nat) : Int))) (z' := (14, [some (.inr (.inr (some 67))), some (.inl (-1)), some (.inl 4), some (.inl 64)], [], yc_s40)) rfl (by decide +kernel) yc_m25_2
set_option maxRecDepth 100000 in
theorem yc_m25_0 {d : Nat} : zb_W d ax_m322 (0, [some (.inr (.inr (some 67))), some (.inl (-1)), none, none], [], yc_s38) (fun v s => v = none ∧ s = yc_s63) := zb_go [1, 2, 3, 4, 5, 6, 7, 10, 11, 12, 13, 14, 17, 5, 6, 7, 10, 11, 12, 13, 14, 17, 5] (g := True ∧ True ∧ True ∧ True ∧ True ∧ True ∧ True ∧ True ∧ True ∧ True ∧ True ∧ ((0 : Int) ≤ ax_w 0 ∧ ax_w 0 < ((64 : Nat) : Int)) ∧ True ∧ True ∧ True ∧ True ∧ True ∧ True ∧ True ∧ True ∧ ((0 : Int) ≤ ax_w 1 ∧ ax_w 1 < ((64 : Nat) : Int)) ∧ True ∧ True ∧ True) (z' := (6, [some (.inr (.inr (some 67))), some (.inl (-1)), some (.inl 2), some (.inl 64)], [.inl 2], yc_s39)) rfl (by decide +kernel) yc_m25_1
theorem yc_m25 {d : Nat} : zb_C (d + 1) 322 [.inr (.inr (some 67)), .inl (-1)] yc_s38 (fun v s => v = none ∧ s = yc_s63) := zb_in (M := ax_m322) rfl (Nat.le_of_ble_eq_true rfl) yc_m25_0
set_option maxRecDepth 100000 in
theorem yc_m14_8 {d : Nat} : zb_W (d + 2) ax_m63 (29, [some (.inr (.inr (some 39)))], [], yc_s63) (fun v s => v = none ∧ s = yc_s64) := zb_ret [30, 31, 34, 35, 36, 39, 40, 41, 44, 45, 47, 50, 51, 52, 55] (g := True ∧ True ∧ True ∧ True ∧ True ∧ True ∧ True ∧ True ∧ True ∧ True ∧ True ∧ True ∧ True ∧ True ∧ True ∧ True) (v := none) (s' := yc_s64) rfl (by decide +kernel) ⟨rfl, rfl⟩
set_option maxRecDepth 100000 in
theorem yc_m14_7 {d : Nat} : zb_W (d + 2) ax_m63 (26, [some (.inr (.inr (some 39)))], [.inl (-1), .inr (.inr (some 67))], yc_s38) (fun v s => v = none ∧ s = yc_s64) := zb_cl [] (g := True) (m := 322) (as := [.inr (.inr (some 67)), .inl (-1)]) (pc' := 29) (ls' := [some (.inr (.inr (some 39)))]) (st' := []) (s' := yc_s38) (v1 := none) (s1 := yc_s63) rfl trivial (yc_m25 (d := d + 1)) yc_m14_8
set_option maxRecDepth 100000 in
theorem yc_m14_6 {d : Nat} : zb_W (d + 2) ax_m63 (21, [some (.inr (.inr (some 39)))], [], yc_s38) (fun v s => v = none ∧ s = yc_s64) := zb_go [22, 25] (g := True ∧ True ∧ True) (z' := (26, [some (.inr (.inr (some 39)))], [.inl (-1), .inr (.inr (some 67))], yc_s38)) rfl (by decide +kernel) yc_m14_7
set_option maxRecDepth 100000 in
theorem yc_m14_5 {d : Nat} : zb_W (d + 2) ax_m63 (18, [some (.inr (.inr (some 39)))], [.inr (.inr (some 58))], yc_s37) (fun v s => v = none ∧ s = yc_s64) := zb_cl [] (g := True) (m := 49) (as := [.inr (.inr (some 58))]) (pc' := 21) (ls' := [some (.inr (.inr (some 39)))]) (st' := []) (s' := yc_s37) (v1 := none) (s1 := yc_s38) rfl trivial (yc_m24 (d := d + 1)) yc_m14_6
set_option maxRecDepth 100000 in
theorem yc_m14_4 {d : Nat} : zb_W (d + 2) ax_m63 (14, [some (.inr (.inr (some 39)))], [], yc_s37) (fun v s => v = none ∧ s = yc_s64) := zb_go [15] (g := True ∧ True) (z' := (18, [some (.inr (.inr (some 39)))], [.inr (.inr (some 58))], yc_s37)) rfl (by decide +kernel) yc_m14_5
set_option maxRecDepth 100000 in
theorem yc_m14_3 {d : Nat} : zb_W (d + 2) ax_m63 (11, [some (.inr (.inr (some 39)))], [.inr (.inr (some 48))], yc_s36) (fun v s => v = none ∧ s = yc_s64) := zb_cl [] (g := True) (m := 38) (as := [.inr (.inr (some 48))]) (pc' := 14) (ls' := [some (.inr (.inr (some 39)))]) (st' := []) (s' := yc_s36) (v1 := none) (s1 := yc_s37) rfl trivial (yc_m23 (d := d + 1)) yc_m14_4
set_option maxRecDepth 100000 in
theorem yc_m14_2 {d : Nat} : zb_W (d + 2) ax_m63 (7, [some (.inr (.inr (some 39)))], [], yc_s36) (fun v s => v = none ∧ s = yc_s64) := zb_go [8] (g := True ∧ True) (z' := (11, [some (.inr (.inr (some 39)))], [.inr (.inr (some 48))], yc_s36)) rfl (by decide +kernel) yc_m14_3
set_option maxRecDepth 100000 in
theorem yc_m14_1 {d : Nat} : zb_W (d + 2) ax_m63 (4, [some (.inr (.inr (some 39)))], [.inr (.inr (some 40))], yc_s28) (fun v s => v = none ∧ s = yc_s64) := zb_cl [] (g := True) (m := 1) (as := [.inr (.inr (some 40))]) (pc' := 7) (ls' := [some (.inr (.inr (some 39)))]) (st' := []) (s' := yc_s28) (v1 := none) (s1 := yc_s36) rfl trivial (yc_m15 (d := d)) yc_m14_2
set_option maxRecDepth 100000 in
theorem yc_m14_0 {d : Nat} : zb_W (d + 2) ax_m63 (0, [some (.inr (.inr (some 39)))], [], yc_s28) (fun v s => v = none ∧ s = yc_s64) := zb_go [1] (g := True ∧ True) (z' := (4, [some (.inr (.inr (some 39)))], [.inr (.inr (some 40))], yc_s28)) rfl (by decide +kernel) yc_m14_1
theorem yc_m14 {d : Nat} : zb_C (d + 3) 63 [.inr (.inr (some 39))] yc_s28 (fun v s => v = none ∧ s = yc_s64) := zb_in (M := ax_m63) rfl (Nat.le_of_ble_eq_true rfl) yc_m14_0
set_option maxRecDepth 100000 in
theorem yc_m9_9 {d : Nat} : zb_W (d + 3) ax_m62 (95, [some (.inr (.inr (some 39)))], [], yc_s64) (fun v s => v = none ∧ s = yc_s64) := zb_ret [] (g := True) (v := none) (s' := yc_s64) rfl (by decide +kernel) ⟨rfl, rfl⟩
set_option maxRecDepth 100000 in
theorem yc_m9_8 {d : Nat} : zb_W (d + 3) ax_m62 (92, [some (.inr (.inr (some 39)))], [.inr (.inr (some 39))], yc_s28) (fun v s => v = none ∧ s = yc_s64) := zb_cl [] (g := True) (m := 63) (as := [.inr (.inr (some 39))]) (pc' := 95) (ls' := [some (.inr (.inr (some 39)))]) (st' := []) (s' := yc_s28) (v1 := none) (s1 := yc_s64) rfl trivial (yc_m14 (d := d)) yc_m9_9
set_option maxRecDepth 100000 in
theorem yc_m9_7 {d : Nat} : zb_W (d + 3) ax_m62 (80, [some (.inr (.inr (some 39)))], [.inr (.inr (some 66)), .inr (.inr (some 39))], yc_s27) (fun v s => v = none ∧ s = yc_s64) := zb_go [83, 84, 86, 88, 91] (g := True ∧ True ∧ True ∧ ((0 : Int) ≤ ax_w 64 ∧ ax_w 64 ≤ 65536) ∧ True ∧ True) (z' := (92, [some (.inr (.inr (some 39)))], [.inr (.inr (some 39))], yc_s28)) rfl (by decide +kernel) yc_m9_8
set_option maxRecDepth 100000 in
theorem yc_m9_6 {d : Nat} : zb_W (d + 3) ax_m62 (34, [some (.inr (.inr (some 39)))], [.inr (.inr (some 58)), .inr (.inr (some 39))], yc_s26) (fun v s => v = none ∧ s = yc_s64) := zb_go [37, 38, 40, 42, 45, 46, 48, 50, 53, 54, 56, 58, 61, 62, 63, 65, 68, 69, 70, 72, 75, 76, 78] (g := True ∧ True ∧ True ∧ ((0 : Int) ≤ ax_w 24 ∧ ax_w 24 ≤ 65536) ∧ True ∧ True ∧ True ∧ ((0 : Int) ≤ ax_w 8 ∧ ax_w 8 ≤ 65536) ∧ True ∧ True ∧ True ∧ ((0 : Int) ≤ ax_w 48 ∧ ax_w 48 ≤ 65536) ∧ True ∧ True ∧ True ∧ ((0 : Int) ≤ ax_w 4 ∧ ax_w 4 ≤ 65536) ∧ True ∧ True ∧ True ∧ ((0 : Int) ≤ ax_w 4 ∧ ax_w 4 ≤ 65536) ∧ True ∧ True ∧ True ∧ ((0 : Int) ≤ ax_w 6 ∧ ax_w 6 ≤ 65536)) (z' := (80, [some (.inr (.inr (some 39)))], [.inr (.inr (some 66)), .inr (.inr (some 39))], yc_s27)) rfl (by decide +kernel) yc_m9_7
set_option maxRecDepth 100000 in
theorem yc_m9_5 {d : Nat} : zb_W (d + 3) ax_m62 (31, [some (.inr (.inr (some 39)))], [.inr (.inr (some 58)), .inr (.inr (some 58)), .inr (.inr (some 39))], yc_s25) (fun v s => v = none ∧ s = yc_s64) := zb_cl [] (g := True) (m := 48) (as := [.inr (.inr (some 58))]) (pc' := 34) (ls' := [some (.inr (.inr (some 39)))]) (st' := [.inr (.inr (some 58)), .inr (.inr (some 39))]) (s' := yc_s25) (v1 := none) (s1 := yc_s26) rfl trivial (yc_m13 (d := d + 2)) yc_m9_6
set_option maxRecDepth 100000 in
theorem yc_m9_4 {d : Nat} : zb_W (d + 3) ax_m62 (23, [some (.inr (.inr (some 39)))], [.inr (.inr (some 48)), .inr (.inr (some 39))], yc_s24) (fun v s => v = none ∧ s = yc_s64) := zb_go [26, 27, 30] (g := True ∧ True ∧ True ∧ True) (z' := (31, [some (.inr (.inr (some 39)))], [.inr (.inr (some 58)), .inr (.inr (some 58)), .inr (.inr (some 39))], yc_s25)) rfl (by decide +kernel) yc_m9_5
set_option maxRecDepth 100000 in
theorem yc_m9_3 {d : Nat} : zb_W (d + 3) ax_m62 (20, [some (.inr (.inr (some 39)))], [.inr (.inr (some 48)), .inr (.inr (some 48)), .inr (.inr (some 39))], yc_s22) (fun v s => v = none ∧ s = yc_s64) := zb_cl [] (g := True) (m := 37) (as := [.inr (.inr (some 48))]) (pc' := 23) (ls' := [some (.inr (.inr (some 39)))]) (st' := [.inr (.inr (some 48)), .inr (.inr (some 39))]) (s' := yc_s22) (v1 := none) (s1 := yc_s24) rfl trivial (yc_m12 (d := d + 2)) yc_m9_4
set_option maxRecDepth 100000 in
theorem yc_m9_2 {d : Nat} : zb_W (d + 3) ax_m62 (12, [some (.inr (.inr (some 39)))], [.inr (.inr (some 40)), .inr (.inr (some 39))], yc_s21) (fun v s => v = none ∧ s = yc_s64) := zb_go [15, 16, 19] (g := True ∧ True ∧ True ∧ True) (z' := (20, [some (.inr (.inr (some 39)))], [.inr (.inr (some 48)), .inr (.inr (some 48)), .inr (.inr (some 39))], yc_s22)) rfl (by decide +kernel) yc_m9_3
set_option maxRecDepth 100000 in
theorem yc_m9_1 {d : Nat} : zb_W (d + 3) ax_m62 (9, [some (.inr (.inr (some 39)))], [.inr (.inr (some 40)), .inr (.inr (some 40)), .inr (.inr (some 39))], yc_s18) (fun v s => v = none ∧ s = yc_s64) := zb_cl [] (g := True) (m := 0) (as := [.inr (.inr (some 40))]) (pc' := 12) (ls' := [some (.inr (.inr (some 39)))]) (st' := [.inr (.inr (some 40)), .inr (.inr (some 39))]) (s' := yc_s18) (v1 := none) (s1 := yc_s21) rfl trivial (yc_m10 (d := d + 1)) yc_m9_2
set_option maxRecDepth 100000 in
theorem yc_m9_0 {d : Nat} : zb_W (d + 3) ax_m62 (0, [some (.inr (.inr (some 39)))], [], yc_s17) (fun v s => v = none ∧ s = yc_s64) := zb_go [1, 4, 5, 8] (g := True ∧ True ∧ True ∧ True ∧ True) (z' := (9, [some (.inr (.inr (some 39)))], [.inr (.inr (some 40)), .inr (.inr (some 40)), .inr (.inr (some 39))], yc_s18)) rfl (by decide +kernel) yc_m9_1
theorem yc_m9 {d : Nat} : zb_C (d + 4) 62 [.inr (.inr (some 39))] yc_s17 (fun v s => v = none ∧ s = yc_s64) := zb_in (M := ax_m62) rfl (Nat.le_of_ble_eq_true rfl) yc_m9_0
set_option maxRecDepth 100000 in
theorem yc_m28_0 {d : Nat} : zb_W d ax_m48 (0, [some (.inr (.inr (some 74)))], [], yc_s67) (fun v s => v = none ∧ s = yc_s68) := zb_ret [1, 4, 5, 8, 10, 13, 14, 16, 18, 21] (g := True ∧ True ∧ True ∧ True ∧ ((0 : Int) ≤ ax_w 1600 ∧ ax_w 1600 ≤ 65536) ∧ True ∧ True ∧ True ∧ ((0 : Int) ≤ ax_w 64 ∧ ax_w 64 ≤ 65536) ∧ True ∧ True) (v := none) (s' := yc_s68) rfl (by decide +kernel) ⟨rfl, rfl⟩
theorem yc_m28 {d : Nat} : zb_C (d + 1) 48 [.inr (.inr (some 74))] yc_s67 (fun v s => v = none ∧ s = yc_s68) := zb_in (M := ax_m48) rfl (Nat.le_of_ble_eq_true rfl) yc_m28_0
set_option maxRecDepth 100000 in
theorem yc_m27_2 {d : Nat} : zb_W (d + 1) ax_m0 (43, [some (.inr (.inr (some 69)))], [.inr (.inr (some 74)), .inr (.inr (some 69))], yc_s68) (fun v s => v = none ∧ s = yc_s69) := zb_ret [46] (g := True ∧ True) (v := none) (s' := yc_s69) rfl (by decide +kernel) ⟨rfl, rfl⟩
set_option maxRecDepth 100000 in
theorem yc_m27_1 {d : Nat} : zb_W (d + 1) ax_m0 (40, [some (.inr (.inr (some 69)))], [.inr (.inr (some 74)), .inr (.inr (some 74)), .inr (.inr (some 69))], yc_s67) (fun v s => v = none ∧ s = yc_s69) := zb_cl [] (g := True) (m := 48) (as := [.inr (.inr (some 74))]) (pc' := 43) (ls' := [some (.inr (.inr (some 69)))]) (st' := [.inr (.inr (some 74)), .inr (.inr (some 69))]) (s' := yc_s67) (v1 := none) (s1 := yc_s68) rfl trivial (yc_m28 (d := d)) yc_m27_2
set_option maxRecDepth 100000 in
theorem yc_m27_0 {d : Nat} : zb_W (d + 1) ax_m0 (0, [some (.inr (.inr (some 69)))], [], yc_s66) (fun v s => v = none ∧ s = yc_s69) := zb_go [1, 4, 5, 6, 8, 11, 12, 14, 16, 19, 20, 22, 24, 27, 28, 30, 32, 35, 36, 39] (g := True ∧ True ∧ True ∧ True ∧ ((0 : Int) ≤ ax_w 2 ∧ ax_w 2 ≤ 65536) ∧ True ∧ True ∧ True ∧ ((0 : Int) ≤ ax_w 24 ∧ ax_w 24 ≤ 65536) ∧ True ∧ True ∧ True ∧ ((0 : Int) ≤ ax_w 24 ∧ ax_w 24 ≤ 65536) ∧ True ∧ True ∧ True ∧ ((0 : Int) ≤ ax_w 24 ∧ ax_w 24 ≤ 65536) ∧ True ∧ True ∧ True ∧ True) (z' := (40, [some (.inr (.inr (some 69)))], [.inr (.inr (some 74)), .inr (.inr (some 74)), .inr (.inr (some 69))], yc_s67)) rfl (by decide +kernel) yc_m27_1
theorem yc_m27 {d : Nat} : zb_C (d + 2) 0 [.inr (.inr (some 69))] yc_s66 (fun v s => v = none ∧ s = yc_s69) := zb_in (M := ax_m0) rfl (Nat.le_of_ble_eq_true rfl) yc_m27_0
set_option maxRecDepth 100000 in
theorem yc_m29_1 {d : Nat} : zb_W d ax_m37 (47, [some (.inr (.inr (some 77)))], [.inl 49, .inr (.inr (some 77))], yc_s71) (fun v s => v = none ∧ s = yc_s72) := zb_ret [49, 52, 53, 55, 57, 60, 61, 63, 65, 68, 69, 71, 73, 76, 77, 78, 81, 82, 83, 86, 87, 88, 91] (g := ((0 : Int) ≤ ax_w 49 ∧ ax_w 49 ≤ 65536) ∧ True ∧ True ∧ True ∧ ((0 : Int) ≤ ax_w 49 ∧ ax_w 49 ≤ 65536) ∧ True ∧ True ∧ True ∧ ((0 : Int) ≤ ax_w 12 ∧ ax_w 12 ≤ 65536) ∧ True ∧ True ∧ True ∧ ((0 : Int) ≤ ax_w 12 ∧ ax_w 12 ≤ 65536) ∧ True ∧ True ∧ True ∧ True ∧ True ∧ True ∧ True ∧ True ∧ True ∧ True ∧ True) (v := none) (s' := yc_s72) rfl (by decide +kernel) ⟨rfl, rfl⟩
set_option maxRecDepth 100000 in
theorem yc_m29_0 {d : Nat} : zb_W d ax_m37 (0, [some (.inr (.inr (some 77)))], [], yc_s70) (fun v s => v = none ∧ s = yc_s72) := zb_go [1, 4, 5, 7, 9, 12, 13, 15, 17, 20, 21, 23, 25, 28, 29, 31, 33, 36, 37, 39, 41, 44, 45] (g := True ∧ True ∧ True ∧ True ∧ ((0 : Int) ≤ ax_w 6 ∧ ax_w 6 ≤ 65536) ∧ True ∧ True ∧ True ∧ ((0 : Int) ≤ ax_w 6 ∧ ax_w 6 ≤ 65536) ∧ True ∧ True ∧ True ∧ ((0 : Int) ≤ ax_w 6 ∧ ax_w 6 ≤ 65536) ∧ True ∧ True ∧ True ∧ ((0 : Int) ≤ ax_w 6 ∧ ax_w 6 ≤ 65536) ∧ True ∧ True ∧ True ∧ ((0 : Int) ≤ ax_w 49 ∧ ax_w 49 ≤ 65536) ∧ True ∧ True ∧ True) (z' := (47, [some (.inr (.inr (some 77)))], [.inl 49, .inr (.inr (some 77))], yc_s71)) rfl (by decide +kernel) yc_m29_1
theorem yc_m29 {d : Nat} : zb_C (d + 1) 37 [.inr (.inr (some 77))] yc_s70 (fun v s => v = none ∧ s = yc_s72) := zb_in (M := ax_m37) rfl (Nat.le_of_ble_eq_true rfl) yc_m29_0
set_option maxRecDepth 100000 in
theorem yc_m30_0 {d : Nat} : zb_W d ax_m48 (0, [some (.inr (.inr (some 87)))], [], yc_s73) (fun v s => v = none ∧ s = yc_s74) := zb_ret [1, 4, 5, 8, 10, 13, 14, 16, 18, 21] (g := True ∧ True ∧ True ∧ True ∧ ((0 : Int) ≤ ax_w 1600 ∧ ax_w 1600 ≤ 65536) ∧ True ∧ True ∧ True ∧ ((0 : Int) ≤ ax_w 64 ∧ ax_w 64 ≤ 65536) ∧ True ∧ True) (v := none) (s' := yc_s74) rfl (by decide +kernel) ⟨rfl, rfl⟩
theorem yc_m30 {d : Nat} : zb_C (d + 1) 48 [.inr (.inr (some 87))] yc_s73 (fun v s => v = none ∧ s = yc_s74) := zb_in (M := ax_m48) rfl (Nat.le_of_ble_eq_true rfl) yc_m30_0
set_option maxRecDepth 100000 in
theorem yc_m33_1 {d : Nat} : zb_W d ax_m322 (6, [some (.inr (.inr (some 70))), some (.inl 0), some (.inl 2), some (.inl 2)], [.inl 2], yc_s77) (fun v s => v = none ∧ s = yc_s77) := zb_ret [7, 20] (g := True ∧ True ∧ True) (v := none) (s' := yc_s77) rfl (by decide +kernel) ⟨rfl, rfl⟩
set_option maxRecDepth 100000 in
theorem yc_m33_0 {d : Nat} : zb_W d ax_m322 (0, [some (.inr (.inr (some 70))), some (.inl 0), none, none], [], yc_s76) (fun v s => v = none ∧ s = yc_s77) := zb_go [1, 2, 3, 4, 5, 6, 7, 10, 11, 12, 13, 14, 17, 5, 6, 7, 10, 11, 12, 13, 14, 17, 5] (g := True ∧ True ∧ True ∧ True ∧ True ∧ True ∧ True ∧ True ∧ True ∧ True ∧ True ∧ ((0 : Int) ≤ ax_w 0 ∧ ax_w 0 < ((2 : Nat) : Int)) ∧ True ∧ True ∧ True ∧ True ∧ True ∧ True ∧ True ∧ True ∧ ((0 : Int) ≤ ax_w 1 ∧ ax_w 1 < ((2 : Nat) : Int)) ∧ True ∧ True ∧ True) (z' := (6, [some (.inr (.inr (some 70))), some (.inl 0), some (.inl 2), some (.inl 2)], [.inl 2], yc_s77)) rfl (by decide +kernel) yc_m33_1
theorem yc_m33 {d : Nat} : zb_C (d + 1) 322 [.inr (.inr (some 70)), .inl 0] yc_s76 (fun v s => v = none ∧ s = yc_s77) := zb_in (M := ax_m322) rfl (Nat.le_of_ble_eq_true rfl) yc_m33_0
set_option maxRecDepth 100000 in
theorem yc_m34_0 {d : Nat} : zb_W d ax_m49 (0, [some (.inr (.inr (some 74)))], [], yc_s78) (fun v s => v = none ∧ s = yc_s79) := zb_ret [1, 2, 5] (g := True ∧ True ∧ True ∧ True) (v := none) (s' := yc_s79) rfl (by decide +kernel) ⟨rfl, rfl⟩
theorem yc_m34 {d : Nat} : zb_C (d + 1) 49 [.inr (.inr (some 74))] yc_s78 (fun v s => v = none ∧ s = yc_s79) := zb_in (M := ax_m49) rfl (Nat.le_of_ble_eq_true rfl) yc_m34_0
set_option maxRecDepth 100000 in
theorem yc_m35_0 {d : Nat} : zb_W d ax_m50 (0, [some (.inr (.inr (some 74))), some (.inl 1), some (.inl 0)], [], yc_s79) (fun v s => v = none ∧ s = yc_s80) := zb_ret [1, 4, 5, 8, 9, 12, 13, 16, 17, 20, 21, 22, 23, 24, 25, 26, 27, 28, 31, 32, 33, 36] (g := True ∧ True ∧ True ∧ True ∧ True ∧ True ∧ True ∧ True ∧ True ∧ True ∧ True ∧ True ∧ True ∧ True ∧ True ∧ ((0 : Int) ≤ ax_w 0 ∧ ax_w 0 < ((1600 : Nat) : Int)) ∧ True ∧ True ∧ True ∧ True ∧ True ∧ True ∧ True) (v := none) (s' := yc_s80) rfl (by decide +kernel) ⟨rfl, rfl⟩
theorem yc_m35 {d : Nat} : zb_C (d + 1) 50 [.inr (.inr (some 74)), .inl 1, .inl 0] yc_s79 (fun v s => v = none ∧ s = yc_s80) := zb_in (M := ax_m50) rfl (Nat.le_of_ble_eq_true rfl) yc_m35_0
set_option maxRecDepth 100000 in
theorem yc_m36_0 {d : Nat} : zb_W d ax_m50 (0, [some (.inr (.inr (some 74))), some (.inl 1), some (.inl 1)], [], yc_s80) (fun v s => v = none ∧ s = yc_s81) := zb_ret [1, 4, 5, 8, 9, 12, 13, 16, 17, 20, 21, 22, 23, 24, 25, 26, 27, 28, 31, 32, 33, 36] (g := True ∧ True ∧ True ∧ True ∧ True ∧ True ∧ True ∧ True ∧ True ∧ True ∧ True ∧ True ∧ True ∧ True ∧ True ∧ ((0 : Int) ≤ ax_w 1 ∧ ax_w 1 < ((1600 : Nat) : Int)) ∧ True ∧ True ∧ True ∧ True ∧ True ∧ True ∧ True) (v := none) (s' := yc_s81) rfl (by decide +kernel) ⟨rfl, rfl⟩
theorem yc_m36 {d : Nat} : zb_C (d + 1) 50 [.inr (.inr (some 74)), .inl 1, .inl 1] yc_s80 (fun v s => v = none ∧ s = yc_s81) := zb_in (M := ax_m50) rfl (Nat.le_of_ble_eq_true rfl) yc_m36_0
set_option maxRecDepth 100000 in
theorem yc_m37_0 {d : Nat} : zb_W d ax_m50 (0, [some (.inr (.inr (some 74))), some (.inl 0), some (.inl 2)], [], yc_s81) (fun v s => v = none ∧ s = yc_s82) := zb_ret [1, 4, 5, 8, 9, 12, 13, 16, 17, 20, 21, 22, 23, 24, 25, 26, 27, 28, 31, 32, 33, 36] (g := True ∧ True ∧ True ∧ True ∧ True ∧ True ∧ True ∧ True ∧ True ∧ True ∧ True ∧ True ∧ True ∧ True ∧ True ∧ ((0 : Int) ≤ ax_w 2 ∧ ax_w 2 < ((1600 : Nat) : Int)) ∧ True ∧ True ∧ True ∧ True ∧ True ∧ True ∧ True) (v := none) (s' := yc_s82) rfl (by decide +kernel) ⟨rfl, rfl⟩
theorem yc_m37 {d : Nat} : zb_C (d + 1) 50 [.inr (.inr (some 74)), .inl 0, .inl 2] yc_s81 (fun v s => v = none ∧ s = yc_s82) := zb_in (M := ax_m50) rfl (Nat.le_of_ble_eq_true rfl) yc_m37_0
set_option maxRecDepth 100000 in
theorem yc_m38_0 {d : Nat} : zb_W d ax_m50 (0, [some (.inr (.inr (some 74))), some (.inl 7), some (.inl 0)], [], yc_s82) (fun v s => v = none ∧ s = yc_s83) := zb_ret [1, 4, 5, 8, 9, 12, 13, 16, 17, 20, 21, 22, 23, 24, 25, 26, 27, 28, 31, 32, 33, 36] (g := True ∧ True ∧ True ∧ True ∧ True ∧ True ∧ True ∧ True ∧ True ∧ True ∧ True ∧ True ∧ True ∧ True ∧ True ∧ ((0 : Int) ≤ ax_w 3 ∧ ax_w 3 < ((1600 : Nat) : Int)) ∧ True ∧ True ∧ True ∧ True ∧ True ∧ True ∧ True) (v := none) (s' := yc_s83) rfl (by decide +kernel) ⟨rfl, rfl⟩
theorem yc_m38 {d : Nat} : zb_C (d + 1) 50 [.inr (.inr (some 74)), .inl 7, .inl 0] yc_s82 (fun v s => v = none ∧ s = yc_s83) := zb_in (M := ax_m50) rfl (Nat.le_of_ble_eq_true rfl) yc_m38_0
set_option maxRecDepth 100000 in
theorem yc_m39_0 {d : Nat} : zb_W d ax_m50 (0, [some (.inr (.inr (some 74))), some (.inl 5), some (.inl 0)], [], yc_s83) (fun v s => v = none ∧ s = yc_s84) := zb_ret [1, 4, 5, 8, 9, 12, 13, 16, 17, 20, 21, 22, 23, 24, 25, 26, 27, 28, 31, 32, 33, 36] (g := True ∧ True ∧ True ∧ True ∧ True ∧ True ∧ True ∧ True ∧ True ∧ True ∧ True ∧ True ∧ True ∧ True ∧ True ∧ ((0 : Int) ≤ ax_w 4 ∧ ax_w 4 < ((1600 : Nat) : Int)) ∧ True ∧ True ∧ True ∧ True ∧ True ∧ True ∧ True) (v := none) (s' := yc_s84) rfl (by decide +kernel) ⟨rfl, rfl⟩
theorem yc_m39 {d : Nat} : zb_C (d + 1) 50 [.inr (.inr (some 74)), .inl 5, .inl 0] yc_s83 (fun v s => v = none ∧ s = yc_s84) := zb_in (M := ax_m50) rfl (Nat.le_of_ble_eq_true rfl) yc_m39_0
set_option maxRecDepth 100000 in
theorem yc_m32_14 {d : Nat} : zb_W (d + 1) ax_m1 (66, [some (.inr (.inr (some 69)))], [], yc_s84) (fun v s => v = none ∧ s = yc_s84) := zb_ret [] (g := True) (v := none) (s' := yc_s84) rfl (by decide +kernel) ⟨rfl, rfl⟩
set_option maxRecDepth 100000 in
theorem yc_m32_13 {d : Nat} : zb_W (d + 1) ax_m1 (63, [some (.inr (.inr (some 69)))], [.inl 0, .inl 5, .inr (.inr (some 74))], yc_s83) (fun v s => v = none ∧ s = yc_s84) := zb_cl [] (g := True) (m := 50) (as := [.inr (.inr (some 74)), .inl 5, .inl 0]) (pc' := 66) (ls' := [some (.inr (.inr (some 69)))]) (st' := []) (s' := yc_s83) (v1 := none) (s1 := yc_s84) rfl trivial (yc_m39 (d := d)) yc_m32_14
set_option maxRecDepth 100000 in
theorem yc_m32_12 {d : Nat} : zb_W (d + 1) ax_m1 (57, [some (.inr (.inr (some 69)))], [], yc_s83) (fun v s => v = none ∧ s = yc_s84) := zb_go [58, 61, 62] (g := True ∧ True ∧ True ∧ True) (z' := (63, [some (.inr (.inr (some 69)))], [.inl 0, .inl 5, .inr (.inr (some 74))], yc_s83)) rfl (by decide +kernel) yc_m32_13
set_option maxRecDepth 100000 in
theorem yc_m32_11 {d : Nat} : zb_W (d + 1) ax_m1 (54, [some (.inr (.inr (some 69)))], [.inl 0, .inl 7, .inr (.inr (some 74))], yc_s82) (fun v s => v = none ∧ s = yc_s84) := zb_cl [] (g := True) (m := 50) (as := [.inr (.inr (some 74)), .inl 7, .inl 0]) (pc' := 57) (ls' := [some (.inr (.inr (some 69)))]) (st' := []) (s' := yc_s82) (v1 := none) (s1 := yc_s83) rfl trivial (yc_m38 (d := d)) yc_m32_12
set_option maxRecDepth 100000 in
theorem yc_m32_10 {d : Nat} : zb_W (d + 1) ax_m1 (47, [some (.inr (.inr (some 69)))], [], yc_s82) (fun v s => v = none ∧ s = yc_s84) := zb_go [48, 51, 53] (g := True ∧ True ∧ True ∧ True) (z' := (54, [some (.inr (.inr (some 69)))], [.inl 0, .inl 7, .inr (.inr (some 74))], yc_s82)) rfl (by decide +kernel) yc_m32_11
set_option maxRecDepth 100000 in
theorem yc_m32_9 {d : Nat} : zb_W (d + 1) ax_m1 (44, [some (.inr (.inr (some 69)))], [.inl 2, .inl 0, .inr (.inr (some 74))], yc_s81) (fun v s => v = none ∧ s = yc_s84) := zb_cl [] (g := True) (m := 50) (as := [.inr (.inr (some 74)), .inl 0, .inl 2]) (pc' := 47) (ls' := [some (.inr (.inr (some 69)))]) (st' := []) (s' := yc_s81) (v1 := none) (s1 := yc_s82) rfl trivial (yc_m37 (d := d)) yc_m32_10
set_option maxRecDepth 100000 in
theorem yc_m32_8 {d : Nat} : zb_W (d + 1) ax_m1 (38, [some (.inr (.inr (some 69)))], [], yc_s81) (fun v s => v = none ∧ s = yc_s84) := zb_go [39, 42, 43] (g := True ∧ True ∧ True ∧ True) (z' := (44, [some (.inr (.inr (some 69)))], [.inl 2, .inl 0, .inr (.inr (some 74))], yc_s81)) rfl (by decide +kernel) yc_m32_9
set_option maxRecDepth 100000 in
theorem yc_m32_7 {d : Nat} : zb_W (d + 1) ax_m1 (35, [some (.inr (.inr (some 69)))], [.inl 1, .inl 1, .inr (.inr (some 74))], yc_s80) (fun v s => v = none ∧ s = yc_s84) := zb_cl [] (g := True) (m := 50) (as := [.inr (.inr (some 74)), .inl 1, .inl 1]) (pc' := 38) (ls' := [some (.inr (.inr (some 69)))]) (st' := []) (s' := yc_s80) (v1 := none) (s1 := yc_s81) rfl trivial (yc_m36 (d := d)) yc_m32_8
set_option maxRecDepth 100000 in
theorem yc_m32_6 {d : Nat} : zb_W (d + 1) ax_m1 (29, [some (.inr (.inr (some 69)))], [], yc_s80) (fun v s => v = none ∧ s = yc_s84) := zb_go [30, 33, 34] (g := True ∧ True ∧ True ∧ True) (z' := (35, [some (.inr (.inr (some 69)))], [.inl 1, .inl 1, .inr (.inr (some 74))], yc_s80)) rfl (by decide +kernel) yc_m32_7
set_option maxRecDepth 100000 in
theorem yc_m32_5 {d : Nat} : zb_W (d + 1) ax_m1 (26, [some (.inr (.inr (some 69)))], [.inl 0, .inl 1, .inr (.inr (some 74))], yc_s79) (fun v s => v = none ∧ s = yc_s84) := zb_cl [] (g := True) (m := 50) (as := [.inr (.inr (some 74)), .inl 1, .inl 0]) (pc' := 29) (ls' := [some (.inr (.inr (some 69)))]) (st' := []) (s' := yc_s79) (v1 := none) (s1 := yc_s80) rfl trivial (yc_m35 (d := d)) yc_m32_6
set_option maxRecDepth 100000 in
theorem yc_m32_4 {d : Nat} : zb_W (d + 1) ax_m1 (20, [some (.inr (.inr (some 69)))], [], yc_s79) (fun v s => v = none ∧ s = yc_s84) := zb_go [21, 24, 25] (g := True ∧ True ∧ True ∧ True) (z' := (26, [some (.inr (.inr (some 69)))], [.inl 0, .inl 1, .inr (.inr (some 74))], yc_s79)) rfl (by decide +kernel) yc_m32_5
set_option maxRecDepth 100000 in
theorem yc_m32_3 {d : Nat} : zb_W (d + 1) ax_m1 (17, [some (.inr (.inr (some 69)))], [.inr (.inr (some 74))], yc_s78) (fun v s => v = none ∧ s = yc_s84) := zb_cl [] (g := True) (m := 49) (as := [.inr (.inr (some 74))]) (pc' := 20) (ls' := [some (.inr (.inr (some 69)))]) (st' := []) (s' := yc_s78) (v1 := none) (s1 := yc_s79) rfl trivial (yc_m34 (d := d)) yc_m32_4
set_option maxRecDepth 100000 in
theorem yc_m32_2 {d : Nat} : zb_W (d + 1) ax_m1 (8, [some (.inr (.inr (some 69)))], [], yc_s77) (fun v s => v = none ∧ s = yc_s84) := zb_go [9, 10, 13, 14] (g := True ∧ True ∧ True ∧ True ∧ True) (z' := (17, [some (.inr (.inr (some 69)))], [.inr (.inr (some 74))], yc_s78)) rfl (by decide +kernel) yc_m32_3
set_option maxRecDepth 100000 in
theorem yc_m32_1 {d : Nat} : zb_W (d + 1) ax_m1 (5, [some (.inr (.inr (some 69)))], [.inl 0, .inr (.inr (some 70))], yc_s76) (fun v s => v = none ∧ s = yc_s84) := zb_cl [] (g := True) (m := 322) (as := [.inr (.inr (some 70)), .inl 0]) (pc' := 8) (ls' := [some (.inr (.inr (some 69)))]) (st' := []) (s' := yc_s76) (v1 := none) (s1 := yc_s77) rfl trivial (yc_m33 (d := d)) yc_m32_2
set_option maxRecDepth 100000 in
theorem yc_m32_0 {d : Nat} : zb_W (d + 1) ax_m1 (0, [some (.inr (.inr (some 69)))], [], yc_s76) (fun v s => v = none ∧ s = yc_s84) := zb_go [1, 4] (g := True ∧ True ∧ True) (z' := (5, [some (.inr (.inr (some 69)))], [.inl 0, .inr (.inr (some 70))], yc_s76)) rfl (by decide +kernel) yc_m32_1
theorem yc_m32 {d : Nat} : zb_C (d + 2) 1 [.inr (.inr (some 69))] yc_s76 (fun v s => v = none ∧ s = yc_s84) := zb_in (M := ax_m1) rfl (Nat.le_of_ble_eq_true rfl) yc_m32_0
set_option maxRecDepth 100000 in
theorem yc_m40_0 {d : Nat} : zb_W d ax_m38 (0, [some (.inr (.inr (some 77)))], [], yc_s84) (fun v s => v = none ∧ s = yc_s85) := zb_ret [1, 2, 5] (g := True ∧ True ∧ True ∧ True) (v := none) (s' := yc_s85) rfl (by decide +kernel) ⟨rfl, rfl⟩
theorem yc_m40 {d : Nat} : zb_C (d + 1) 38 [.inr (.inr (some 77))] yc_s84 (fun v s => v = none ∧ s = yc_s85) := zb_in (M := ax_m38) rfl (Nat.le_of_ble_eq_true rfl) yc_m40_0
set_option maxRecDepth 100000 in
theorem yc_m41_0 {d : Nat} : zb_W d ax_m49 (0, [some (.inr (.inr (some 87)))], [], yc_s85) (fun v s => v = none ∧ s = yc_s86) := zb_ret [1, 2, 5] (g := True ∧ True ∧ True ∧ True) (v := none) (s' := yc_s86) rfl (by decide +kernel) ⟨rfl, rfl⟩
theorem yc_m41 {d : Nat} : zb_C (d + 1) 49 [.inr (.inr (some 87))] yc_s85 (fun v s => v = none ∧ s = yc_s86) := zb_in (M := ax_m49) rfl (Nat.le_of_ble_eq_true rfl) yc_m41_0
set_option maxRecDepth 100000 in
theorem yc_m42_24 {d : Nat} : zb_W d ax_m322 (11, [some (.inr (.inr (some 96))), some (.inl (-1)), some (.inl 63), some (.inl 64)], [.inr (.inr (some 96))], yc_s110) (fun v s => v = none ∧ s = yc_s111) := zb_ret [12, 13, 14, 17, 5, 6, 7, 20] (g := True ∧ True ∧ ((0 : Int) ≤ ax_w 63 ∧ ax_w 63 < ((64 : Nat) : Int)) ∧ True ∧ True ∧ True ∧ True ∧ True ∧ True) (v := none) (s' := yc_s111) rfl (by decide +kernel) ⟨rfl, rfl⟩
set_option maxRecDepth 100000 in
theorem yc_m42_23 {d : Nat} : zb_W d ax_m322 (14, [some (.inr (.inr (some 96))), some (.inl (-1)), some (.inl 60), some (.inl 64)], [], yc_s109) (fun v s => v = none ∧ s = yc_s111) := zb_go [17, 5, 6, 7, 10, 11, 12, 13, 14, 17, 5, 6, 7, 10, 11, 12, 13, 14, 17, 5, 6, 7, 10] (g := True ∧ True ∧ True ∧ True ∧ True ∧ True ∧ True ∧ True ∧ ((0 : Int) ≤ ax_w 61 ∧ ax_w 61 < ((64 : Nat) : Int)) ∧ True ∧ True ∧ True ∧ True ∧ True ∧ True ∧ True ∧ True ∧ ((0 : Int) ≤ ax_w 62 ∧ ax_w 62 < ((64 : Nat) : Int)) ∧ True ∧ True ∧ True ∧ True ∧ True ∧ True) (z' := (11, [some (.inr (.inr (some 96))), some (.inl (-1)), some (.inl 63), some (.inl 64)], [.inr (.inr (some 96))], yc_s110)) rfl (by decide +kernel) yc_m42_24
set_option maxRecDepth 100000 in
theorem yc_m42_22 {d : Nat} : zb_W d ax_m322 (6, [some (.inr (.inr (some 96))), some (.inl (-1)), some (.inl 58), some (.inl 64)], [.inl 58], yc_s108) (fun v s => v = none ∧ s = yc_s111) := zb_go [7, 10, 11, 12, 13, 14, 17, 5, 6, 7, 10, 11, 12, 13, 14, 17, 5, 6, 7, 10, 11, 12, 13] (g := True ∧ True ∧ True ∧ True ∧ True ∧ ((0 : Int) ≤ ax_w 58 ∧ ax_w 58 < ((64 : Nat) : Int)) ∧ True ∧ True ∧ True ∧ True ∧ True ∧ True ∧ True ∧ True ∧ ((0 : Int) ≤ ax_w 59 ∧ ax_w 59 < ((64 : Nat) : Int)) ∧ True ∧ True ∧ True ∧ True ∧ True ∧ True ∧ True ∧ True ∧ ((0 : Int) ≤ ax_w 60 ∧ ax_w 60 < ((64 : Nat) : Int))) (z' := (14, [some (.inr (.inr (some 96))), some (.inl (-1)), some (.inl 60), some (.inl 64)], [], yc_s109)) rfl (by decide +kernel) yc_m42_23
set_option maxRecDepth 100000 in
theorem yc_m42_21 {d : Nat} : zb_W d ax_m322 (11, [some (.inr (.inr (some 96))), some (.inl (-1)), some (.inl 55), some (.inl 64)], [.inr (.inr (some 96))], yc_s107) (fun v s => v = none ∧ s = yc_s111) := zb_go [12, 13, 14, 17, 5, 6, 7, 10, 11, 12, 13, 14, 17, 5, 6, 7, 10, 11, 12, 13, 14, 17, 5] (g := True ∧ True ∧ ((0 : Int) ≤ ax_w 55 ∧ ax_w 55 < ((64 : Nat) : Int)) ∧ True ∧ True ∧ True ∧ True ∧ True ∧ True ∧ True ∧ True ∧ ((0 : Int) ≤ ax_w 56 ∧ ax_w 56 < ((64 : Nat) : Int)) ∧ True ∧ True ∧ True ∧ True ∧ True ∧ True ∧ True ∧ True ∧ ((0 : Int) ≤ ax_w 57 ∧ ax_w 57 < ((64 : Nat) : Int)) ∧ True ∧ True ∧ True) (z' := (6, [some (.inr (.inr (some 96))), some (.inl (-1)), some (.inl 58), some (.inl 64)], [.inl 58], yc_s108)) rfl (by decide +kernel) yc_m42_22
set_option maxRecDepth 100000 in
theorem yc_m42_20 {d : Nat} : zb_W d ax_m322 (14, [some (.inr (.inr (some 96))), some (.inl (-1)), some (.inl 52), some (.inl 64)], [], yc_s106) (fun v s => v = none ∧ s = yc_s111) := zb_go [17, 5, 6, 7, 10, 11, 12, 13, 14, 17, 5, 6, 7, 10, 11, 12, 13, 14, 17, 5, 6, 7, 10] (g := True ∧ True ∧ True ∧ True ∧ True ∧ True ∧ True ∧ True ∧ ((0 : Int) ≤ ax_w 53 ∧ ax_w 53 < ((64 : Nat) : Int)) ∧ True ∧ True ∧ True ∧ True ∧ True ∧ True ∧ True ∧ True ∧ ((0 : Int) ≤ ax_w 54 ∧ ax_w 54 < ((64 : Nat) : Int)) ∧ True ∧ True ∧ True ∧ True ∧ True ∧ True) (z' := (11, [some (.inr (.inr (some 96))), some (.inl (-1)), some (.inl 55), some (.inl 64)], [.inr (.inr (some 96))], yc_s107)) rfl (by decide +kernel) yc_m42_21
set_option maxRecDepth 100000 in
theorem yc_m42_19 {d : Nat} : zb_W d ax_m322 (6, [some (.inr (.inr (some 96))), some (.inl (-1)), some (.inl 50), some (.inl 64)], [.inl 50], yc_s105) (fun v s => v = none ∧ s = yc_s111) := zb_go [7, 10, 11, 12, 13, 14, 17, 5, 6, 7, 10, 11, 12, 13, 14, 17, 5, 6, 7, 10, 11, 12, 13] (g := True ∧ True ∧ True ∧ True ∧ True ∧ ((0 : Int) ≤ ax_w 50 ∧ ax_w 50 < ((64 : Nat) : Int)) ∧ True ∧ True ∧ True ∧ True ∧ True ∧ True ∧ True ∧ True ∧ ((0 : Int) ≤ ax_w 51 ∧ ax_w 51 < ((64 : Nat) : Int)) ∧ True ∧ True ∧ True ∧ True ∧ True ∧ True ∧ True ∧ True ∧ ((0 : Int) ≤ ax_w 52 ∧ ax_w 52 < ((64 : Nat) : Int))) (z' := (14, [some (.inr (.inr (some 96))), some (.inl (-1)), some (.inl 52), some (.inl 64)], [], yc_s106)) rfl (by decide +kernel) yc_m42_20
set_option maxRecDepth 100000 in
theorem yc_m42_18 {d : Nat} : zb_W d ax_m322 (11, [some (.inr (.inr (some 96))), some (.inl (-1)), some (.inl 47), some (.inl 64)], [.inr (.inr (some 96))], yc_s104) (fun v s => v = none ∧ s = yc_s111) := zb_go [12, 13, 14, 17, 5, 6, 7, 10, 11, 12, 13, 14, 17, 5, 6, 7, 10, 11, 12, 13, 14, 17, 5] (g := True ∧ True ∧ ((0 : Int) ≤ ax_w 47 ∧ ax_w 47 < ((64 : Nat) : Int)) ∧ True ∧ True ∧ True ∧ True ∧ True ∧ True ∧ True ∧ True ∧ ((0 : Int) ≤ ax_w 48 ∧ ax_w 48 < ((64 : Nat) : Int)) ∧ True ∧ True ∧ True ∧ True ∧ True ∧ True ∧ True ∧ True ∧ ((0 : Int) ≤ ax_w 49 ∧ ax_w 49 < ((64 : Nat) : Int)) ∧ True ∧ True ∧ True) (z' := (6, [some (.inr (.inr (some 96))), some (.inl (-1)), some (.inl 50), some (.inl 64)], [.inl 50], yc_s105)) rfl (by decide +kernel) yc_m42_19
set_option maxRecDepth 100000 in
theorem yc_m42_17 {d : Nat} : zb_W d ax_m322 (14, [some (.inr (.inr (some 96))), some (.inl (-1)), some (.inl 44), some (.inl 64)], [], yc_s103) (fun v s => v = none ∧ s = yc_s111) := zb_go [17, 5, 6, 7, 10, 11, 12, 13, 14, 17, 5, 6, 7, 10, 11, 12, 13, 14, 17, 5, 6, 7, 10] (g := True ∧ True ∧ True ∧ True ∧ True ∧ True ∧ True ∧ True ∧ ((0 : Int) ≤ ax_w 45 ∧ ax_w 45 < ((64 : Nat) : Int)) ∧ True ∧ True ∧ True ∧ True ∧ True ∧ True ∧ True ∧ True ∧ ((0 : Int) ≤ ax_w 46 ∧ ax_w 46 < ((64 : Nat) : Int)) ∧ True ∧ True ∧ True ∧ True ∧ True ∧ True) (z' := (11, [some (.inr (.inr (some 96))), some (.inl (-1)), some (.inl 47), some (.inl 64)], [.inr (.inr (some 96))], yc_s104)) rfl (by decide +kernel) yc_m42_18
set_option maxRecDepth 100000 in
theorem yc_m42_16 {d : Nat} : zb_W d ax_m322 (6, [some (.inr (.inr (some 96))), some (.inl (-1)), some (.inl 42), some (.inl 64)], [.inl 42], yc_s102) (fun v s => v = none ∧ s = yc_s111) := zb_go [7, 10, 11, 12, 13, 14, 17, 5, 6, 7, 10, 11, 12, 13, 14, 17, 5, 6, 7, 10, 11, 12, 13] (g := True ∧ True ∧ True ∧ True ∧ True ∧ ((0 : Int) ≤ ax_w 42 ∧ ax_w 42 < ((64 : Nat) : Int)) ∧ True ∧ True ∧ True ∧ True ∧ True ∧ True ∧ True ∧ True ∧ ((0 : Int) ≤ ax_w 43 ∧ ax_w 43 < ((64 : Nat) : Int)) ∧ True ∧ True ∧ True ∧ True ∧ True ∧ True ∧ True ∧ True ∧ ((0 : Int) ≤ ax_w 44 ∧ ax_w 44 < ((64 : Nat) : Int))) (z' := (14, [some (.inr (.inr (some 96))), some (.inl (-1)), some (.inl 44), some (.inl 64)], [], yc_s103)) rfl (by decide +kernel) yc_m42_17
set_option maxRecDepth 100000 in
theorem yc_m42_15 {d : Nat} : zb_W d ax_m322 (11, [some (.inr (.inr (some 96))), some (.inl (-1)), some (.inl 39), some (.inl 64)], [.inr (.inr (some 96))], yc_s101) (fun v s => v = none ∧ s = yc_s111) := zb_go [12, 13, 14, 17, 5, 6, 7, 10, 11, 12, 13, 14, 17, 5, 6, 7, 10, 11, 12, 13, 14, 17, 5] (g := True ∧ True ∧ ((0 : Int) ≤ ax_w 39 ∧ ax_w 39 < ((64 : Nat) : Int)) ∧ True ∧ True ∧ True ∧ True ∧ True ∧ True ∧ True ∧ True ∧ ((0 : Int) ≤ ax_w 40 ∧ ax_w 40 < ((64 : Nat) : Int)) ∧ True ∧ True ∧ True ∧ True ∧ True ∧ True ∧ True ∧ True ∧ ((0 : Int) ≤ ax_w 41 ∧ ax_w 41 < ((64 : Nat) : Int)) ∧ True ∧ True ∧ True) (z' := (6, [some (.inr (.inr (some 96))), some (.inl (-1)), some (.inl 42), some (.inl 64)], [.inl 42], yc_s102)) rfl (by decide +kernel) yc_m42_16
set_option maxRecDepth 100000 in
theorem yc_m42_14 {d : Nat} : zb_W d ax_m322 (14, [some (.inr (.inr (some 96))), some (.inl (-1)), some (.inl 36), some (.inl 64)], [], yc_s100) (fun v s => v = none ∧ s = yc_s111) := zb_go [17, 5, 6, 7, 10, 11, 12, 13, 14, 17, 5, 6, 7, 10, 11, 12, 13, 14, 17, 5, 6, 7, 10] (g := True ∧ True ∧ True ∧ True ∧ True ∧ True ∧ True ∧ True ∧ ((0 : Int) ≤ ax_w 37 ∧ ax_w 37 < ((64 : Nat) : Int)) ∧ True ∧ True ∧ True ∧ True ∧ True ∧ True ∧ True ∧ True ∧ ((0 : Int) ≤ ax_w 38 ∧ ax_w 38 < ((64 : Nat) : Int)) ∧ True ∧ True ∧ True ∧ True ∧ True ∧ True) (z' := (11, [some (.inr (.inr (some 96))), some (.inl (-1)), some (.inl 39), some (.inl 64)], [.inr (.inr (some 96))], yc_s101)) rfl (by decide +kernel) yc_m42_15
set_option maxRecDepth 100000 in
theorem yc_m42_13 {d : Nat} : zb_W d ax_m322 (6, [some (.inr (.inr (some 96))), some (.inl (-1)), some (.inl 34), some (.inl 64)], [.inl 34], yc_s99) (fun v s => v = none ∧ s = yc_s111) := zb_go [7, 10, 11, 12, 13, 14, 17, 5, 6, 7, 10, 11, 12, 13, 14, 17, 5, 6, 7, 10, 11, 12, 13] (g := True ∧ True ∧ True ∧ True ∧ True ∧ ((0 : Int) ≤ ax_w 34 ∧ ax_w 34 < ((64 : Nat) : Int)) ∧ True ∧ True ∧ True ∧ True ∧ True ∧ True ∧ True ∧ True ∧ ((0 : Int) ≤ ax_w 35 ∧ ax_w 35 < ((64 : Nat) : Int)) ∧ True ∧ True ∧ True ∧ True ∧ True ∧ True ∧ True ∧ True ∧ ((0 : Int) ≤ ax_w 36 ∧ ax_w 36 < ((64 : Nat) : Int))) (z' := (14, [some (.inr (.inr (some 96))), some (.inl (-1)), some (.inl 36), some (.inl 64)], [], yc_s100)) rfl (by decide +kernel) yc_m42_14
set_option maxRecDepth 100000 in
theorem yc_m42_12 {d : Nat} : zb_W d ax_m322 (11, [some (.inr (.inr (some 96))), some (.inl (-1)), some (.inl 31), some (.inl 64)], [.inr (.inr (some 96))], yc_s98) (fun v s => v = none ∧ s = yc_s111) := zb_go [12, 13, 14, 17, 5, 6, 7, 10, 11, 12, 13, 14, 17, 5, 6, 7, 10, 11, 12, 13, 14, 17, 5] (g := True ∧ True ∧ ((0 : Int) ≤ ax_w 31 ∧ ax_w 31 < ((64 : Nat) : Int)) ∧ True ∧ True ∧ True ∧ True ∧ True ∧ True ∧ True ∧ True ∧ ((0 : Int) ≤ ax_w 32 ∧ ax_w 32 < ((64 : Nat) : Int)) ∧ True ∧ True ∧ True ∧ True ∧ True ∧ True ∧ True ∧ True ∧ ((0 : Int) ≤ ax_w 33 ∧ ax_w 33 < ((64 : Nat) : Int)) ∧ True ∧ True ∧ True) (z' := (6, [some (.inr (.inr (some 96))), some (.inl (-1)), some (.inl 34), some (.inl 64)], [.inl 34], yc_s99)) rfl (by decide +kernel) yc_m42_13
set_option maxRecDepth 100000 in
theorem yc_m42_11 {d : Nat} : zb_W d ax_m322 (14, [some (.inr (.inr (some 96))), some (.inl (-1)), some (.inl 28), some (.inl 64)], [], yc_s97) (fun v s => v = none ∧ s = yc_s111) := zb_go [17, 5, 6, 7, 10, 11, 12, 13, 14, 17, 5, 6, 7, 10, 11, 12, 13, 14, 17, 5, 6, 7, 10] (g := True ∧ True ∧ True ∧ True ∧ True ∧ True ∧ True ∧ True ∧ ((0 : Int) ≤ ax_w 29 ∧ ax_w 29 < ((64 : Nat) : Int)) ∧ True ∧ True ∧ True ∧ True ∧ True ∧ True ∧ True ∧ True ∧ ((0 : Int) ≤ ax_w 30 ∧ ax_w 30 < ((64 : Nat) : Int)) ∧ True ∧ True ∧ True ∧ True ∧ True ∧ True) (z' := (11, [some (.inr (.inr (some 96))), some (.inl (-1)), some (.inl 31), some (.inl 64)], [.inr (.inr (some 96))], yc_s98)) rfl (by decide +kernel) yc_m42_12
set_option maxRecDepth 100000 in
theorem yc_m42_10 {d : Nat} : zb_W d ax_m322 (6, [some (.inr (.inr (some 96))), some (.inl (-1)), some (.inl 26), some (.inl 64)], [.inl 26], yc_s96) (fun v s => v = none ∧ s = yc_s111) := zb_go [7, 10, 11, 12, 13, 14, 17, 5, 6, 7, 10, 11, 12, 13, 14, 17, 5, 6, 7, 10, 11, 12, 13] (g := True ∧ True ∧ True ∧ True ∧ True ∧ ((0 : Int) ≤ ax_w 26 ∧ ax_w 26 < ((64 : Nat) : Int)) ∧ True ∧ True ∧ True ∧ True ∧ True ∧ True ∧ True ∧ True ∧ ((0 : Int) ≤ ax_w 27 ∧ ax_w 27 < ((64 : Nat) : Int)) ∧ True ∧ True ∧ True ∧ True ∧ True ∧ True ∧ True ∧ True ∧ ((0 : Int) ≤ ax_w 28 ∧ ax_w 28 < ((64 : Nat) : Int))) (z' := (14, [some (.inr (.inr (some 96))), some (.inl (-1)), some (.inl 28), some (.inl 64)], [], yc_s97)) rfl (by decide +kernel) yc_m42_11
set_option maxRecDepth 100000 in
theorem yc_m42_9 {d : Nat} : zb_W d ax_m322 (11, [some (.inr (.inr (some 96))), some (.inl (-1)), some (.inl 23), some (.inl 64)], [.inr (.inr (some 96))], yc_s95) (fun v s => v = none ∧ s = yc_s111) := zb_go [12, 13, 14, 17, 5, 6, 7, 10, 11, 12, 13, 14, 17, 5, 6, 7, 10, 11, 12, 13, 14, 17, 5] (g := True ∧ True ∧ ((0 : Int) ≤ ax_w 23 ∧ ax_w 23 < ((64 : Nat) : Int)) ∧ True ∧ True ∧ True ∧ True ∧ True ∧ True ∧ True ∧ True ∧ ((0 : Int) ≤ ax_w 24 ∧ ax_w 24 < ((64 : Nat) : Int)) ∧ True ∧ True ∧ True ∧ True ∧ True ∧ True ∧ True ∧ True ∧ ((0 : Int) ≤ ax_w 25 ∧ ax_w 25 < ((64 : Nat) : Int)) ∧ True ∧ True ∧ True) (z' := (6, [some (.inr (.inr (some 96))), some (.inl (-1)), some (.inl 26), some (.inl 64)], [.inl 26], yc_s96)) rfl (by decide +kernel) yc_m42_10
set_option maxRecDepth 100000 in
theorem yc_m42_8 {d : Nat} : zb_W d ax_m322 (14, [some (.inr (.inr (some 96))), some (.inl (-1)), some (.inl 20), some (.inl 64)], [], yc_s94) (fun v s => v = none ∧ s = yc_s111) := zb_go [17, 5, 6, 7, 10, 11, 12, 13, 14, 17, 5, 6, 7, 10, 11, 12, 13, 14, 17, 5, 6, 7, 10] (g := True ∧ True ∧ True ∧ True ∧ True ∧ True ∧ True ∧ True ∧ ((0 : Int) ≤ ax_w 21 ∧ ax_w 21 < ((64 : Nat) : Int)) ∧ True ∧ True ∧ True ∧ True ∧ True ∧ True ∧ True ∧ True ∧ ((0 : Int) ≤ ax_w 22 ∧ ax_w 22 < ((64 : Nat) : Int)) ∧ True ∧ True ∧ True ∧ True ∧ True ∧ True) (z' := (11, [some (.inr (.inr (some 96))), some (.inl (-1)), some (.inl 23), some (.inl 64)], [.inr (.inr (some 96))], yc_s95)) rfl (by decide +kernel) yc_m42_9
set_option maxRecDepth 100000 in
theorem yc_m42_7 {d : Nat} : zb_W d ax_m322 (6, [some (.inr (.inr (some 96))), some (.inl (-1)), some (.inl 18), some (.inl 64)], [.inl 18], yc_s93) (fun v s => v = none ∧ s = yc_s111) := zb_go [7, 10, 11, 12, 13, 14, 17, 5, 6, 7, 10, 11, 12, 13, 14, 17, 5, 6, 7, 10, 11, 12, 13] (g := True ∧ True ∧ True ∧ True ∧ True ∧ ((0 : Int) ≤ ax_w 18 ∧ ax_w 18 < ((64 : Nat) : Int)) ∧ True ∧ True ∧ True ∧ True ∧ True ∧ True ∧ True ∧ True ∧ ((0 : Int) ≤ ax_w 19 ∧ ax_w 19 < ((64 : Nat) : Int)) ∧ True ∧ True ∧ True ∧ True ∧ True ∧ True ∧ True ∧ True ∧ ((0 : Int) ≤ ax_w 20 ∧ ax_w 20 < ((64 : Nat) : Int))) (z' := (14, [some (.inr (.inr (some 96))), some (.inl (-1)), some (.inl 20), some (.inl 64)], [], yc_s94)) rfl (by decide +kernel) yc_m42_8
set_option maxRecDepth 100000 in
theorem yc_m42_6 {d : Nat} : zb_W d ax_m322 (11, [some (.inr (.inr (some 96))), some (.inl (-1)), some (.inl 15), some (.inl 64)], [.inr (.inr (some 96))], yc_s92) (fun v s => v = none ∧ s = yc_s111) := zb_go [12, 13, 14, 17, 5, 6, 7, 10, 11, 12, 13, 14, 17, 5, 6, 7, 10, 11, 12, 13, 14, 17, 5] (g := True ∧ True ∧ ((0 : Int) ≤ ax_w 15 ∧ ax_w 15 < ((64 : Nat) : Int)) ∧ True ∧ True ∧ True ∧ True ∧ True ∧ True ∧ True ∧ True ∧ ((0 : Int) ≤ ax_w 16 ∧ ax_w 16 < ((64 : Nat) : Int)) ∧ True ∧ True ∧ True ∧ True ∧ True ∧ True ∧ True ∧ True ∧ ((0 : Int) ≤ ax_w 17 ∧ ax_w 17 < ((64 : Nat) : Int)) ∧ True ∧ True ∧ True) (z' := (6, [some (.inr (.inr (some 96))), some (.inl (-1)), some (.inl 18), some (.inl 64)], [.inl 18], yc_s93)) rfl (by decide +kernel) yc_m42_7
set_option maxRecDepth 100000 in
theorem yc_m42_5 {d : Nat} : zb_W d ax_m322 (14, [some (.inr (.inr (some 96))), some (.inl (-1)), some (.inl 12), some (.inl 64)], [], yc_s91) (fun v s => v = none ∧ s = yc_s111) := zb_go [17, 5, 6, 7, 10, 11, 12, 13, 14, 17, 5, 6, 7, 10, 11, 12, 13, 14, 17, 5, 6, 7, 10] (g := True ∧ True ∧ True ∧ True ∧ True ∧ True ∧ True ∧ True ∧ ((0 : Int) ≤ ax_w 13 ∧ ax_w 13 < ((64 : Nat) : Int)) ∧ True ∧ True ∧ True ∧ True ∧ True ∧ True ∧ True ∧ True ∧ ((0 : Int) ≤ ax_w 14 ∧ ax_w 14 < ((64 : Nat) : Int)) ∧ True ∧ True ∧ True ∧ True ∧ True ∧ True) (z' := (11, [some (.inr (.inr (some 96))), some (.inl (-1)), some (.inl 15), some (.inl 64)], [.inr (.inr (some 96))], yc_s92)) rfl (by decide +kernel) yc_m42_6
set_option maxRecDepth 100000 in
theorem yc_m42_4 {d : Nat} : zb_W d ax_m322 (6, [some (.inr (.inr (some 96))), some (.inl (-1)), some (.inl 10), some (.inl 64)], [.inl 10], yc_s90) (fun v s => v = none ∧ s = yc_s111) := zb_go [7, 10, 11, 12, 13, 14, 17, 5, 6, 7, 10, 11, 12, 13, 14, 17, 5, 6, 7, 10, 11, 12, 13] (g := True ∧ True ∧ True ∧ True ∧ True ∧ ((0 : Int) ≤ ax_w 10 ∧ ax_w 10 < ((64 : Nat) : Int)) ∧ True ∧ True ∧ True ∧ True ∧ True ∧ True ∧ True ∧ True ∧ ((0 : Int) ≤ ax_w 11 ∧ ax_w 11 < ((64 : Nat) : Int)) ∧ True ∧ True ∧ True ∧ True ∧ True ∧ True ∧ True ∧ True ∧ ((0 : Int) ≤ ax_w 12 ∧ ax_w 12 < ((64 : Nat) : Int))) (z' := (14, [some (.inr (.inr (some 96))), some (.inl (-1)), some (.inl 12), some (.inl 64)], [], yc_s91)) rfl (by decide +kernel) yc_m42_5
set_option maxRecDepth 100000 in
theorem yc_m42_3 {d : Nat} : zb_W d ax_m322 (11, [some (.inr (.inr (some 96))), some (.inl (-1)), some (.inl 7), some (.inl 64)], [.inr (.inr (some 96))], yc_s89) (fun v s => v = none ∧ s = yc_s111) := zb_go [12, 13, 14, 17, 5, 6, 7, 10, 11, 12, 13, 14, 17, 5, 6, 7, 10, 11, 12, 13, 14, 17, 5] (g := True ∧ True ∧ ((0 : Int) ≤ ax_w 7 ∧ ax_w 7 < ((64 : Nat) : Int)) ∧ True ∧ True ∧ True ∧ True ∧ True ∧ True ∧ True ∧ True ∧ ((0 : Int) ≤ ax_w 8 ∧ ax_w 8 < ((64 : Nat) : Int)) ∧ True ∧ True ∧ True ∧ True ∧ True ∧ True ∧ True ∧ True ∧ ((0 : Int) ≤ ax_w 9 ∧ ax_w 9 < ((64 : Nat) : Int)) ∧ True ∧ True ∧ True) (z' := (6, [some (.inr (.inr (some 96))), some (.inl (-1)), some (.inl 10), some (.inl 64)], [.inl 10], yc_s90)) rfl (by decide +kernel) yc_m42_4
set_option maxRecDepth 100000 in
theorem yc_m42_2 {d : Nat} : zb_W d ax_m322 (14, [some (.inr (.inr (some 96))), some (.inl (-1)), some (.inl 4), some (.inl 64)], [], yc_s88) (fun v s => v = none ∧ s = yc_s111) := zb_go [17, 5, 6, 7, 10, 11, 12, 13, 14, 17, 5, 6, 7, 10, 11, 12, 13, 14, 17, 5, 6, 7, 10] (g := True ∧ True ∧ True ∧ True ∧ True ∧ True ∧ True ∧ True ∧ ((0 : Int) ≤ ax_w 5 ∧ ax_w 5 < ((64 : Nat) : Int)) ∧ True ∧ True ∧ True ∧ True ∧ True ∧ True ∧ True ∧ True ∧ ((0 : Int) ≤ ax_w 6 ∧ ax_w 6 < ((64 : Nat) : Int)) ∧ True ∧ True ∧ True ∧ True ∧ True ∧ True) (z' := (11, [some (.inr (.inr (some 96))), some (.inl (-1)), some (.inl 7), some (.inl 64)], [.inr (.inr (some 96))], yc_s89)) rfl (by decide +kernel) yc_m42_3
set_option maxRecDepth 100000 in
theorem yc_m42_1 {d : Nat} : zb_W d ax_m322 (6, [some (.inr (.inr (some 96))), some (.inl (-1)), some (.inl 2), some (.inl 64)], [.inl 2], yc_s87) (fun v s => v = none ∧ s = yc_s111) := zb_go [7, 10, 11, 12, 13, 14, 17, 5, 6, 7, 10, 11, 12, 13, 14, 17, 5, 6, 7, 10, 11, 12, 13] (g := True ∧ True ∧ True ∧ True ∧ True ∧ ((0 : Int) ≤ ax_w 2 ∧ ax_w 2 < ((64 : Nat) : Int)) ∧ True ∧ True ∧ True ∧ True ∧ True ∧ True ∧ True ∧ True ∧ ((0 : Int) ≤ ax_w 3 ∧ ax_w 3 < ((64 : Nat) : Int)) ∧ True ∧ True ∧ True ∧ True ∧ True ∧ True ∧ True ∧ True ∧ ((0 : Int) ≤ ax_w 4 ∧ ax_w 4 < ((64 : Nat) : Int))) (z' := (14, [some (.inr (.inr (some 96))), some (.inl (-1)), some (.inl 4), some (.inl 64)], [], yc_s88)) rfl (by decide +kernel) yc_m42_2
set_option maxRecDepth 100000 in
theorem yc_m42_0 {d : Nat} : zb_W d ax_m322 (0, [some (.inr (.inr (some 96))), some (.inl (-1)), none, none], [], yc_s86) (fun v s => v = none ∧ s = yc_s111) := zb_go [1, 2, 3, 4, 5, 6, 7, 10, 11, 12, 13, 14, 17, 5, 6, 7, 10, 11, 12, 13, 14, 17, 5] (g := True ∧ True ∧ True ∧ True ∧ True ∧ True ∧ True ∧ True ∧ True ∧ True ∧ True ∧ ((0 : Int) ≤ ax_w 0 ∧ ax_w 0 < ((64 : Nat) : Int)) ∧ True ∧ True ∧ True ∧ True ∧ True ∧ True ∧ True ∧ True ∧ ((0 : Int) ≤ ax_w 1 ∧ ax_w 1 < ((64 : Nat) : Int)) ∧ True ∧ True ∧ True) (z' := (6, [some (.inr (.inr (some 96))), some (.inl (-1)), some (.inl 2), some (.inl 64)], [.inl 2], yc_s87)) rfl (by decide +kernel) yc_m42_1
theorem yc_m42 {d : Nat} : zb_C (d + 1) 322 [.inr (.inr (some 96)), .inl (-1)] yc_s86 (fun v s => v = none ∧ s = yc_s111) := zb_in (M := ax_m322) rfl (Nat.le_of_ble_eq_true rfl) yc_m42_0
set_option maxRecDepth 100000 in
theorem yc_m31_8 {d : Nat} : zb_W (d + 2) ax_m63 (29, [some (.inr (.inr (some 68)))], [], yc_s111) (fun v s => v = none ∧ s = yc_s112) := zb_ret [30, 31, 34, 35, 36, 39, 40, 41, 44, 45, 47, 50, 51, 52, 55] (g := True ∧ True ∧ True ∧ True ∧ True ∧ True ∧ True ∧ True ∧ True ∧ True ∧ True ∧ True ∧ True ∧ True ∧ True ∧ True) (v := none) (s' := yc_s112) rfl (by decide +kernel) ⟨rfl, rfl⟩
set_option maxRecDepth 100000 in
theorem yc_m31_7 {d : Nat} : zb_W (d + 2) ax_m63 (26, [some (.inr (.inr (some 68)))], [.inl (-1), .inr (.inr (some 96))], yc_s86) (fun v s => v = none ∧ s = yc_s112) := zb_cl [] (g := True) (m := 322) (as := [.inr (.inr (some 96)), .inl (-1)]) (pc' := 29) (ls' := [some (.inr (.inr (some 68)))]) (st' := []) (s' := yc_s86) (v1 := none) (s1 := yc_s111) rfl trivial (yc_m42 (d := d + 1)) yc_m31_8
set_option maxRecDepth 100000 in
theorem yc_m31_6 {d : Nat} : zb_W (d + 2) ax_m63 (21, [some (.inr (.inr (some 68)))], [], yc_s86) (fun v s => v = none ∧ s = yc_s112) := zb_go [22, 25] (g := True ∧ True ∧ True) (z' := (26, [some (.inr (.inr (some 68)))], [.inl (-1), .inr (.inr (some 96))], yc_s86)) rfl (by decide +kernel) yc_m31_7
set_option maxRecDepth 100000 in
theorem yc_m31_5 {d : Nat} : zb_W (d + 2) ax_m63 (18, [some (.inr (.inr (some 68)))], [.inr (.inr (some 87))], yc_s85) (fun v s => v = none ∧ s = yc_s112) := zb_cl [] (g := True) (m := 49) (as := [.inr (.inr (some 87))]) (pc' := 21) (ls' := [some (.inr (.inr (some 68)))]) (st' := []) (s' := yc_s85) (v1 := none) (s1 := yc_s86) rfl trivial (yc_m41 (d := d + 1)) yc_m31_6
set_option maxRecDepth 100000 in
theorem yc_m31_4 {d : Nat} : zb_W (d + 2) ax_m63 (14, [some (.inr (.inr (some 68)))], [], yc_s85) (fun v s => v = none ∧ s = yc_s112) := zb_go [15] (g := True ∧ True) (z' := (18, [some (.inr (.inr (some 68)))], [.inr (.inr (some 87))], yc_s85)) rfl (by decide +kernel) yc_m31_5
set_option maxRecDepth 100000 in
theorem yc_m31_3 {d : Nat} : zb_W (d + 2) ax_m63 (11, [some (.inr (.inr (some 68)))], [.inr (.inr (some 77))], yc_s84) (fun v s => v = none ∧ s = yc_s112) := zb_cl [] (g := True) (m := 38) (as := [.inr (.inr (some 77))]) (pc' := 14) (ls' := [some (.inr (.inr (some 68)))]) (st' := []) (s' := yc_s84) (v1 := none) (s1 := yc_s85) rfl trivial (yc_m40 (d := d + 1)) yc_m31_4
set_option maxRecDepth 100000 in
theorem yc_m31_2 {d : Nat} : zb_W (d + 2) ax_m63 (7, [some (.inr (.inr (some 68)))], [], yc_s84) (fun v s => v = none ∧ s = yc_s112) := zb_go [8] (g := True ∧ True) (z' := (11, [some (.inr (.inr (some 68)))], [.inr (.inr (some 77))], yc_s84)) rfl (by decide +kernel) yc_m31_3
set_option maxRecDepth 100000 in
theorem yc_m31_1 {d : Nat} : zb_W (d + 2) ax_m63 (4, [some (.inr (.inr (some 68)))], [.inr (.inr (some 69))], yc_s76) (fun v s => v = none ∧ s = yc_s112) := zb_cl [] (g := True) (m := 1) (as := [.inr (.inr (some 69))]) (pc' := 7) (ls' := [some (.inr (.inr (some 68)))]) (st' := []) (s' := yc_s76) (v1 := none) (s1 := yc_s84) rfl trivial (yc_m32 (d := d)) yc_m31_2
set_option maxRecDepth 100000 in
theorem yc_m31_0 {d : Nat} : zb_W (d + 2) ax_m63 (0, [some (.inr (.inr (some 68)))], [], yc_s76) (fun v s => v = none ∧ s = yc_s112) := zb_go [1] (g := True ∧ True) (z' := (4, [some (.inr (.inr (some 68)))], [.inr (.inr (some 69))], yc_s76)) rfl (by decide +kernel) yc_m31_1
theorem yc_m31 {d : Nat} : zb_C (d + 3) 63 [.inr (.inr (some 68))] yc_s76 (fun v s => v = none ∧ s = yc_s112) := zb_in (M := ax_m63) rfl (Nat.le_of_ble_eq_true rfl) yc_m31_0
set_option maxRecDepth 100000 in
theorem yc_m26_9 {d : Nat} : zb_W (d + 3) ax_m62 (95, [some (.inr (.inr (some 68)))], [], yc_s112) (fun v s => v = none ∧ s = yc_s112) := zb_ret [] (g := True) (v := none) (s' := yc_s112) rfl (by decide +kernel) ⟨rfl, rfl⟩
set_option maxRecDepth 100000 in
theorem yc_m26_8 {d : Nat} : zb_W (d + 3) ax_m62 (92, [some (.inr (.inr (some 68)))], [.inr (.inr (some 68))], yc_s76) (fun v s => v = none ∧ s = yc_s112) := zb_cl [] (g := True) (m := 63) (as := [.inr (.inr (some 68))]) (pc' := 95) (ls' := [some (.inr (.inr (some 68)))]) (st' := []) (s' := yc_s76) (v1 := none) (s1 := yc_s112) rfl trivial (yc_m31 (d := d)) yc_m26_9
set_option maxRecDepth 100000 in
theorem yc_m26_7 {d : Nat} : zb_W (d + 3) ax_m62 (80, [some (.inr (.inr (some 68)))], [.inr (.inr (some 95)), .inr (.inr (some 68))], yc_s75) (fun v s => v = none ∧ s = yc_s112) := zb_go [83, 84, 86, 88, 91] (g := True ∧ True ∧ True ∧ ((0 : Int) ≤ ax_w 64 ∧ ax_w 64 ≤ 65536) ∧ True ∧ True) (z' := (92, [some (.inr (.inr (some 68)))], [.inr (.inr (some 68))], yc_s76)) rfl (by decide +kernel) yc_m26_8
set_option maxRecDepth 100000 in
theorem yc_m26_6 {d : Nat} : zb_W (d + 3) ax_m62 (34, [some (.inr (.inr (some 68)))], [.inr (.inr (some 87)), .inr (.inr (some 68))], yc_s74) (fun v s => v = none ∧ s = yc_s112) := zb_go [37, 38, 40, 42, 45, 46, 48, 50, 53, 54, 56, 58, 61, 62, 63, 65, 68, 69, 70, 72, 75, 76, 78] (g := True ∧ True ∧ True ∧ ((0 : Int) ≤ ax_w 24 ∧ ax_w 24 ≤ 65536) ∧ True ∧ True ∧ True ∧ ((0 : Int) ≤ ax_w 8 ∧ ax_w 8 ≤ 65536) ∧ True ∧ True ∧ True ∧ ((0 : Int) ≤ ax_w 48 ∧ ax_w 48 ≤ 65536) ∧ True ∧ True ∧ True ∧ ((0 : Int) ≤ ax_w 4 ∧ ax_w 4 ≤ 65536) ∧ True ∧ True ∧ True ∧ ((0 : Int) ≤ ax_w 4 ∧ ax_w 4 ≤ 65536) ∧ True ∧ True ∧ True ∧ ((0 : Int) ≤ ax_w 6 ∧ ax_w 6 ≤ 65536)) (z' := (80, [some (.inr (.inr (some 68)))], [.inr (.inr (some 95)), .inr (.inr (some 68))], yc_s75)) rfl (by decide +kernel) yc_m26_7
set_option maxRecDepth 100000 in
theorem yc_m26_5 {d : Nat} : zb_W (d + 3) ax_m62 (31, [some (.inr (.inr (some 68)))], [.inr (.inr (some 87)), .inr (.inr (some 87)), .inr (.inr (some 68))], yc_s73) (fun v s => v = none ∧ s = yc_s112) := zb_cl [] (g := True) (m := 48) (as := [.inr (.inr (some 87))]) (pc' := 34) (ls' := [some (.inr (.inr (some 68)))]) (st' := [.inr (.inr (some 87)), .inr (.inr (some 68))]) (s' := yc_s73) (v1 := none) (s1 := yc_s74) rfl trivial (yc_m30 (d := d + 2)) yc_m26_6
set_option maxRecDepth 100000 in
theorem yc_m26_4 {d : Nat} : zb_W (d + 3) ax_m62 (23, [some (.inr (.inr (some 68)))], [.inr (.inr (some 77)), .inr (.inr (some 68))], yc_s72) (fun v s => v = none ∧ s = yc_s112) := zb_go [26, 27, 30] (g := True ∧ True ∧ True ∧ True) (z' := (31, [some (.inr (.inr (some 68)))], [.inr (.inr (some 87)), .inr (.inr (some 87)), .inr (.inr (some 68))], yc_s73)) rfl (by decide +kernel) yc_m26_5
set_option maxRecDepth 100000 in
theorem yc_m26_3 {d : Nat} : zb_W (d + 3) ax_m62 (20, [some (.inr (.inr (some 68)))], [.inr (.inr (some 77)), .inr (.inr (some 77)), .inr (.inr (some 68))], yc_s70) (fun v s => v = none ∧ s = yc_s112) := zb_cl [] (g := True) (m := 37) (as := [.inr (.inr (some 77))]) (pc' := 23) (ls' := [some (.inr (.inr (some 68)))]) (st' := [.inr (.inr (some 77)), .inr (.inr (some 68))]) (s' := yc_s70) (v1 := none) (s1 := yc_s72) rfl trivial (yc_m29 (d := d + 2)) yc_m26_4
set_option maxRecDepth 100000 in
theorem yc_m26_2 {d : Nat} : zb_W (d + 3) ax_m62 (12, [some (.inr (.inr (some 68)))], [.inr (.inr (some 69)), .inr (.inr (some 68))], yc_s69) (fun v s => v = none ∧ s = yc_s112) := zb_go [15, 16, 19] (g := True ∧ True ∧ True ∧ True) (z' := (20, [some (.inr (.inr (some 68)))], [.inr (.inr (some 77)), .inr (.inr (some 77)), .inr (.inr (some 68))], yc_s70)) rfl (by decide +kernel) yc_m26_3
set_option maxRecDepth 100000 in
theorem yc_m26_1 {d : Nat} : zb_W (d + 3) ax_m62 (9, [some (.inr (.inr (some 68)))], [.inr (.inr (some 69)), .inr (.inr (some 69)), .inr (.inr (some 68))], yc_s66) (fun v s => v = none ∧ s = yc_s112) := zb_cl [] (g := True) (m := 0) (as := [.inr (.inr (some 69))]) (pc' := 12) (ls' := [some (.inr (.inr (some 68)))]) (st' := [.inr (.inr (some 69)), .inr (.inr (some 68))]) (s' := yc_s66) (v1 := none) (s1 := yc_s69) rfl trivial (yc_m27 (d := d + 1)) yc_m26_2
set_option maxRecDepth 100000 in
theorem yc_m26_0 {d : Nat} : zb_W (d + 3) ax_m62 (0, [some (.inr (.inr (some 68)))], [], yc_s65) (fun v s => v = none ∧ s = yc_s112) := zb_go [1, 4, 5, 8] (g := True ∧ True ∧ True ∧ True ∧ True) (z' := (9, [some (.inr (.inr (some 68)))], [.inr (.inr (some 69)), .inr (.inr (some 69)), .inr (.inr (some 68))], yc_s66)) rfl (by decide +kernel) yc_m26_1
theorem yc_m26 {d : Nat} : zb_C (d + 4) 62 [.inr (.inr (some 68))] yc_s65 (fun v s => v = none ∧ s = yc_s112) := zb_in (M := ax_m62) rfl (Nat.le_of_ble_eq_true rfl) yc_m26_0
set_option maxRecDepth 100000 in
theorem yc_m0_20 {d : Nat} : zb_W (d + 4) ax_m126 (133, [some (.inr (.inr (some 0))), some (.inr (.inr (some 4))), some (.inr (.inr (some 7)))], [.inr (.inr (some 68)), .inr (.inr (some 0))], yc_s112) (fun v s => v = none ∧ s = yc_s113) := zb_ret [136, 137, 138, 141] (g := True ∧ True ∧ True ∧ True ∧ True) (v := none) (s' := yc_s113) rfl (by decide +kernel) ⟨rfl, rfl⟩
set_option maxRecDepth 100000 in
theorem yc_m0_19 {d : Nat} : zb_W (d + 4) ax_m126 (130, [some (.inr (.inr (some 0))), some (.inr (.inr (some 4))), some (.inr (.inr (some 7)))], [.inr (.inr (some 68)), .inr (.inr (some 68)), .inr (.inr (some 0))], yc_s65) (fun v s => v = none ∧ s = yc_s113) := zb_cl [] (g := True) (m := 62) (as := [.inr (.inr (some 68))]) (pc' := 133) (ls' := [some (.inr (.inr (some 0))), some (.inr (.inr (some 4))), some (.inr (.inr (some 7)))]) (st' := [.inr (.inr (some 68)), .inr (.inr (some 0))]) (s' := yc_s65) (v1 := none) (s1 := yc_s112) rfl trivial (yc_m26 (d := d)) yc_m0_20
set_option maxRecDepth 100000 in
theorem yc_m0_18 {d : Nat} : zb_W (d + 4) ax_m126 (122, [some (.inr (.inr (some 0))), some (.inr (.inr (some 4))), some (.inr (.inr (some 7)))], [.inr (.inr (some 39)), .inr (.inr (some 0))], yc_s64) (fun v s => v = none ∧ s = yc_s113) := zb_go [125, 126, 129] (g := True ∧ True ∧ True ∧ True) (z' := (130, [some (.inr (.inr (some 0))), some (.inr (.inr (some 4))), some (.inr (.inr (some 7)))], [.inr (.inr (some 68)), .inr (.inr (some 68)), .inr (.inr (some 0))], yc_s65)) rfl (by decide +kernel) yc_m0_19
set_option maxRecDepth 100000 in
theorem yc_m0_17 {d : Nat} : zb_W (d + 4) ax_m126 (119, [some (.inr (.inr (some 0))), some (.inr (.inr (some 4))), some (.inr (.inr (some 7)))], [.inr (.inr (some 39)), .inr (.inr (some 39)), .inr (.inr (some 0))], yc_s17) (fun v s => v = none ∧ s = yc_s113) := zb_cl [] (g := True) (m := 62) (as := [.inr (.inr (some 39))]) (pc' := 122) (ls' := [some (.inr (.inr (some 0))), some (.inr (.inr (some 4))), some (.inr (.inr (some 7)))]) (st' := [.inr (.inr (some 39)), .inr (.inr (some 0))]) (s' := yc_s17) (v1 := none) (s1 := yc_s64) rfl trivial (yc_m9 (d := d)) yc_m0_18
set_option maxRecDepth 100000 in
theorem yc_m0_16 {d : Nat} : zb_W (d + 4) ax_m126 (103, [some (.inr (.inr (some 0))), some (.inr (.inr (some 4))), some (.inr (.inr (some 7)))], [.inr (.inr (some 36)), .inr (.inr (some 0))], yc_s16) (fun v s => v = none ∧ s = yc_s113) := zb_go [106, 107, 109, 111, 114, 115, 118] (g := True ∧ True ∧ True ∧ ((0 : Int) ≤ ax_w 6 ∧ ax_w 6 ≤ 65536) ∧ True ∧ True ∧ True ∧ True) (z' := (119, [some (.inr (.inr (some 0))), some (.inr (.inr (some 4))), some (.inr (.inr (some 7)))], [.inr (.inr (some 39)), .inr (.inr (some 39)), .inr (.inr (some 0))], yc_s17)) rfl (by decide +kernel) yc_m0_17
set_option maxRecDepth 100000 in
theorem yc_m0_15 {d : Nat} : zb_W (d + 4) ax_m126 (100, [some (.inr (.inr (some 0))), some (.inr (.inr (some 4))), some (.inr (.inr (some 7)))], [.inr (.inr (some 36)), .inr (.inr (some 36)), .inr (.inr (some 0))], yc_s15) (fun v s => v = none ∧ s = yc_s113) := zb_cl [] (g := True) (m := 27) (as := [.inr (.inr (some 36))]) (pc' := 103) (ls' := [some (.inr (.inr (some 0))), some (.inr (.inr (some 4))), some (.inr (.inr (some 7)))]) (st' := [.inr (.inr (some 36)), .inr (.inr (some 0))]) (s' := yc_s15) (v1 := none) (s1 := yc_s16) rfl trivial (yc_m8 (d := d + 3)) yc_m0_16
set_option maxRecDepth 100000 in
theorem yc_m0_14 {d : Nat} : zb_W (d + 4) ax_m126 (92, [some (.inr (.inr (some 0))), some (.inr (.inr (some 4))), some (.inr (.inr (some 7)))], [.inr (.inr (some 12)), .inr (.inr (some 0))], yc_s14) (fun v s => v = none ∧ s = yc_s113) := zb_go [95, 96, 99] (g := True ∧ True ∧ True ∧ True) (z' := (100, [some (.inr (.inr (some 0))), some (.inr (.inr (some 4))), some (.inr (.inr (some 7)))], [.inr (.inr (some 36)), .inr (.inr (some 36)), .inr (.inr (some 0))], yc_s15)) rfl (by decide +kernel) yc_m0_15
set_option maxRecDepth 100000 in
theorem yc_m0_13 {d : Nat} : zb_W (d + 4) ax_m126 (89, [some (.inr (.inr (some 0))), some (.inr (.inr (some 4))), some (.inr (.inr (some 7)))], [.inr (.inr (some 12)), .inr (.inr (some 12)), .inr (.inr (some 0))], yc_s13) (fun v s => v = none ∧ s = yc_s113) := zb_cl [] (g := True) (m := 106) (as := [.inr (.inr (some 12))]) (pc' := 92) (ls' := [some (.inr (.inr (some 0))), some (.inr (.inr (some 4))), some (.inr (.inr (some 7)))]) (st' := [.inr (.inr (some 12)), .inr (.inr (some 0))]) (s' := yc_s13) (v1 := none) (s1 := yc_s14) rfl trivial (yc_m7 (d := d + 3)) yc_m0_14
set_option maxRecDepth 100000 in
theorem yc_m0_12 {d : Nat} : zb_W (d + 4) ax_m126 (81, [some (.inr (.inr (some 0))), some (.inr (.inr (some 4))), some (.inr (.inr (some 7)))], [.inr (.inr (some 10)), .inr (.inr (some 0))], yc_s12) (fun v s => v = none ∧ s = yc_s113) := zb_go [84, 85, 88] (g := True ∧ True ∧ True ∧ True) (z' := (89, [some (.inr (.inr (some 0))), some (.inr (.inr (some 4))), some (.inr (.inr (some 7)))], [.inr (.inr (some 12)), .inr (.inr (some 12)), .inr (.inr (some 0))], yc_s13)) rfl (by decide +kernel) yc_m0_13
set_option maxRecDepth 100000 in
theorem yc_m0_11 {d : Nat} : zb_W (d + 4) ax_m126 (78, [some (.inr (.inr (some 0))), some (.inr (.inr (some 4))), some (.inr (.inr (some 7)))], [.inr (.inr (some 4)), .inr (.inr (some 7)), .inr (.inr (some 3)), .inr (.inr (some 10)), .inr (.inr (some 10)), .inr (.inr (some 0))], yc_s11) (fun v s => v = none ∧ s = yc_s113) := zb_cl [] (g := True) (m := 55) (as := [.inr (.inr (some 10)), .inr (.inr (some 3)), .inr (.inr (some 7)), .inr (.inr (some 4))]) (pc' := 81) (ls' := [some (.inr (.inr (some 0))), some (.inr (.inr (some 4))), some (.inr (.inr (some 7)))]) (st' := [.inr (.inr (some 10)), .inr (.inr (some 0))]) (s' := yc_s11) (v1 := none) (s1 := yc_s12) rfl trivial (yc_m6 (d := d + 3)) yc_m0_12
set_option maxRecDepth 100000 in
theorem yc_m0_10 {d : Nat} : zb_W (d + 4) ax_m126 (64, [some (.inr (.inr (some 0))), some (.inr (.inr (some 4))), some (.inr (.inr (some 7)))], [.inr (.inr (some 8)), .inr (.inr (some 0))], yc_s10) (fun v s => v = none ∧ s = yc_s113) := zb_go [67, 68, 71, 72, 73, 76, 77] (g := True ∧ True ∧ True ∧ True ∧ True ∧ True ∧ True ∧ True) (z' := (78, [some (.inr (.inr (some 0))), some (.inr (.inr (some 4))), some (.inr (.inr (some 7)))], [.inr (.inr (some 4)), .inr (.inr (some 7)), .inr (.inr (some 3)), .inr (.inr (some 10)), .inr (.inr (some 10)), .inr (.inr (some 0))], yc_s11)) rfl (by decide +kernel) yc_m0_11
set_option maxRecDepth 100000 in
theorem yc_m0_9 {d : Nat} : zb_W (d + 4) ax_m126 (61, [some (.inr (.inr (some 0))), some (.inr (.inr (some 4))), some (.inr (.inr (some 7)))], [.inr (.inr (some 7)), .inr (.inr (some 3)), .inr (.inr (some 8)), .inr (.inr (some 8)), .inr (.inr (some 0))], yc_s9) (fun v s => v = none ∧ s = yc_s113) := zb_cl [] (g := True) (m := 76) (as := [.inr (.inr (some 8)), .inr (.inr (some 3)), .inr (.inr (some 7))]) (pc' := 64) (ls' := [some (.inr (.inr (some 0))), some (.inr (.inr (some 4))), some (.inr (.inr (some 7)))]) (st' := [.inr (.inr (some 8)), .inr (.inr (some 0))]) (s' := yc_s9) (v1 := none) (s1 := yc_s10) rfl trivial (yc_m5 (d := d + 3)) yc_m0_10
set_option maxRecDepth 100000 in
theorem yc_m0_8 {d : Nat} : zb_W (d + 4) ax_m126 (50, [some (.inr (.inr (some 0))), some (.inr (.inr (some 4))), none], [.inr (.inr (some 7))], yc_s8) (fun v s => v = none ∧ s = yc_s113) := zb_go [51, 52, 55, 56, 57, 60] (g := True ∧ True ∧ True ∧ True ∧ True ∧ True ∧ True) (z' := (61, [some (.inr (.inr (some 0))), some (.inr (.inr (some 4))), some (.inr (.inr (some 7)))], [.inr (.inr (some 7)), .inr (.inr (some 3)), .inr (.inr (some 8)), .inr (.inr (some 8)), .inr (.inr (some 0))], yc_s9)) rfl (by decide +kernel) yc_m0_9
set_option maxRecDepth 100000 in
theorem yc_m0_7 {d : Nat} : zb_W (d + 4) ax_m126 (47, [some (.inr (.inr (some 0))), some (.inr (.inr (some 4))), none], [.inr (.inr (some 4)), .inr (.inr (some 3)), .inr (.inr (some 7)), .inr (.inr (some 7))], yc_s7) (fun v s => v = none ∧ s = yc_s113) := zb_cl [] (g := True) (m := 13) (as := [.inr (.inr (some 7)), .inr (.inr (some 3)), .inr (.inr (some 4))]) (pc' := 50) (ls' := [some (.inr (.inr (some 0))), some (.inr (.inr (some 4))), none]) (st' := [.inr (.inr (some 7))]) (s' := yc_s7) (v1 := none) (s1 := yc_s8) rfl trivial (yc_m4 (d := d + 3)) yc_m0_8
set_option maxRecDepth 100000 in
theorem yc_m0_6 {d : Nat} : zb_W (d + 4) ax_m126 (37, [some (.inr (.inr (some 0))), none, none], [.inr (.inr (some 4))], yc_s6) (fun v s => v = none ∧ s = yc_s113) := zb_go [38, 41, 42, 43, 46] (g := True ∧ True ∧ True ∧ True ∧ True ∧ True) (z' := (47, [some (.inr (.inr (some 0))), some (.inr (.inr (some 4))), none], [.inr (.inr (some 4)), .inr (.inr (some 3)), .inr (.inr (some 7)), .inr (.inr (some 7))], yc_s7)) rfl (by decide +kernel) yc_m0_7
set_option maxRecDepth 100000 in
theorem yc_m0_5 {d : Nat} : zb_W (d + 4) ax_m126 (34, [some (.inr (.inr (some 0))), none, none], [.inr (.inr (some 4)), .inr (.inr (some 4))], yc_s5) (fun v s => v = none ∧ s = yc_s113) := zb_cl [] (g := True) (m := 48) (as := [.inr (.inr (some 4))]) (pc' := 37) (ls' := [some (.inr (.inr (some 0))), none, none]) (st' := [.inr (.inr (some 4))]) (s' := yc_s5) (v1 := none) (s1 := yc_s6) rfl trivial (yc_m3 (d := d + 3)) yc_m0_6
set_option maxRecDepth 100000 in
theorem yc_m0_4 {d : Nat} : zb_W (d + 4) ax_m126 (27, [some (.inr (.inr (some 0))), none, none], [.inr (.inr (some 3)), .inr (.inr (some 0))], yc_s4) (fun v s => v = none ∧ s = yc_s113) := zb_go [30, 33] (g := True ∧ True ∧ True) (z' := (34, [some (.inr (.inr (some 0))), none, none], [.inr (.inr (some 4)), .inr (.inr (some 4))], yc_s5)) rfl (by decide +kernel) yc_m0_5
set_option maxRecDepth 100000 in
theorem yc_m0_3 {d : Nat} : zb_W (d + 4) ax_m126 (24, [some (.inr (.inr (some 0))), none, none], [.inr (.inr (some 1)), .inr (.inr (some 3)), .inr (.inr (some 3)), .inr (.inr (some 0))], yc_s3) (fun v s => v = none ∧ s = yc_s113) := zb_cl [] (g := True) (m := 89) (as := [.inr (.inr (some 3)), .inr (.inr (some 1))]) (pc' := 27) (ls' := [some (.inr (.inr (some 0))), none, none]) (st' := [.inr (.inr (some 3)), .inr (.inr (some 0))]) (s' := yc_s3) (v1 := none) (s1 := yc_s4) rfl trivial (yc_m2 (d := d + 3)) yc_m0_4
set_option maxRecDepth 100000 in
theorem yc_m0_2 {d : Nat} : zb_W (d + 4) ax_m126 (12, [some (.inr (.inr (some 0))), none, none], [.inr (.inr (some 1)), .inr (.inr (some 0))], yc_s2) (fun v s => v = none ∧ s = yc_s113) := zb_go [15, 16, 19, 20, 21] (g := True ∧ True ∧ True ∧ True ∧ True ∧ True) (z' := (24, [some (.inr (.inr (some 0))), none, none], [.inr (.inr (some 1)), .inr (.inr (some 3)), .inr (.inr (some 3)), .inr (.inr (some 0))], yc_s3)) rfl (by decide +kernel) yc_m0_3
set_option maxRecDepth 100000 in
theorem yc_m0_1 {d : Nat} : zb_W (d + 4) ax_m126 (9, [some (.inr (.inr (some 0))), none, none], [.inr (.inr (some 1)), .inr (.inr (some 1)), .inr (.inr (some 0))], yc_s1) (fun v s => v = none ∧ s = yc_s113) := zb_cl [] (g := True) (m := 84) (as := [.inr (.inr (some 1))]) (pc' := 12) (ls' := [some (.inr (.inr (some 0))), none, none]) (st' := [.inr (.inr (some 1)), .inr (.inr (some 0))]) (s' := yc_s1) (v1 := none) (s1 := yc_s2) rfl trivial (yc_m1 (d := d + 3)) yc_m0_2
set_option maxRecDepth 100000 in
theorem yc_m0_0 {d : Nat} : zb_W (d + 4) ax_m126 (0, [some (.inr (.inr (some 0))), none, none], [], yc_s0) (fun v s => v = none ∧ s = yc_s113) := zb_go [1, 4, 5, 8] (g := True ∧ True ∧ True ∧ True ∧ True) (z' := (9, [some (.inr (.inr (some 0))), none, none], [.inr (.inr (some 1)), .inr (.inr (some 1)), .inr (.inr (some 0))], yc_s1)) rfl (by decide +kernel) yc_m0_1
theorem yc_m0 {d : Nat} : zb_C (d + 5) 126 [.inr (.inr (some 0))] yc_s0 (fun v s => v = none ∧ s = yc_s113) := zb_in (M := ax_m126) rfl (Nat.le_of_ble_eq_true rfl) yc_m0_0
