-- X7_within
def X7_within (x0 : Int32) (x1 : Int32) (x2 : Int32) : Int32 :=
    if x0 < x1 then (0 : Int32)
    else if x2 < x0 then (0 : Int32)
    else (1 : Int32)
def X7_within_o (x0 : Int32) (x1 : Int32) (x2 : Int32) : Option Int32 :=
    if x0 < x1 then some (0 : Int32)
    else if x2 < x0 then some (0 : Int32)
    else some (1 : Int32)
theorem X7_within_e (x0 : Int32) (x1 : Int32) (x2 : Int32) : X7_within_o x0 x1 x2 = some (X7_within x0 x1 x2) := by
  unfold X7_within_o X7_within
  repeat' split
  all_goals first | rfl
-- X7_isKind
def X7_isKind (x0 : Int32) : Int32 :=
    (X7_within x0 (0 : Int32) (6 : Int32))
def X7_isKind_o (x0 : Int32) : Option Int32 :=
    some (X7_within x0 (0 : Int32) (6 : Int32))
theorem X7_isKind_e (x0 : Int32) : X7_isKind_o x0 = some (X7_isKind x0) := by
  unfold X7_isKind_o X7_isKind
  repeat' split
  all_goals first | rfl
-- X7_finding
def X7_finding (x1 : Int32) (h : Hp) : Option (Int32 × Hp) :=
    if (X7_within ((-1000001 : Int32) - x1) (0 : Int32) (6 : Int32)) = 0 then some (x1, h)
    else chk (inR ((-1000001 : Int32) - x1) 7) (chk (inR ((-1000001 : Int32) - x1) 7) (some (x1, (up h 55 ((-1000001 : Int32) - x1).toNatClampNeg ((h 55 ((-1000001 : Int32) - x1).toNatClampNeg) + (1 : Int32))))))
-- X1_addPart
def X1_addPart_38 (c0 : Nat) (x4 : Int32) (s1 : Int32) (h : Hp) : Option (Int32 × Hp) :=
    chk (inR s1 10) (some (((up h (c0 + 4) s1.toNatClampNeg x4) c0 10), (up (up h (c0 + 4) s1.toNatClampNeg x4) c0 10 (((up h (c0 + 4) s1.toNatClampNeg x4) c0 10) + (1 : Int32)))))
def X1_addPart (c0 : Nat) (x1 : Int32) (x2 : Int32) (x3 : Int32) (x4 : Int32) (h : Hp) : Option (Int32 × Hp) :=
    chk (inR (h c0 10) 10) (chk (inR ((up h (c0 + 1) (h c0 10).toNatClampNeg x1) c0 10) 10) (chk (inR ((up (up h (c0 + 1) (h c0 10).toNatClampNeg x1) (c0 + 2) ((up h (c0 + 1) (h c0 10).toNatClampNeg x1) c0 10).toNatClampNeg x2) c0 10) 10) (X1_addPart_38 c0 x4 ((up (up (up h (c0 + 1) (h c0 10).toNatClampNeg x1) (c0 + 2) ((up h (c0 + 1) (h c0 10).toNatClampNeg x1) c0 10).toNatClampNeg x2) (c0 + 3) ((up (up h (c0 + 1) (h c0 10).toNatClampNeg x1) (c0 + 2) ((up h (c0 + 1) (h c0 10).toNatClampNeg x1) c0 10).toNatClampNeg x2) c0 10).toNatClampNeg x3) c0 10) (up (up (up h (c0 + 1) (h c0 10).toNatClampNeg x1) (c0 + 2) ((up h (c0 + 1) (h c0 10).toNatClampNeg x1) c0 10).toNatClampNeg x2) (c0 + 3) ((up (up h (c0 + 1) (h c0 10).toNatClampNeg x1) (c0 + 2) ((up h (c0 + 1) (h c0 10).toNatClampNeg x1) c0 10).toNatClampNeg x2) c0 10).toNatClampNeg x3))))
-- X7_part
def X7_part (x1 : Int32) (h : Hp) : Option (Int32 × Hp) :=
    if (X7_isKind x1) = 0 then bnd (X7_finding (-1000001 : Int32) h) (fun r11 => some (r11.1, r11.2))
    else if (h 1 10) < (10 : Int32) then bnd (X1_addPart 1 x1 (0 : Int32) (10 : Int32) (-1 : Int32) h) (fun r5 => some (r5.1, r5.2))
    else bnd (X7_finding (-1000002 : Int32) h) (fun r8 => some (r8.1, r8.2))
-- X1_hasPart
def X1_hasPart (x1 : Int32) (h : Hp) : Int32 :=
    (X7_within x1 (0 : Int32) ((h 1 10) - (1 : Int32)))
def X1_hasPart_o (x1 : Int32) (h : Hp) : Option Int32 :=
    some (X7_within x1 (0 : Int32) ((h 1 10) - (1 : Int32)))
theorem X1_hasPart_e (x1 : Int32) (h : Hp) : X1_hasPart_o x1 h = some (X1_hasPart x1 h) := by
  unfold X1_hasPart_o X1_hasPart
  repeat' split
  all_goals first | rfl
-- X7_of
def X7_of (x1 : Int32) (x2 : Int32) (h : Hp) : Option (Int32 × Hp) :=
    if x2 = (0 : Int32) then (if (X1_hasPart x1 h) = 0 then bnd (X7_finding (-1000001 : Int32) h) (fun r5 => some (r5.1, r5.2))
      else chk (inR x1 10) (some ((h 2 x1.toNatClampNeg), h)))
    else if x2 = (1 : Int32) then (if (X1_hasPart x1 h) = 0 then bnd (X7_finding (-1000001 : Int32) h) (fun r11 => some (r11.1, r11.2))
      else chk (inR x1 10) (some ((h 3 x1.toNatClampNeg), h)))
    else if x2 = (2 : Int32) then (if (X1_hasPart x1 h) = 0 then bnd (X7_finding (-1000001 : Int32) h) (fun r17 => some (r17.1, r17.2))
      else chk (inR x1 10) (some ((h 4 x1.toNatClampNeg), h)))
    else if x2 = (3 : Int32) then (if (X1_hasPart x1 h) = 0 then bnd (X7_finding (-1000001 : Int32) h) (fun r23 => some (r23.1, r23.2))
      else chk (inR x1 10) (some ((h 5 x1.toNatClampNeg), h)))
    else if (X1_hasPart x1 h) = 0 then bnd (X7_finding (-1000001 : Int32) h) (fun r28 => some (r28.1, r28.2))
    else bnd (X7_finding (-1000001 : Int32) h) (fun r31 => some (r31.1, r31.2))
-- X7_change
def X7_change (x1 : Int32) (x2 : Int32) (x3 : Int32) (h : Hp) : Option (Int32 × Hp) :=
    if x2 = (0 : Int32) then (if (X1_hasPart x1 h) = 0 then bnd (X7_finding (-1000001 : Int32) h) (fun r5 => some (r5.1, r5.2))
      else chk (inR x2 4) (chk (inR x2 4) (if (X7_within x3 (LTr x2.toNatClampNeg) (MTr x2.toNatClampNeg)) = 0 then bnd (X7_finding (-1000001 : Int32) h) (fun r10 => some (r10.1, r10.2))
      else chk (inR x1 10) (chk (inR x1 10) (some ((h 2 x1.toNatClampNeg), (up h 2 x1.toNatClampNeg x3)))))))
    else if x2 = (1 : Int32) then (if (X1_hasPart x1 h) = 0 then bnd (X7_finding (-1000001 : Int32) h) (fun r16 => some (r16.1, r16.2))
      else chk (inR x2 4) (chk (inR x2 4) (if (X7_within x3 (LTr x2.toNatClampNeg) (MTr x2.toNatClampNeg)) = 0 then bnd (X7_finding (-1000001 : Int32) h) (fun r21 => some (r21.1, r21.2))
      else chk (inR x1 10) (chk (inR x1 10) (some ((h 3 x1.toNatClampNeg), (up h 3 x1.toNatClampNeg x3)))))))
    else if x2 = (2 : Int32) then (if (X1_hasPart x1 h) = 0 then bnd (X7_finding (-1000001 : Int32) h) (fun r27 => some (r27.1, r27.2))
      else chk (inR x2 4) (chk (inR x2 4) (if (X7_within x3 (LTr x2.toNatClampNeg) (MTr x2.toNatClampNeg)) = 0 then bnd (X7_finding (-1000001 : Int32) h) (fun r32 => some (r32.1, r32.2))
      else chk (inR x1 10) (chk (inR x1 10) (some ((h 4 x1.toNatClampNeg), (up h 4 x1.toNatClampNeg x3)))))))
    else if x2 = (3 : Int32) then (if (X1_hasPart x1 h) = 0 then bnd (X7_finding (-1000001 : Int32) h) (fun r38 => some (r38.1, r38.2))
      else chk (inR x2 4) (chk (inR x2 4) (if (X7_within x3 (LTr x2.toNatClampNeg) (MTr x2.toNatClampNeg)) = 0 then bnd (X7_finding (-1000001 : Int32) h) (fun r43 => some (r43.1, r43.2))
      else chk (inR x1 10) (chk (inR x1 10) (some ((h 5 x1.toNatClampNeg), (up h 5 x1.toNatClampNeg x3)))))))
    else if (X1_hasPart x1 h) = 0 then bnd (X7_finding (-1000001 : Int32) h) (fun r48 => some (r48.1, r48.2))
    else bnd (X7_finding (-1000001 : Int32) h) (fun r51 => some (r51.1, r51.2))
-- X7_isFace
def X7_isFace (x0 : Int32) : Int32 :=
    (X7_within x0 (0 : Int32) (5 : Int32))
def X7_isFace_o (x0 : Int32) : Option Int32 :=
    some (X7_within x0 (0 : Int32) (5 : Int32))
theorem X7_isFace_e (x0 : Int32) : X7_isFace_o x0 = some (X7_isFace x0) := by
  unfold X7_isFace_o X7_isFace
  repeat' split
  all_goals first | rfl
-- X7_face
def X7_face_30 (x1 : Int32) (x2 : Int32) (x3 : Int32) (s0 : Int32) (s1 : Int32) (s2 : Int32) (h : Hp) : Option (Int32 × Hp) :=
    if (X7_within s0 s1 s2) = 0 then bnd (X7_finding (-1000001 : Int32) h) (fun r5 => some (r5.1, r5.2))
    else if x2 = 0 then chk (inR x1 6) (chk (inR x1 6) (some ((h 6 x1.toNatClampNeg), (up h 6 x1.toNatClampNeg x3))))
    else chk (inR x1 6) (chk (inR x1 6) (some ((h 7 x1.toNatClampNeg), (up h 7 x1.toNatClampNeg x3))))
def X7_face (x1 : Int32) (x2 : Int32) (x3 : Int32) (h : Hp) : Option (Int32 × Hp) :=
    if (X7_isFace x1) = 0 then bnd (X7_finding (-1000001 : Int32) h) (fun r4 => some (r4.1, r4.2))
    else if (X7_within x2 (0 : Int32) (1 : Int32)) = 0 then bnd (X7_finding (-1000001 : Int32) h) (fun r9 => some (r9.1, r9.2))
    else if x2 = 0 then X7_face_30 x1 x2 x3 x3 (0 : Int32) (255 : Int32) h
    else X7_face_30 x1 x2 x3 x3 (0 : Int32) (99 : Int32) h
-- X7_isRoom
def X7_isRoom (x0 : Int32) : Int32 :=
    (X7_within x0 (0 : Int32) (5 : Int32))
def X7_isRoom_o (x0 : Int32) : Option Int32 :=
    some (X7_within x0 (0 : Int32) (5 : Int32))
theorem X7_isRoom_e (x0 : Int32) : X7_isRoom_o x0 = some (X7_isRoom x0) := by
  unfold X7_isRoom_o X7_isRoom
  repeat' split
  all_goals first | rfl
-- X7_show
def X7_show_26 (x1 : Int32) (x2 : Int32) (h : Hp) : Option (Int32 × Hp) :=
    chk (inR x1 6) (chk (inR x1 6) (some ((h 8 x1.toNatClampNeg), (up h 8 x1.toNatClampNeg x2))))
def X7_show (x1 : Int32) (x2 : Int32) (h : Hp) : Option (Int32 × Hp) :=
    if (X7_isRoom x1) = 0 then bnd (X7_finding (-1000001 : Int32) h) (fun r4 => some (r4.1, r4.2))
    else if (X7_isFace x2) = 0 then (if x2 = (-1 : Int32) then X7_show_26 x1 x2 h
      else bnd (X7_finding (-1000001 : Int32) h) (fun r10 => some (r10.1, r10.2)))
    else X7_show_26 x1 x2 h
-- X7_pace
def X7_pace (x1 : Int32) (h : Hp) : Option (Int32 × Hp) :=
    if (X7_within x1 (1 : Int32) (20 : Int32)) = 0 then bnd (X7_finding (-1000001 : Int32) h) (fun r4 => some (r4.1, r4.2))
    else some ((h 1 13), (up h 1 13 x1))
-- X1_partsAt
def X1_partsAt_4 (fu : Nat) (h : Hp) : Nat → Int32 → Int32 → Int32 → Option (Int32)
  | 0, _, _, _ => none
  | n + 1, x1, x2, x3 => if (h 1 10) ≤ x3 then some x2
    else chk (inR x3 10) (if (h 5 x3.toNatClampNeg) = x1 then X1_partsAt_4 fu h n x1 (x2 ||| ((1 : Int32) <<< (x3 &&& 31))) (x3 + (1 : Int32))
    else X1_partsAt_4 fu h n x1 x2 (x3 + (1 : Int32)))
def X1_partsAt (fu : Nat) (x1 : Int32) (h : Hp) : Option (Int32) :=
    X1_partsAt_4 fu h fu x1 (0 : Int32) (0 : Int32)
-- J6_bitCount_0f7a4
def J6_bitCount_0f7a4_48 (x0 : Int32) : Option (Int32) :=
    some (x0 &&& (63 : Int32))
def J6_bitCount_0f7a4_41 (x0 : Int32) : Option (Int32) :=
    J6_bitCount_0f7a4_48 (x0 + (x0.toUInt32 >>> ((16 : Int32).toUInt32 &&& Int32.toUInt32 31)).toInt32)
def J6_bitCount_0f7a4_34 (x0 : Int32) : Option (Int32) :=
    J6_bitCount_0f7a4_41 (x0 + (x0.toUInt32 >>> ((8 : Int32).toUInt32 &&& Int32.toUInt32 31)).toInt32)
def J6_bitCount_0f7a4_24 (x0 : Int32) : Option (Int32) :=
    J6_bitCount_0f7a4_34 ((x0 + (x0.toUInt32 >>> ((4 : Int32).toUInt32 &&& Int32.toUInt32 31)).toInt32) &&& (252645135 : Int32))
def J6_bitCount_0f7a4_10 (x0 : Int32) : Option (Int32) :=
    J6_bitCount_0f7a4_24 ((x0 &&& (858993459 : Int32)) + ((x0.toUInt32 >>> ((2 : Int32).toUInt32 &&& Int32.toUInt32 31)).toInt32 &&& (858993459 : Int32)))
def J6_bitCount_0f7a4_48T (x0 : Int32) : Int32 :=
    (x0 &&& (63 : Int32))
theorem J6_bitCount_0f7a4_48_e (x0 : Int32) : J6_bitCount_0f7a4_48 x0 = some (J6_bitCount_0f7a4_48T x0) := by
  unfold J6_bitCount_0f7a4_48 J6_bitCount_0f7a4_48T
  repeat' split
  all_goals first | rfl | exact rfl
def J6_bitCount_0f7a4_41T (x0 : Int32) : Int32 :=
    J6_bitCount_0f7a4_48T (x0 + (x0.toUInt32 >>> ((16 : Int32).toUInt32 &&& Int32.toUInt32 31)).toInt32)
theorem J6_bitCount_0f7a4_41_e (x0 : Int32) : J6_bitCount_0f7a4_41 x0 = some (J6_bitCount_0f7a4_41T x0) := by
  unfold J6_bitCount_0f7a4_41 J6_bitCount_0f7a4_41T
  repeat' split
  all_goals first | rfl | exact J6_bitCount_0f7a4_48_e _ | exact rfl
def J6_bitCount_0f7a4_34T (x0 : Int32) : Int32 :=
    J6_bitCount_0f7a4_41T (x0 + (x0.toUInt32 >>> ((8 : Int32).toUInt32 &&& Int32.toUInt32 31)).toInt32)
theorem J6_bitCount_0f7a4_34_e (x0 : Int32) : J6_bitCount_0f7a4_34 x0 = some (J6_bitCount_0f7a4_34T x0) := by
  unfold J6_bitCount_0f7a4_34 J6_bitCount_0f7a4_34T
  repeat' split
  all_goals first | rfl | exact J6_bitCount_0f7a4_48_e _ | exact J6_bitCount_0f7a4_41_e _ | exact rfl
def J6_bitCount_0f7a4_24T (x0 : Int32) : Int32 :=
    J6_bitCount_0f7a4_34T ((x0 + (x0.toUInt32 >>> ((4 : Int32).toUInt32 &&& Int32.toUInt32 31)).toInt32) &&& (252645135 : Int32))
theorem J6_bitCount_0f7a4_24_e (x0 : Int32) : J6_bitCount_0f7a4_24 x0 = some (J6_bitCount_0f7a4_24T x0) := by
  unfold J6_bitCount_0f7a4_24 J6_bitCount_0f7a4_24T
  repeat' split
  all_goals first | rfl | exact J6_bitCount_0f7a4_48_e _ | exact J6_bitCount_0f7a4_41_e _ | exact J6_bitCount_0f7a4_34_e _ | exact rfl
def J6_bitCount_0f7a4_10T (x0 : Int32) : Int32 :=
    J6_bitCount_0f7a4_24T ((x0 &&& (858993459 : Int32)) + ((x0.toUInt32 >>> ((2 : Int32).toUInt32 &&& Int32.toUInt32 31)).toInt32 &&& (858993459 : Int32)))
theorem J6_bitCount_0f7a4_10_e (x0 : Int32) : J6_bitCount_0f7a4_10 x0 = some (J6_bitCount_0f7a4_10T x0) := by
  unfold J6_bitCount_0f7a4_10 J6_bitCount_0f7a4_10T
  repeat' split
  all_goals first | rfl | exact J6_bitCount_0f7a4_48_e _ | exact J6_bitCount_0f7a4_41_e _ | exact J6_bitCount_0f7a4_34_e _ | exact J6_bitCount_0f7a4_24_e _ | exact rfl
def J6_bitCount_0f7a4 (x0 : Int32) : Int32 :=
    J6_bitCount_0f7a4_10T (x0 - ((x0.toUInt32 >>> ((1 : Int32).toUInt32 &&& Int32.toUInt32 31)).toInt32 &&& (1431655765 : Int32)))
def J6_bitCount_0f7a4_o (x0 : Int32) : Option Int32 :=
    J6_bitCount_0f7a4_10 (x0 - ((x0.toUInt32 >>> ((1 : Int32).toUInt32 &&& Int32.toUInt32 31)).toInt32 &&& (1431655765 : Int32)))
theorem J6_bitCount_0f7a4_e (x0 : Int32) : J6_bitCount_0f7a4_o x0 = some (J6_bitCount_0f7a4 x0) := by
  unfold J6_bitCount_0f7a4_o J6_bitCount_0f7a4
  repeat' split
  all_goals first | rfl | exact J6_bitCount_0f7a4_48_e _ | exact J6_bitCount_0f7a4_41_e _ | exact J6_bitCount_0f7a4_34_e _ | exact J6_bitCount_0f7a4_24_e _ | exact J6_bitCount_0f7a4_10_e _
-- X2_unlike
def X2_unlike (x0 : Int32) (x1 : Int32) : Int32 :=
    (J6_bitCount_0f7a4 ((x0 ^^^ x1) &&& (255 : Int32)))
def X2_unlike_o (x0 : Int32) (x1 : Int32) : Option Int32 :=
    some (J6_bitCount_0f7a4 ((x0 ^^^ x1) &&& (255 : Int32)))
theorem X2_unlike_e (x0 : Int32) (x1 : Int32) : X2_unlike_o x0 x1 = some (X2_unlike x0 x1) := by
  unfold X2_unlike_o X2_unlike
  repeat' split
  all_goals first | rfl
-- X2_likeness
def X2_likeness (x0 : Int32) (x1 : Int32) (x2 : Int32) : Option (Int32) :=
    if x0 = (1 : Int32) then some ((2 : Int32) * ((8 : Int32) - (X2_unlike x1 x2)))
    else if x0 = (2 : Int32) then some (((2 : Int32) * ((8 : Int32) - (X2_unlike x1 x2))) + (2 : Int32))
    else if x0 = (3 : Int32) then (if (x2 &&& (128 : Int32)) = 0 then some (jmax (0 : Int32) ((((2 : Int32) * ((8 : Int32) - (X2_unlike x1 x2))) + (2 : Int32)) + (-5 : Int32)))
      else some (jmax (0 : Int32) ((((2 : Int32) * ((8 : Int32) - (X2_unlike x1 x2))) + (2 : Int32)) + (5 : Int32))))
    else if x0 = (4 : Int32) then some (((8 : Int32) - (X2_unlike x1 x2)) + (3 : Int32))
    else if x0 = (5 : Int32) then some (((8 : Int32) - (X2_unlike x1 x2)) / (2 : Int32))
    else if x0 = (6 : Int32) then some (jmax (3 : Int32) (((8 : Int32) - (X2_unlike x1 x2)) / (2 : Int32)))
    else some ((8 : Int32) - (X2_unlike x1 x2))
-- X1_likeTo
def X1_likeTo (x1 : Int32) (x2 : Int32) (h : Hp) : Option (Int32) :=
    chk (inR x1 10) (chk (inR x1 10) (chk (inR x2 6) (bnd (X2_likeness (h 2 x1.toNatClampNeg) (h 3 x1.toNatClampNeg) (h 6 x2.toNatClampNeg)) (fun r2 => some r2))))
-- X1_likeness
def X1_likeness_12 (fu : Nat) (h : Hp) : Nat → Int32 → Int32 → Int32 → Int32 → Option (Int32)
  | 0, _, _, _, _ => none
  | n + 1, x1, x2, x3, x4 => if (h 1 10) ≤ x4 then some x3
    else if (X7_isFace x2) = 0 then some x3
    else chk (inR x4 10) (if (h 5 x4.toNatClampNeg) = x1 then bnd (X1_likeTo x4 x2 h) (fun r6 => X1_likeness_12 fu h n x1 x2 (x3 + r6) (x4 + (1 : Int32)))
    else X1_likeness_12 fu h n x1 x2 x3 (x4 + (1 : Int32)))
def X1_likeness (fu : Nat) (x1 : Int32) (h : Hp) : Option (Int32) :=
    chk (inR x1 6) (X1_likeness_12 fu h fu x1 (h 8 x1.toNatClampNeg) (0 : Int32) (0 : Int32))
-- X1_roomOf
def X1_roomOf (x1 : Int32) (h : Hp) : Option (Int32) :=
    if (1 : Int32) ≤ (h 1 13) then chk (inR x1 4) (chk (nz (h 1 13)) (if (X7_isRoom (((h 1 12) - (h 9 x1.toNatClampNeg)) / (h 1 13))) = 0 then some (-1 : Int32)
      else some (((h 1 12) - (h 9 x1.toNatClampNeg)) / (h 1 13))))
    else some (-1 : Int32)
-- X1_visitorsIn
def X1_visitorsIn_4 (fu : Nat) (h : Hp) : Nat → Int32 → Int32 → Int32 → Option (Int32)
  | 0, _, _, _ => none
  | n + 1, x1, x2, x3 => if (h 1 11) ≤ x3 then some x2
    else bnd (X1_roomOf x3 h) (fun r3 => if r3 = x1 then X1_visitorsIn_4 fu h n x1 (x2 ||| ((1 : Int32) <<< (x3 &&& 31))) (x3 + (1 : Int32))
    else X1_visitorsIn_4 fu h n x1 x2 (x3 + (1 : Int32)))
def X1_visitorsIn (fu : Nat) (x1 : Int32) (h : Hp) : Option (Int32) :=
    X1_visitorsIn_4 fu h fu x1 (0 : Int32) (0 : Int32)
-- X7_room
def X7_room (fu : Nat) (x1 : Int32) (x2 : Int32) (h : Hp) : Option (Int32 × Hp) :=
    if (X7_isRoom x1) = 0 then bnd (X7_finding (-1000001 : Int32) h) (fun r20 => some (r20.1, r20.2))
    else if x2 = (0 : Int32) then chk (inR x1 6) (some ((h 8 x1.toNatClampNeg), h))
    else if x2 = (1 : Int32) then bnd (X1_partsAt fu x1 h) (fun r6 => some (r6, h))
    else if x2 = (2 : Int32) then bnd (X1_likeness fu x1 h) (fun r10 => some (r10, h))
    else if x2 = (3 : Int32) then bnd (X1_visitorsIn fu x1 h) (fun r14 => some (r14, h))
    else bnd (X7_finding (-1000001 : Int32) h) (fun r17 => some (r17.1, r17.2))
-- X7_like
def X7_like (x1 : Int32) (x2 : Int32) (h : Hp) : Option (Int32 × Hp) :=
    if (X1_hasPart x1 h) = 0 then bnd (X7_finding (-1000001 : Int32) h) (fun r4 => some (r4.1, r4.2))
    else if (X7_isFace x2) = 0 then bnd (X7_finding (-1000001 : Int32) h) (fun r12 => some (r12.1, r12.2))
    else bnd (X1_likeTo x1 x2 h) (fun r9 => some (r9, h))
-- X7_isPlace
def X7_isPlace (x0 : Int32) : Int32 :=
    (X7_within x0 (-1 : Int32) (5 : Int32))
def X7_isPlace_o (x0 : Int32) : Option Int32 :=
    some (X7_within x0 (-1 : Int32) (5 : Int32))
theorem X7_isPlace_e (x0 : Int32) : X7_isPlace_o x0 = some (X7_isPlace x0) := by
  unfold X7_isPlace_o X7_isPlace
  repeat' split
  all_goals first | rfl
-- X2_minutes
def X2_minutes (x0 : Int32) (x1 : Int32) (x2 : Int32) : Option (Int32) :=
    if x0 = (2 : Int32) then some (x1 + (3 : Int32))
    else if x0 = (3 : Int32) then some ((2 : Int32) * (x1 + (3 : Int32)))
    else if x0 = (4 : Int32) then some ((x1 + (1 : Int32)) + (x2 / (10 : Int32)))
    else if x0 = (5 : Int32) then some (1 : Int32)
    else if x0 = (6 : Int32) then some (1 : Int32)
    else some (x1 + (1 : Int32))
-- X1_minutesTo
def X1_minutesTo_17 (h : Hp) (x1 : Int32) : Option (Int32) :=
    chk (inR x1 10) (chk (inR x1 10) (bnd (X2_minutes (h 2 x1.toNatClampNeg) (6 : Int32) (h 4 x1.toNatClampNeg)) (fun r2 => some r2)))
def X1_minutesTo (x1 : Int32) (x2 : Int32) (h : Hp) : Option (Int32) :=
    chk (inR x1 10) (if (h 5 x1.toNatClampNeg) = (-1 : Int32) then X1_minutesTo_17 h x1
    else if x2 = (-1 : Int32) then X1_minutesTo_17 h x1
    else chk (inR x1 10) (chk (inR x1 10) (bnd (X2_minutes (h 2 x1.toNatClampNeg) (jabs ((h 5 x1.toNatClampNeg) - x2)) (h 4 x1.toNatClampNeg)) (fun r4 => some r4))))
-- X7_carries
def X7_carries (x1 : Int32) (x2 : Int32) (h : Hp) : Option (Int32 × Hp) :=
    if (X1_hasPart x1 h) = 0 then bnd (X7_finding (-1000001 : Int32) h) (fun r4 => some (r4.1, r4.2))
    else if (X7_isPlace x2) = 0 then bnd (X7_finding (-1000001 : Int32) h) (fun r16 => some (r16.1, r16.2))
    else chk (inR x1 10) (if (h 5 x1.toNatClampNeg) = x2 then bnd (X7_finding (-1000005 : Int32) h) (fun r13 => some (r13.1, r13.2))
    else bnd (X1_minutesTo x1 x2 h) (fun r10 => some (r10, h)))
-- X1_addVisitor
def X1_addVisitor (h : Hp) : Option (Int32 × Hp) :=
    chk (inR (h 1 11) 4) (some (((up h 9 (h 1 11).toNatClampNeg (h 1 12)) 1 11), (up (up h 9 (h 1 11).toNatClampNeg (h 1 12)) 1 11 (((up h 9 (h 1 11).toNatClampNeg (h 1 12)) 1 11) + (1 : Int32)))))
-- X7_visitor
def X7_visitor (h : Hp) : Option (Int32 × Hp) :=
    if (h 1 11) < (4 : Int32) then bnd (X1_addVisitor h) (fun r3 => some (r3.1, r3.2))
    else bnd (X7_finding (-1000002 : Int32) h) (fun r6 => some (r6.1, r6.2))
-- X1_hasVisitor
def X1_hasVisitor (x1 : Int32) (h : Hp) : Int32 :=
    (X7_within x1 (0 : Int32) ((h 1 11) - (1 : Int32)))
def X1_hasVisitor_o (x1 : Int32) (h : Hp) : Option Int32 :=
    some (X7_within x1 (0 : Int32) ((h 1 11) - (1 : Int32)))
theorem X1_hasVisitor_e (x1 : Int32) (h : Hp) : X1_hasVisitor_o x1 h = some (X1_hasVisitor x1 h) := by
  unfold X1_hasVisitor_o X1_hasVisitor
  repeat' split
  all_goals first | rfl
-- X1_sighted
def X1_sighted_5 (fu : Nat) (h : Hp) : Nat → Int32 → Int32 → Int32 → Int32 → Option (Int32)
  | 0, _, _, _, _ => none
  | n + 1, x1, x2, x3, x4 => if (h 1 10) ≤ x4 then some x3
    else chk (inR ((x1 * (10 : Int32)) + x4) 40) (if (J6_bitCount_0f7a4 (h 10 ((x1 * (10 : Int32)) + x4).toNatClampNeg)) < x2 then X1_sighted_5 fu h n x1 x2 x3 (x4 + (1 : Int32))
    else X1_sighted_5 fu h n x1 x2 (x3 ||| ((1 : Int32) <<< (x4 &&& 31))) (x4 + (1 : Int32)))
def X1_sighted (fu : Nat) (x1 : Int32) (x2 : Int32) (h : Hp) : Option (Int32) :=
    X1_sighted_5 fu h fu x1 x2 (0 : Int32) (0 : Int32)
-- X7_seen
def X7_seen (fu : Nat) (x1 : Int32) (x2 : Int32) (h : Hp) : Option (Int32 × Hp) :=
    if (X1_hasVisitor x1 h) = 0 then bnd (X7_finding (-1000001 : Int32) h) (fun r19 => some (r19.1, r19.2))
    else if x2 = (0 : Int32) then bnd (X1_roomOf x1 h) (fun r5 => some (r5, h))
    else if x2 = (1 : Int32) then bnd (X1_sighted fu x1 (1 : Int32) h) (fun r9 => some (r9, h))
    else if x2 = (2 : Int32) then bnd (X1_sighted fu x1 (2 : Int32) h) (fun r13 => some (r13, h))
    else bnd (X7_finding (-1000001 : Int32) h) (fun r16 => some (r16.1, r16.2))
-- X1_passes
def X1_passes (x1 : Int32) (x2 : Int32) (x3 : Int32) (x4 : Int32) (h : Hp) : Option (Int32) :=
    chk (inR x1 4) (if (X7_isRoom x2) = 0 then some (0 : Int32)
    else if (jmin (((h 9 x1.toNatClampNeg) + (x2 * (h 1 13))) + (h 1 13)) x4) ≤ (jmax ((h 9 x1.toNatClampNeg) + (x2 * (h 1 13))) x3) then some (0 : Int32)
    else some (1 : Int32))
-- X1_spend
def X1_spend_12 (fu : Nat) (k2 : Int32 → Int32 → Hp → Option (Hp)) : Nat → Int32 → Int32 → Int32 → Hp → Option (Hp)
  | 0, _, _, _, _ => none
  | n + 1, x1, x2, x3, h => if (h 1 10) ≤ x3 then k2 x1 (x2 + (1 : Int32)) h
    else chk (inR x3 10) (bnd (X1_passes x2 (h 5 x3.toNatClampNeg) (h 1 12) ((h 1 12) + x1) h) (fun r3 => if r3 = 0 then X1_spend_12 fu k2 n x1 x2 (x3 + (1 : Int32)) h
    else chk (inR ((x2 * (10 : Int32)) + x3) 40) (chk (inR x3 10) (chk (inR ((x2 * (10 : Int32)) + x3) 40) (X1_spend_12 fu k2 n x1 x2 (x3 + (1 : Int32)) (up h 10 ((x2 * (10 : Int32)) + x3).toNatClampNeg ((h 10 ((x2 * (10 : Int32)) + x3).toNatClampNeg) ||| ((1 : Int32) <<< ((h 5 x3.toNatClampNeg) &&& 31)))))))))
def X1_spend_2 (fu : Nat) : Nat → Int32 → Int32 → Hp → Option (Hp)
  | 0, _, _, _ => none
  | n + 1, x1, x2, h => if (h 1 11) ≤ x2 then some (up h 1 12 ((h 1 12) + x1))
    else X1_spend_12 fu (X1_spend_2 fu n) fu x1 x2 (0 : Int32) h
def X1_spend (fu : Nat) (x1 : Int32) (h : Hp) : Option (Hp) :=
    X1_spend_2 fu fu x1 (0 : Int32) h
-- X1_carry
def X1_carry (fu : Nat) (x1 : Int32) (x2 : Int32) (h : Hp) : Option (Hp) :=
    bnd (X1_minutesTo x1 x2 h) (fun r2 => chk (inR x1 10) (bnd (X1_spend fu r2 (up h 5 x1.toNatClampNeg (-1 : Int32))) (fun h5 => chk (inR x1 10) (some (up h5 5 x1.toNatClampNeg x2)))))
-- X7_move
def X7_move (fu : Nat) (x1 : Int32) (x2 : Int32) (h : Hp) : Option (Int32 × Hp) :=
    if (X1_hasPart x1 h) = 0 then bnd (X7_finding (-1000001 : Int32) h) (fun r4 => some (r4.1, r4.2))
    else if (X7_isPlace x2) = 0 then bnd (X7_finding (-1000001 : Int32) h) (fun r22 => some (r22.1, r22.2))
    else chk (inR x1 10) (if (h 5 x1.toNatClampNeg) = x2 then bnd (X7_finding (-1000005 : Int32) h) (fun r10 => some (r10.1, r10.2))
    else bnd (X1_minutesTo x1 x2 h) (fun r13 => if ((h 1 12) + r13) ≤ (9999 : Int32) then bnd (X1_carry fu x1 x2 h) (fun h17 => some ((h17 1 12), h17))
    else bnd (X7_finding (-1000005 : Int32) h) (fun r19 => some (r19.1, r19.2))))
-- X1_sightedTwice
def X1_sightedTwice_4 (fu : Nat) (h : Hp) : Nat → Int32 → Int32 → Option (Int32)
  | 0, _, _ => none
  | n + 1, x1, x2 => if (h 1 11) ≤ x2 then some x1
    else bnd (X1_sighted fu x2 (2 : Int32) h) (fun r3 => X1_sightedTwice_4 fu h n (x1 ||| r3) (x2 + (1 : Int32)))
def X1_sightedTwice (fu : Nat) (h : Hp) : Option (Int32) :=
    X1_sightedTwice_4 fu h fu (0 : Int32) (0 : Int32)
-- X7_waits
def X7_waits (fu : Nat) (x1 : Int32) (h : Hp) : Option (Int32 × Hp) :=
    if (X7_within x1 (1 : Int32) (60 : Int32)) = 0 then bnd (X7_finding (-1000001 : Int32) h) (fun r13 => some (r13.1, r13.2))
    else if ((h 1 12) + x1) ≤ (9999 : Int32) then bnd (X1_spend fu x1 h) (fun h5 => bnd (X1_sightedTwice fu h5) (fun r7 => some ((J6_bitCount_0f7a4 r7), h5)))
    else bnd (X7_finding (-1000005 : Int32) h) (fun r10 => some (r10.1, r10.2))
-- X1_allLikeness
def X1_allLikeness_4 (fu : Nat) (h : Hp) : Nat → Int32 → Int32 → Option (Int32)
  | 0, _, _ => none
  | n + 1, x1, x2 => if (6 : Int32) ≤ x2 then some x1
    else bnd (X1_likeness fu x2 h) (fun r3 => X1_allLikeness_4 fu h n (x1 + r3) (x2 + (1 : Int32)))
def X1_allLikeness (fu : Nat) (h : Hp) : Option (Int32) :=
    X1_allLikeness_4 fu h fu (0 : Int32) (0 : Int32)
-- X1_visitorsThere
def X1_visitorsThere_4 (fu : Nat) (h : Hp) : Nat → Int32 → Int32 → Option (Int32)
  | 0, _, _ => none
  | n + 1, x1, x2 => if (6 : Int32) ≤ x2 then some x1
    else bnd (X1_visitorsIn fu x2 h) (fun r3 => X1_visitorsThere_4 fu h n (x1 ||| r3) (x2 + (1 : Int32)))
def X1_visitorsThere (fu : Nat) (h : Hp) : Option (Int32) :=
    X1_visitorsThere_4 fu h fu (0 : Int32) (0 : Int32)
-- X7_now
def X7_now (fu : Nat) (x1 : Int32) (h : Hp) : Option (Int32 × Hp) :=
    if x1 = (0 : Int32) then some ((h 1 12), h)
    else if x1 = (1 : Int32) then some ((h 1 13), h)
    else if x1 = (2 : Int32) then bnd (X1_allLikeness fu h) (fun r5 => some (r5, h))
    else if x1 = (3 : Int32) then bnd (X1_visitorsThere fu h) (fun r9 => some (r9, h))
    else if x1 = (4 : Int32) then bnd (X1_partsAt fu (-1 : Int32) h) (fun r13 => some (r13, h))
    else if x1 = (5 : Int32) then bnd (X1_sightedTwice fu h) (fun r17 => some (r17, h))
    else bnd (X7_finding (-1000001 : Int32) h) (fun r20 => some (r20.1, r20.2))
-- X1_roomsShown
def X1_roomsShown_4 (fu : Nat) (h : Hp) : Nat → Int32 → Int32 → Option (Int32)
  | 0, _, _ => none
  | n + 1, x1, x2 => if (6 : Int32) ≤ x2 then some x1
    else chk (inR x2 6) (if (X7_isFace (h 8 x2.toNatClampNeg)) = 0 then X1_roomsShown_4 fu h n x1 (x2 + (1 : Int32))
    else X1_roomsShown_4 fu h n (x1 ||| ((1 : Int32) <<< (x2 &&& 31))) (x2 + (1 : Int32)))
def X1_roomsShown (fu : Nat) (h : Hp) : Option (Int32) :=
    X1_roomsShown_4 fu h fu (0 : Int32) (0 : Int32)
-- X2_isUnder
def X2_isUnder_4 (fu : Nat) (h : Hp) : Nat → Int32 → Int32 → Int32 → Option (Int32)
  | 0, _, _, _ => none
  | n + 1, x1, x2, x3 => if (6 : Int32) < x3 then some (0 : Int32)
    else if x2 < 0 then some (0 : Int32)
    else if (7 : Int32) ≤ x2 then some (0 : Int32)
    else if x2 = x1 then some (1 : Int32)
    else chk (inR x2 7) (X2_isUnder_4 fu h n x1 (ABv x2.toNatClampNeg) (x3 + (1 : Int32)))
def X2_isUnder (fu : Nat) (x0 : Int32) (x1 : Int32) (h : Hp) : Option (Int32) :=
    X2_isUnder_4 fu h fu x1 x0 (0 : Int32)
-- X1_isHead
def X1_isHead (fu : Nat) (x1 : Int32) (h : Hp) : Option (Int32) :=
    chk (inR x1 10) (bnd (X2_isUnder fu (h 2 x1.toNatClampNeg) (1 : Int32) h) (fun r2 => some r2))
-- X0_survey
def X0_survey_45 (fu : Nat) (k15 : Int32 → Hp → Option (Hp)) : Nat → Int32 → Int32 → Hp → Option (Hp)
  | 0, _, _, _ => none
  | n + 1, x2, x3, h => if (6 : Int32) ≤ x3 then k15 (x2 + (1 : Int32)) h
    else chk (inR x3 6) (if (X7_isFace (h 8 x3.toNatClampNeg)) = 0 then chk (inR ((x2 * (6 : Int32)) + x3) 60) (X0_survey_45 fu k15 n x2 (x3 + (1 : Int32)) (up h 35 ((x2 * (6 : Int32)) + x3).toNatClampNeg (0 : Int32)))
    else bnd (X1_likeTo x2 (h 8 x3.toNatClampNeg) h) (fun r5 => chk (inR ((x2 * (6 : Int32)) + x3) 60) (X0_survey_45 fu k15 n x2 (x3 + (1 : Int32)) (up h 35 ((x2 * (6 : Int32)) + x3).toNatClampNeg r5))))
def X0_survey_15 (fu : Nat) : Nat → Int32 → Hp → Option (Hp)
  | 0, _, _ => none
  | n + 1, x2, h => if (h 1 10) ≤ x2 then some h
    else bnd (X1_isHead fu x2 h) (fun r3 => if r3 = 0 then X0_survey_15 fu n (x2 + (1 : Int32)) h
    else X0_survey_45 fu (X0_survey_15 fu n) fu x2 (0 : Int32) (up h 34 2 ((h 34 2) ||| ((1 : Int32) <<< (x2 &&& 31)))))
def X0_survey (fu : Nat) (h : Hp) : Option (Hp) :=
    bnd (X1_roomsShown fu h) (fun r2 => X0_survey_15 fu fu (0 : Int32) (up (up h 34 3 r2) 34 2 (0 : Int32)))
-- J7_fill_53178
def J7_fill_53178_5 (fu : Nat) (c0 : Nat) : Nat → Int32 → Int32 → Int32 → Hp → Option (Hp)
  | 0, _, _, _, _ => none
  | n + 1, x1, x2, x3, h => if x3 ≤ x2 then some h
    else chk (inR x2 (lnX c0)) (J7_fill_53178_5 fu c0 n x1 (x2 + (1 : Int32)) x3 (up h c0 x2.toNatClampNeg x1))
def J7_fill_53178 (fu : Nat) (c0 : Nat) (x1 : Int32) (h : Hp) : Option (Hp) :=
    J7_fill_53178_5 fu c0 fu x1 (0 : Int32) (lenX c0) h
-- X0_worthIn
def X0_worthIn_10 (fu : Nat) (h : Hp) : Nat → Int32 → Int32 → Int32 → Int32 → Option (Int32)
  | 0, _, _, _, _ => none
  | n + 1, x1, x2, x3, x4 => if (6 : Int32) ≤ x4 then some x3
    else if (x1 &&& ((1 : Int32) <<< (x4 &&& 31))) = 0 then X0_worthIn_10 fu h n x1 x2 x3 (x4 + (1 : Int32))
    else chk (inR (x1 &&& (((1 : Int32) <<< (x4 &&& 31)) ^^^ (-1 : Int32))) 64) (chk (inR ((x2 * (6 : Int32)) + x4) 60) (X0_worthIn_10 fu h n x1 x2 (jmax x3 ((h 36 (x1 &&& (((1 : Int32) <<< (x4 &&& 31)) ^^^ (-1 : Int32))).toNatClampNeg) + (h 35 ((x2 * (6 : Int32)) + x4).toNatClampNeg))) (x4 + (1 : Int32))))
def X0_worthIn (fu : Nat) (x1 : Int32) (x2 : Int32) (h : Hp) : Option (Int32) :=
    chk (inR x1 64) (X0_worthIn_10 fu h fu x1 x2 (h 36 x1.toNatClampNeg) (0 : Int32))
-- X0_offer
def X0_offer_2 (fu : Nat) : Nat → Int32 → Int32 → Int32 → Hp → Option (Hp)
  | 0, _, _, _, _ => none
  | n + 1, x1, x2, x3, h => if x3 ≤ 0 then some h
    else if (x3 &&& (x1 ^^^ (-1 : Int32))) = 0 then bnd (X0_worthIn fu x3 x2 h) (fun r4 => chk (inR x3 64) (X0_offer_2 fu n x1 x2 (x3 + (-1 : Int32)) (up h 36 x3.toNatClampNeg r4)))
    else X0_offer_2 fu n x1 x2 (x3 + (-1 : Int32)) h
def X0_offer (fu : Nat) (x1 : Int32) (x2 : Int32) (h : Hp) : Option (Hp) :=
    X0_offer_2 fu fu x1 x2 x1 h
-- X0_fill
def X0_fill_10 (fu : Nat) : Nat → Int32 → Int32 → Int32 → Hp → Option (Int32 × Hp)
  | 0, _, _, _, _ => none
  | n + 1, x1, x2, x3, h => if (10 : Int32) ≤ x3 then chk (inR x1 64) (some ((h 36 x1.toNatClampNeg), h))
    else if (x2 &&& ((1 : Int32) <<< (x3 &&& 31))) = 0 then X0_fill_10 fu n x1 x2 (x3 + (1 : Int32)) h
    else bnd (X0_offer fu x1 x3 h) (fun h4 => X0_fill_10 fu n x1 x2 (x3 + (1 : Int32)) h4)
def X0_fill (fu : Nat) (x1 : Int32) (x2 : Int32) (h : Hp) : Option (Int32 × Hp) :=
    bnd (J7_fill_53178 fu 36 (0 : Int32) h) (fun h2 => X0_fill_10 fu fu x1 x2 (0 : Int32) h2)
-- X0_bestWorth
def X0_bestWorth (fu : Nat) (h : Hp) : Option (Int32 × Hp) :=
    bnd (X0_survey fu h) (fun h2 => bnd (X0_fill fu (h2 34 3) (h2 34 2) h2) (fun r4 => some (r4.1, r4.2)))
-- X7_most
def X7_most (fu : Nat) (h : Hp) : Option (Int32 × Hp) :=
    bnd (X0_bestWorth fu h) (fun r2 => some (r2.1, r2.2))
-- X0_firstHead
def X0_firstHead_2 (fu : Nat) : Nat → Int32 → Int32 → Int32 → Hp → Option (Int32 × Hp)
  | 0, _, _, _, _ => none
  | n + 1, x1, x2, x3, h => if (10 : Int32) ≤ x3 then some ((-1 : Int32), h)
    else if ((h 34 2) &&& (((1 : Int32) <<< (x3 &&& 31)) ^^^ (-1 : Int32))) = (h 34 2) then X0_firstHead_2 fu n x1 x2 (x3 + (1 : Int32)) h
    else chk (inR ((x3 * (6 : Int32)) + x1) 60) (bnd (X0_fill fu (h 34 3) ((h 34 2) &&& (((1 : Int32) <<< (x3 &&& 31)) ^^^ (-1 : Int32))) h) (fun r4 => if ((h 35 ((x3 * (6 : Int32)) + x1).toNatClampNeg) + r4.1) = x2 then some (x3, r4.2)
    else X0_firstHead_2 fu n x1 x2 (x3 + (1 : Int32)) r4.2))
def X0_firstHead (fu : Nat) (x1 : Int32) (x2 : Int32) (h : Hp) : Option (Int32 × Hp) :=
    X0_firstHead_2 fu fu x1 x2 (0 : Int32) h
-- X0_headIn
def X0_headIn_69 (fu : Nat) (k24 : Int32 → Int32 → Int32 → Int32 → Hp → Option (Int32 × Hp)) (x2 : Int32) (x3 : Int32) (x4 : Int32) (x5 : Int32) (h : Hp) : Option (Int32 × Hp) :=
    if x4 = (-1 : Int32) then k24 x2 x3 x4 (x5 + (1 : Int32)) h
    else chk (inR ((x4 * (6 : Int32)) + x5) 60) (k24 x2 (x3 - ((up h 34 2 ((h 34 2) &&& (((1 : Int32) <<< (x4 &&& 31)) ^^^ (-1 : Int32)))) 35 ((x4 * (6 : Int32)) + x5).toNatClampNeg)) x4 (x5 + (1 : Int32)) (up h 34 2 ((h 34 2) &&& (((1 : Int32) <<< (x4 &&& 31)) ^^^ (-1 : Int32)))))
def X0_headIn_24 (fu : Nat) : Nat → Int32 → Int32 → Int32 → Int32 → Hp → Option (Int32 × Hp)
  | 0, _, _, _, _, _ => none
  | n + 1, x2, x3, x4, x5, h => if x2 < x5 then some (x4, h)
    else if ((h 34 3) &&& ((1 : Int32) <<< (x5 &&& 31))) = 0 then X0_headIn_69 fu (X0_headIn_24 fu n) x2 x3 (-1 : Int32) x5 h
    else bnd (X0_firstHead fu x5 x3 (up h 34 3 ((h 34 3) &&& (((1 : Int32) <<< (x5 &&& 31)) ^^^ (-1 : Int32))))) (fun r4 => X0_headIn_69 fu (X0_headIn_24 fu n) x2 x3 r4.1 x5 r4.2)
def X0_headIn (fu : Nat) (x2 : Int32) (h : Hp) : Option (Int32 × Hp) :=
    bnd (X0_survey fu h) (fun h2 => bnd (X0_fill fu (h2 34 3) (h2 34 2) h2) (fun r4 => X0_headIn_24 fu fu x2 r4.1 (-1 : Int32) (0 : Int32) r4.2))
-- X7_given
def X7_given (fu : Nat) (x1 : Int32) (h : Hp) : Option (Int32 × Hp) :=
    if (X7_isRoom x1) = 0 then bnd (X7_finding (-1000001 : Int32) h) (fun r7 => some (r7.1, r7.2))
    else bnd (X0_headIn fu x1 h) (fun r4 => some (r4.1, r4.2))
-- X1_likestTo
def X1_likestTo_4 (fu : Nat) (h : Hp) : Nat → Int32 → Int32 → Int32 → Option (Int32)
  | 0, _, _, _ => none
  | n + 1, x1, x2, x3 => if (h 1 10) ≤ x3 then some x2
    else bnd (X1_likeTo x3 x1 h) (fun r3 => bnd (X1_likeTo x2 x1 h) (fun r6 => if r3 ≤ r6 then X1_likestTo_4 fu h n x1 x2 (x3 + (1 : Int32))
    else X1_likestTo_4 fu h n x1 x3 (x3 + (1 : Int32))))
def X1_likestTo (fu : Nat) (x1 : Int32) (h : Hp) : Option (Int32) :=
    X1_likestTo_4 fu h fu x1 (0 : Int32) (1 : Int32)
-- X7_likest
def X7_likest (fu : Nat) (x1 : Int32) (h : Hp) : Option (Int32 × Hp) :=
    if (X7_isFace x1) = 0 then bnd (X7_finding (-1000001 : Int32) h) (fun r11 => some (r11.1, r11.2))
    else if (h 1 10) = 0 then bnd (X7_finding (-1000004 : Int32) h) (fun r8 => some (r8.1, r8.2))
    else bnd (X1_likestTo fu x1 h) (fun r5 => some (r5, h))
-- X1_likestOf
def X1_likestOf_4 (fu : Nat) (h : Hp) : Nat → Int32 → Int32 → Int32 → Option (Int32)
  | 0, _, _, _ => none
  | n + 1, x1, x2, x3 => if (6 : Int32) ≤ x3 then some x2
    else bnd (X1_likeTo x1 x3 h) (fun r3 => bnd (X1_likeTo x1 x2 h) (fun r6 => if r3 ≤ r6 then X1_likestOf_4 fu h n x1 x2 (x3 + (1 : Int32))
    else X1_likestOf_4 fu h n x1 x3 (x3 + (1 : Int32))))
def X1_likestOf (fu : Nat) (x1 : Int32) (h : Hp) : Option (Int32) :=
    X1_likestOf_4 fu h fu x1 (0 : Int32) (1 : Int32)
-- X7_whom
def X7_whom (fu : Nat) (x1 : Int32) (h : Hp) : Option (Int32 × Hp) :=
    if (X1_hasPart x1 h) = 0 then bnd (X7_finding (-1000001 : Int32) h) (fun r7 => some (r7.1, r7.2))
    else bnd (X1_likestOf fu x1 h) (fun r4 => some (r4, h))
-- X0_lossOf
def X0_lossOf (fu : Nat) (x2 : Int32) (h : Hp) : Option (Int32 × Hp) :=
    bnd (X0_survey fu h) (fun h2 => bnd (X0_fill fu (h2 34 3) (h2 34 2) h2) (fun r4 => bnd (X0_fill fu (r4.2 34 3) ((r4.2 34 2) &&& (((1 : Int32) <<< (x2 &&& 31)) ^^^ (-1 : Int32))) r4.2) (fun r7 => some ((r4.1 - r7.1), r7.2))))
-- X7_missed
def X7_missed (fu : Nat) (x1 : Int32) (h : Hp) : Option (Int32 × Hp) :=
    if (X1_hasPart x1 h) = 0 then bnd (X7_finding (-1000001 : Int32) h) (fun r7 => some (r7.1, r7.2))
    else bnd (X0_lossOf fu x1 h) (fun r4 => some (r4.1, r4.2))
-- X0_worthWith
def X0_worthWith_14 (fu : Nat) (h : Hp) : Nat → Int32 → Int32 → Int32 → Int32 → Option (Int32)
  | 0, _, _, _, _ => none
  | n + 1, x2, x3, x4, x5 => if (6 : Int32) ≤ x5 then some x4
    else bnd (X2_isUnder fu x2 (1 : Int32) h) (fun r3 => if r3 = 0 then some x4
    else chk (inR x5 6) (if (X7_isFace (h 8 x5.toNatClampNeg)) = 0 then X0_worthWith_14 fu h n x2 x3 x4 (x5 + (1 : Int32))
    else chk (inR (h 8 x5.toNatClampNeg) 6) (bnd (X2_likeness x2 x3 (h 6 (h 8 x5.toNatClampNeg).toNatClampNeg)) (fun r9 => chk (inR ((h 34 3) &&& (((1 : Int32) <<< (x5 &&& 31)) ^^^ (-1 : Int32))) 64) (X0_worthWith_14 fu h n x2 x3 (jmax x4 ((h 36 ((h 34 3) &&& (((1 : Int32) <<< (x5 &&& 31)) ^^^ (-1 : Int32))).toNatClampNeg) + r9)) (x5 + (1 : Int32)))))))
def X0_worthWith (fu : Nat) (x2 : Int32) (x3 : Int32) (h : Hp) : Option (Int32) :=
    chk (inR (h 34 3) 64) (X0_worthWith_14 fu h fu x2 x3 (h 36 (h 34 3).toNatClampNeg) (0 : Int32))
-- X0_bestLooks
def X0_bestLooks_32 (fu : Nat) : Nat → Int32 → Int32 → Int32 → Int32 → Hp → Option (Int32 × Hp)
  | 0, _, _, _, _, _ => none
  | n + 1, x2, x3, x4, x5, h => if (255 : Int32) < x5 then some (x3, h)
    else chk (inR x2 10) (bnd (X0_worthWith fu (h 2 x2.toNatClampNeg) x5 h) (fun r3 => if r3 ≤ x4 then X0_bestLooks_32 fu n x2 x3 x4 (x5 + (1 : Int32)) h
    else X0_bestLooks_32 fu n x2 x5 r3 (x5 + (1 : Int32)) h))
def X0_bestLooks (fu : Nat) (x2 : Int32) (h : Hp) : Option (Int32 × Hp) :=
    bnd (X0_survey fu h) (fun h2 => bnd (X0_fill fu (h2 34 3) ((h2 34 2) &&& (((1 : Int32) <<< (x2 &&& 31)) ^^^ (-1 : Int32))) h2) (fun r4 => X0_bestLooks_32 fu fu x2 (0 : Int32) (-1 : Int32) (0 : Int32) r4.2))
-- X7_recast
def X7_recast (fu : Nat) (x1 : Int32) (h : Hp) : Option (Int32 × Hp) :=
    if (X1_hasPart x1 h) = 0 then bnd (X7_finding (-1000001 : Int32) h) (fun r14 => some (r14.1, r14.2))
    else bnd (X1_isHead fu x1 h) (fun r4 => if r4 = 0 then bnd (X7_finding (-1000003 : Int32) h) (fun r11 => some (r11.1, r11.2))
    else bnd (X0_bestLooks fu x1 h) (fun r8 => some (r8.1, r8.2)))
-- X0_bestKind
def X0_bestKind_32 (fu : Nat) : Nat → Int32 → Int32 → Int32 → Int32 → Hp → Option (Int32 × Hp)
  | 0, _, _, _, _, _ => none
  | n + 1, x2, x3, x4, x5, h => if (6 : Int32) < x5 then some (x3, h)
    else chk (inR x2 10) (bnd (X0_worthWith fu x5 (h 3 x2.toNatClampNeg) h) (fun r3 => if r3 ≤ x4 then X0_bestKind_32 fu n x2 x3 x4 (x5 + (1 : Int32)) h
    else X0_bestKind_32 fu n x2 x5 r3 (x5 + (1 : Int32)) h))
def X0_bestKind (fu : Nat) (x2 : Int32) (h : Hp) : Option (Int32 × Hp) :=
    bnd (X0_survey fu h) (fun h2 => bnd (X0_fill fu (h2 34 3) ((h2 34 2) &&& (((1 : Int32) <<< (x2 &&& 31)) ^^^ (-1 : Int32))) h2) (fun r4 => X0_bestKind_32 fu fu x2 (0 : Int32) (-1 : Int32) (0 : Int32) r4.2))
-- X7_kindFor
def X7_kindFor (fu : Nat) (x1 : Int32) (h : Hp) : Option (Int32 × Hp) :=
    if (X1_hasPart x1 h) = 0 then bnd (X7_finding (-1000001 : Int32) h) (fun r7 => some (r7.1, r7.2))
    else bnd (X0_bestKind fu x1 h) (fun r4 => some (r4.1, r4.2))
-- X1_staysUnseen
def X1_staysUnseen_97 (fu : Nat) (k22 : Int32 → Int32 → Int32 → Int32 → Int32 → Option (Int32)) (h : Hp) (x1 : Int32) (x2 : Int32) (x4 : Int32) (x5 : Int32) (x6 : Int32) (x7 : Int32) : Option (Int32) :=
    bnd (X1_passes x6 x2 x5 (1000000 : Int32) h) (fun r2 => if r2 = 0 then (if (J6_bitCount_0f7a4 x7) < (2 : Int32) then k22 x1 x2 x4 x5 (x6 + (1 : Int32))
      else some (0 : Int32))
    else if (J6_bitCount_0f7a4 (x7 ||| ((1 : Int32) <<< (x2 &&& 31)))) < (2 : Int32) then k22 x1 x2 x4 x5 (x6 + (1 : Int32))
    else some (0 : Int32))
def X1_staysUnseen_22 (fu : Nat) (h : Hp) : Nat → Int32 → Int32 → Int32 → Int32 → Int32 → Option (Int32)
  | 0, _, _, _, _, _ => none
  | n + 1, x1, x2, x4, x5, x6 => if (h 1 11) ≤ x6 then some (1 : Int32)
    else chk (inR ((x6 * (10 : Int32)) + x1) 40) (bnd (X1_roomOf x6 h) (fun r3 => if r3 < 0 then X1_staysUnseen_22 fu h n x1 x2 x4 x5 (x6 + (1 : Int32))
    else if (2 : Int32) ≤ (J6_bitCount_0f7a4 (h 10 ((x6 * (10 : Int32)) + x1).toNatClampNeg)) then X1_staysUnseen_22 fu h n x1 x2 x4 x5 (x6 + (1 : Int32))
    else chk (inR x1 10) (bnd (X1_passes x6 (h 5 x1.toNatClampNeg) (h 1 12) x4 h) (fun r8 => if r8 = 0 then X1_staysUnseen_97 fu (X1_staysUnseen_22 fu h n) h x1 x2 x4 x5 x6 (h 10 ((x6 * (10 : Int32)) + x1).toNatClampNeg)
    else chk (inR x1 10) (X1_staysUnseen_97 fu (X1_staysUnseen_22 fu h n) h x1 x2 x4 x5 x6 ((h 10 ((x6 * (10 : Int32)) + x1).toNatClampNeg) ||| ((1 : Int32) <<< ((h 5 x1.toNatClampNeg) &&& 31))))))))
def X1_staysUnseen (fu : Nat) (x1 : Int32) (x2 : Int32) (x3 : Int32) (h : Hp) : Option (Int32) :=
    bnd (X1_minutesTo x1 x2 h) (fun r2 => X1_staysUnseen_22 fu h fu x1 x2 ((h 1 12) + x3) (((h 1 12) + x3) + r2) (0 : Int32))
-- X7_unseen
def X7_unseen_60 (fu : Nat) : Nat → Int32 → Int32 → Int32 → Hp → Option (Int32 × Hp)
  | 0, _, _, _, _ => none
  | n + 1, x1, x2, x3, h => if (60 : Int32) < x3 then bnd (X7_finding (-1000004 : Int32) h) (fun r3 => some (r3.1, r3.2))
    else bnd (X1_staysUnseen fu x1 x2 x3 h) (fun r6 => if r6 = 0 then X7_unseen_60 fu n x1 x2 (x3 + (1 : Int32)) h
    else some (x3, h))
def X7_unseen (fu : Nat) (x1 : Int32) (x2 : Int32) (h : Hp) : Option (Int32 × Hp) :=
    if (X1_hasPart x1 h) = 0 then bnd (X7_finding (-1000001 : Int32) h) (fun r4 => some (r4.1, r4.2))
    else if (X7_isPlace x2) = 0 then bnd (X7_finding (-1000001 : Int32) h) (fun r17 => some (r17.1, r17.2))
    else chk (inR x1 10) (if (h 5 x1.toNatClampNeg) = x2 then bnd (X7_finding (-1000005 : Int32) h) (fun r10 => some (r10.1, r10.2))
    else if (h 1 12) ≤ (9000 : Int32) then X7_unseen_60 fu fu x1 x2 (0 : Int32) h
    else bnd (X7_finding (-1000005 : Int32) h) (fun r14 => some (r14.1, r14.2)))
-- X7_hidden
def X7_hidden_38 (fu : Nat) : Nat → Int32 → Int32 → Int32 → Hp → Option (Int32 × Hp)
  | 0, _, _, _, _ => none
  | n + 1, x1, x2, x3, h => if (h 1 10) ≤ x3 then some (x2, h)
    else chk (inR x3 10) (if (h 5 x3.toNatClampNeg) = x1 then X7_hidden_38 fu n x1 x2 (x3 + (1 : Int32)) h
    else bnd (X1_staysUnseen fu x3 x1 (0 : Int32) h) (fun r4 => if r4 = 0 then X7_hidden_38 fu n x1 x2 (x3 + (1 : Int32)) h
    else X7_hidden_38 fu n x1 (x2 ||| ((1 : Int32) <<< (x3 &&& 31))) (x3 + (1 : Int32)) h))
def X7_hidden (fu : Nat) (x1 : Int32) (h : Hp) : Option (Int32 × Hp) :=
    if (X7_isPlace x1) = 0 then bnd (X7_finding (-1000001 : Int32) h) (fun r8 => some (r8.1, r8.2))
    else if (h 1 12) ≤ (9000 : Int32) then X7_hidden_38 fu fu x1 (0 : Int32) (0 : Int32) h
    else bnd (X7_finding (-1000005 : Int32) h) (fun r5 => some (r5.1, r5.2))
-- X1_minutesTillEmpty
def X1_minutesTillEmpty_4 (fu : Nat) (h : Hp) : Nat → Int32 → Int32 → Option (Int32)
  | 0, _, _ => none
  | n + 1, x1, x2 => if (h 1 11) ≤ x2 then some x1
    else chk (inR x2 4) (X1_minutesTillEmpty_4 fu h n (jmax x1 (((h 9 x2.toNatClampNeg) + ((6 : Int32) * (h 1 13))) - (h 1 12))) (x2 + (1 : Int32)))
def X1_minutesTillEmpty (fu : Nat) (h : Hp) : Option (Int32) :=
    X1_minutesTillEmpty_4 fu h fu (0 : Int32) (0 : Int32)
-- X7_empty
def X7_empty (fu : Nat) (h : Hp) : Option (Int32) :=
    bnd (X1_minutesTillEmpty fu h) (fun r2 => some r2)
-- X1_allChances
def X1_allChances_4 (fu : Nat) (h : Hp) : Nat → Int32 → Int32 → Option (Int32)
  | 0, _, _ => none
  | n + 1, x1, x2 => if (6 : Int32) ≤ x2 then some x1
    else chk (inR x2 6) (X1_allChances_4 fu h n (x1 + (h 7 x2.toNatClampNeg)) (x2 + (1 : Int32)))
def X1_allChances (fu : Nat) (h : Hp) : Option (Int32) :=
    X1_allChances_4 fu h fu (0 : Int32) (0 : Int32)
-- X1_favour
def X1_favour_4 (fu : Nat) (h : Hp) : Nat → Int32 → Int32 → Int32 → Option (Int32)
  | 0, _, _, _ => none
  | n + 1, x1, x2, x3 => if (6 : Int32) ≤ x3 then some x2
    else chk (inR x3 6) (chk (inR x3 6) (bnd (X2_likeness (1 : Int32) x1 (h 6 x3.toNatClampNeg)) (fun r3 => X1_favour_4 fu h n x1 (x2 + ((h 7 x3.toNatClampNeg) * r3)) (x3 + (1 : Int32)))))
def X1_favour (fu : Nat) (x1 : Int32) (h : Hp) : Option (Int32) :=
    X1_favour_4 fu h fu x1 (0 : Int32) (0 : Int32)
-- X7_commonDivisor
def X7_commonDivisor_7 (fu : Nat) : Nat → Int32 → Int32 → Int32 → Option (Int32)
  | 0, _, _, _ => none
  | n + 1, x2, x3, x4 => if (100 : Int32) ≤ x4 then (if x2 = 0 then some (1 : Int32)
      else some x2)
    else if x3 = 0 then (if x2 = 0 then some (1 : Int32)
      else some x2)
    else chk (nz x3) (X7_commonDivisor_7 fu n x3 (x2 - x2 / x3 * x3) (x4 + (1 : Int32)))
def X7_commonDivisor (fu : Nat) (x0 : Int32) (x1 : Int32) : Option (Int32) :=
    X7_commonDivisor_7 fu fu x0 x1 (0 : Int32)
-- X7_worth
def X7_worth (fu : Nat) (x1 : Int32) (x2 : Int32) (h : Hp) : Option (Int32 × Hp) :=
    if (X7_within x1 (0 : Int32) (255 : Int32)) = 0 then bnd (X7_finding (-1000001 : Int32) h) (fun r4 => some (r4.1, r4.2))
    else if (X7_within x2 (0 : Int32) (1 : Int32)) = 0 then bnd (X7_finding (-1000001 : Int32) h) (fun r23 => some (r23.1, r23.2))
    else bnd (X1_allChances fu h) (fun r9 => if r9 = 0 then bnd (X7_finding (-1000004 : Int32) h) (fun r20 => some (r20.1, r20.2))
    else bnd (X1_favour fu x1 h) (fun r13 => bnd (X7_commonDivisor fu r13 r9) (fun r16 => if x2 = 0 then chk (nz r16) (some ((r13 / r16), h))
    else chk (nz r16) (some ((r9 / r16), h)))))
-- X7_next
def X7_next_23 (fu : Nat) : Nat → Int32 → Int32 → Int32 → Hp → Option (Int32 × Hp)
  | 0, _, _, _, _ => none
  | n + 1, x1, x2, x3, h => if (255 : Int32) < x3 then some (x1, h)
    else bnd (X1_favour fu x3 h) (fun r3 => if r3 ≤ x2 then X7_next_23 fu n x1 x2 (x3 + (1 : Int32)) h
    else X7_next_23 fu n x3 r3 (x3 + (1 : Int32)) h)
def X7_next (fu : Nat) (h : Hp) : Option (Int32 × Hp) :=
    bnd (X1_allChances fu h) (fun r2 => if r2 = 0 then bnd (X7_finding (-1000004 : Int32) h) (fun r6 => some (r6.1, r6.2))
    else X7_next_23 fu fu (0 : Int32) (-1 : Int32) (0 : Int32) h)
-- X1_cutCost
def X1_cutCost (x1 : Int32) (x2 : Int32) (h : Hp) : Option (Int32) :=
    chk (inR x1 10) (chk (inR x2 6) (chk (inR x1 10) (some ((X2_unlike (h 3 x1.toNatClampNeg) (h 6 x2.toNatClampNeg)) * (h 4 x1.toNatClampNeg)))))
-- X1_nearestMould
def X1_nearestMould_4 (fu : Nat) (h : Hp) : Nat → Int32 → Int32 → Int32 → Option (Int32)
  | 0, _, _, _ => none
  | n + 1, x1, x2, x3 => if (h 1 10) ≤ x3 then some x2
    else bnd (X1_cutCost x3 x1 h) (fun r3 => bnd (X1_cutCost x2 x1 h) (fun r6 => if r6 ≤ r3 then X1_nearestMould_4 fu h n x1 x2 (x3 + (1 : Int32))
    else X1_nearestMould_4 fu h n x1 x3 (x3 + (1 : Int32))))
def X1_nearestMould (fu : Nat) (x1 : Int32) (h : Hp) : Option (Int32) :=
    X1_nearestMould_4 fu h fu x1 (0 : Int32) (1 : Int32)
-- X7_mould
def X7_mould (fu : Nat) (x1 : Int32) (h : Hp) : Option (Int32 × Hp) :=
    if (X7_isFace x1) = 0 then bnd (X7_finding (-1000001 : Int32) h) (fun r11 => some (r11.1, r11.2))
    else if (h 1 10) = 0 then bnd (X7_finding (-1000004 : Int32) h) (fun r8 => some (r8.1, r8.2))
    else bnd (X1_nearestMould fu x1 h) (fun r5 => some (r5, h))
-- X7_cuts
def X7_cuts (fu : Nat) (x1 : Int32) (h : Hp) : Option (Int32 × Hp) :=
    if (X7_isFace x1) = 0 then bnd (X7_finding (-1000001 : Int32) h) (fun r14 => some (r14.1, r14.2))
    else if (h 1 10) = 0 then bnd (X7_finding (-1000004 : Int32) h) (fun r11 => some (r11.1, r11.2))
    else bnd (X1_nearestMould fu x1 h) (fun r5 => bnd (X1_cutCost r5 x1 h) (fun r8 => some (r8, h)))
-- X7_isSheet
def X7_isSheet (x0 : Int32) : Int32 :=
    (X7_within x0 (0 : Int32) (3 : Int32))
def X7_isSheet_o (x0 : Int32) : Option Int32 :=
    some (X7_within x0 (0 : Int32) (3 : Int32))
theorem X7_isSheet_e (x0 : Int32) : X7_isSheet_o x0 = some (X7_isSheet x0) := by
  unfold X7_isSheet_o X7_isSheet
  repeat' split
  all_goals first | rfl
-- X4_isMissing
def X4_isMissing (c0 : Nat) (h : Hp) : Int32 :=
    if (h c0 1) = 0 then (1 : Int32)
    else (0 : Int32)
def X4_isMissing_o (c0 : Nat) (h : Hp) : Option Int32 :=
    if (h c0 1) = 0 then some (1 : Int32)
    else some (0 : Int32)
theorem X4_isMissing_e (c0 : Nat) (h : Hp) : X4_isMissing_o c0 h = some (X4_isMissing c0 h) := by
  unfold X4_isMissing_o X4_isMissing
  repeat' split
  all_goals first | rfl
-- X6_survey
def X6_survey_21 (fu : Nat) (c2 : Nat) (k10 : Int32 → Hp → Option (Hp)) : Nat → Int32 → Int32 → Hp → Option (Hp)
  | 0, _, _, _ => none
  | n + 1, x3, x4, h => if (6 : Int32) ≤ x4 then k10 (x3 + (1 : Int32)) h
    else if (h c2 2) ≤ x4 then k10 (x3 + (1 : Int32)) h
    else bnd (X1_isHead fu x3 h) (fun r4 => if r4 = 0 then k10 (x3 + (1 : Int32)) h
    else bnd (X1_likeTo x3 x4 h) (fun r8 => chk (inR x4 40) (if r8 = (h (c2 + 1) x4.toNatClampNeg) then chk (inR x3 10) (chk (inR x3 10) (X6_survey_21 fu c2 k10 n x3 (x4 + (1 : Int32)) (up h 38 x3.toNatClampNeg ((h 38 x3.toNatClampNeg) ||| ((1 : Int32) <<< (x4 &&& 31))))))
    else X6_survey_21 fu c2 k10 n x3 (x4 + (1 : Int32)) h)))
def X6_survey_10 (fu : Nat) (c2 : Nat) : Nat → Int32 → Hp → Option (Hp)
  | 0, _, _ => none
  | n + 1, x3, h => if (h 1 10) ≤ x3 then some h
    else X6_survey_21 fu c2 (X6_survey_10 fu c2 n) fu x3 (0 : Int32) h
def X6_survey (fu : Nat) (c2 : Nat) (h : Hp) : Option (Hp) :=
    bnd (J7_fill_53178 fu 38 (0 : Int32) h) (fun h2 => X6_survey_10 fu c2 fu (0 : Int32) h2)
-- X6_facesOf
def X6_facesOf (c0 : Nat) (h : Hp) : Int32 :=
    (((1 : Int32) <<< ((jmin (h c0 2) (6 : Int32)) &&& 31)) - (1 : Int32))
def X6_facesOf_o (c0 : Nat) (h : Hp) : Option Int32 :=
    some (((1 : Int32) <<< ((jmin (h c0 2) (6 : Int32)) &&& 31)) - (1 : Int32))
theorem X6_facesOf_e (c0 : Nat) (h : Hp) : X6_facesOf_o c0 h = some (X6_facesOf c0 h) := by
  unfold X6_facesOf_o X6_facesOf
  repeat' split
  all_goals first | rfl
-- X6_offer
def X6_offer_9 (fu : Nat) (k2 : Int32 → Int32 → Int32 → Hp → Option (Hp)) : Nat → Int32 → Int32 → Int32 → Int32 → Hp → Option (Hp)
  | 0, _, _, _, _, _ => none
  | n + 1, x1, x2, x3, x4, h => if (6 : Int32) ≤ x4 then k2 x1 x2 (x3 + (-1 : Int32)) h
    else if (x3 &&& (x1 ^^^ (-1 : Int32))) = 0 then (if ((x3 &&& x2) &&& ((1 : Int32) <<< (x4 &&& 31))) = 0 then X6_offer_9 fu k2 n x1 x2 x3 (x4 + (1 : Int32)) h
      else chk (inR x3 64) (chk (inR (x3 &&& (((1 : Int32) <<< (x4 &&& 31)) ^^^ (-1 : Int32))) 64) (chk (inR x3 64) (X6_offer_9 fu k2 n x1 x2 x3 (x4 + (1 : Int32)) (up h 39 x3.toNatClampNeg ((h 39 x3.toNatClampNeg) + (h 39 (x3 &&& (((1 : Int32) <<< (x4 &&& 31)) ^^^ (-1 : Int32))).toNatClampNeg)))))))
    else k2 x1 x2 (x3 + (-1 : Int32)) h
def X6_offer_2 (fu : Nat) : Nat → Int32 → Int32 → Int32 → Hp → Option (Hp)
  | 0, _, _, _, _ => none
  | n + 1, x1, x2, x3, h => if x3 ≤ 0 then some h
    else X6_offer_9 fu (X6_offer_2 fu n) fu x1 x2 x3 (0 : Int32) h
def X6_offer (fu : Nat) (x1 : Int32) (x2 : Int32) (h : Hp) : Option (Hp) :=
    X6_offer_2 fu fu x1 x2 x1 h
-- X6_waysFor
def X6_waysFor_17 (fu : Nat) : Nat → Int32 → Int32 → Int32 → Hp → Option (Int32 × Hp)
  | 0, _, _, _, _ => none
  | n + 1, x1, x2, x3, h => if (10 : Int32) ≤ x3 then chk (inR x1 64) (some ((h 39 x1.toNatClampNeg), h))
    else if x3 = x2 then X6_waysFor_17 fu n x1 x2 (x3 + (1 : Int32)) h
    else chk (inR x3 10) (if (h 38 x3.toNatClampNeg) = 0 then X6_waysFor_17 fu n x1 x2 (x3 + (1 : Int32)) h
    else chk (inR x3 10) (bnd (X6_offer fu x1 (h 38 x3.toNatClampNeg) h) (fun h5 => X6_waysFor_17 fu n x1 x2 (x3 + (1 : Int32)) h5)))
def X6_waysFor (fu : Nat) (x1 : Int32) (x2 : Int32) (h : Hp) : Option (Int32 × Hp) :=
    bnd (J7_fill_53178 fu 39 (0 : Int32) h) (fun h2 => X6_waysFor_17 fu fu x1 x2 (0 : Int32) (up h2 39 0 (1 : Int32)))
-- X6_allWays
def X6_allWays (fu : Nat) (c2 : Nat) (h : Hp) : Option (Int32 × Hp) :=
    bnd (X6_survey fu c2 h) (fun h2 => bnd (X6_waysFor fu (X6_facesOf c2 h2) (-1 : Int32) h2) (fun r4 => some (r4.1, r4.2)))
-- X7_fits
def X7_fits (fu : Nat) (x1 : Int32) (h : Hp) : Option (Int32 × Hp) :=
    if (X7_isSheet x1) = 0 then bnd (X7_finding (-1000001 : Int32) h) (fun r13 => some (r13.1, r13.2))
    else chk (inR x1 4) (if (X4_isMissing (shc x1) h) = 0 then bnd (X6_allWays fu (shc x1) h) (fun r7 => some (r7.1, r7.2))
    else bnd (X7_finding (-1000006 : Int32) h) (fun r10 => some (r10.1, r10.2)))
-- X6_headsFor
def X6_headsFor_24 (fu : Nat) (c2 : Nat) : Nat → Int32 → Int32 → Int32 → Int32 → Hp → Option (Int32 × Hp)
  | 0, _, _, _, _, _ => none
  | n + 1, x3, x4, x5, x6, h => if (10 : Int32) ≤ x6 then some (x5, h)
    else chk (inR x6 10) (if ((h 38 x6.toNatClampNeg) &&& ((1 : Int32) <<< (x3 &&& 31))) = 0 then X6_headsFor_24 fu c2 n x3 x4 x5 (x6 + (1 : Int32)) h
    else bnd (X6_waysFor fu x4 x6 h) (fun r4 => if r4.1 ≤ 0 then X6_headsFor_24 fu c2 n x3 x4 x5 (x6 + (1 : Int32)) r4.2
    else X6_headsFor_24 fu c2 n x3 x4 (x5 ||| ((1 : Int32) <<< (x6 &&& 31))) (x6 + (1 : Int32)) r4.2))
def X6_headsFor (fu : Nat) (c2 : Nat) (x3 : Int32) (h : Hp) : Option (Int32 × Hp) :=
    bnd (X6_survey fu c2 h) (fun h2 => X6_headsFor_24 fu c2 fu x3 ((X6_facesOf c2 h2) &&& (((1 : Int32) <<< (x3 &&& 31)) ^^^ (-1 : Int32))) (0 : Int32) (0 : Int32) h2)
-- X7_maybe
def X7_maybe (fu : Nat) (x1 : Int32) (x2 : Int32) (h : Hp) : Option (Int32 × Hp) :=
    if (X7_isSheet x1) = 0 then bnd (X7_finding (-1000001 : Int32) h) (fun r22 => some (r22.1, r22.2))
    else chk (inR x1 4) (if (X4_isMissing (shc x1) h) = 0 then (if (X7_isFace x2) = 0 then bnd (X7_finding (-1000001 : Int32) h) (fun r9 => some (r9.1, r9.2))
      else if x2 < (h (shc x1) 2) then bnd (X6_headsFor fu (shc x1) x2 h) (fun r13 => some (r13.1, r13.2))
      else bnd (X7_finding (-1000001 : Int32) h) (fun r16 => some (r16.1, r16.2)))
    else bnd (X7_finding (-1000006 : Int32) h) (fun r19 => some (r19.1, r19.2)))
-- X1_headsLike
def X1_headsLike_5 (fu : Nat) (h : Hp) : Nat → Int32 → Int32 → Int32 → Int32 → Option (Int32)
  | 0, _, _, _, _ => none
  | n + 1, x1, x2, x3, x4 => if (h 1 10) ≤ x4 then some x3
    else bnd (X1_isHead fu x4 h) (fun r3 => if r3 = 0 then X1_headsLike_5 fu h n x1 x2 x3 (x4 + (1 : Int32))
    else bnd (X1_likeTo x4 x1 h) (fun r7 => if r7 < x2 then X1_headsLike_5 fu h n x1 x2 x3 (x4 + (1 : Int32))
    else X1_headsLike_5 fu h n x1 x2 (x3 ||| ((1 : Int32) <<< (x4 &&& 31))) (x4 + (1 : Int32))))
def X1_headsLike (fu : Nat) (x1 : Int32) (x2 : Int32) (h : Hp) : Option (Int32) :=
    X1_headsLike_5 fu h fu x1 x2 (0 : Int32) (0 : Int32)
-- X7_stand
def X7_stand_41 (fu : Nat) : Nat → Int32 → Int32 → Int32 → Int32 → Hp → Option (Int32 × Hp)
  | 0, _, _, _, _, _ => none
  | n + 1, x1, x2, x3, x4, h => if (6 : Int32) ≤ x4 then some (x3, h)
    else bnd (X1_headsLike fu x4 x2 h) (fun r3 => if (r3 &&& (x1 ^^^ (-1 : Int32))) = 0 then X7_stand_41 fu n x1 x2 x3 (x4 + (1 : Int32)) h
    else X7_stand_41 fu n x1 x2 (x3 ||| ((1 : Int32) <<< (x4 &&& 31))) (x4 + (1 : Int32)) h)
def X7_stand (fu : Nat) (x1 : Int32) (x2 : Int32) (h : Hp) : Option (Int32 × Hp) :=
    if (X7_within x1 (0 : Int32) (((1 : Int32) <<< ((h 1 10) &&& 31)) - (1 : Int32))) = 0 then bnd (X7_finding (-1000001 : Int32) h) (fun r4 => some (r4.1, r4.2))
    else if (X7_within x2 (0 : Int32) (99 : Int32)) = 0 then bnd (X7_finding (-1000001 : Int32) h) (fun r9 => some (r9.1, r9.2))
    else X7_stand_41 fu fu x1 x2 (0 : Int32) (0 : Int32) h
-- X7_fire
def X7_fire (fu : Nat) (x1 : Int32) (x2 : Int32) (h : Hp) : Option (Int32 × Hp) :=
    if (X7_isFace x1) = 0 then bnd (X7_finding (-1000001 : Int32) h) (fun r4 => some (r4.1, r4.2))
    else if (X7_within x2 (0 : Int32) (99 : Int32)) = 0 then bnd (X7_finding (-1000001 : Int32) h) (fun r12 => some (r12.1, r12.2))
    else bnd (X1_headsLike fu x1 x2 h) (fun r9 => some (r9, h))
-- X1_draw
def X1_draw (h : Hp) : Option (Int32 × Hp) :=
    some ((((up h 1 14 (((h 1 14) * (1103515245 : Int32)) + (12345 : Int32))) 1 14).toUInt32 >>> ((8 : Int32).toUInt32 &&& Int32.toUInt32 31)).toInt32, (up h 1 14 (((h 1 14) * (1103515245 : Int32)) + (12345 : Int32))))
-- X7_papers
def X7_papers_19 (fu : Nat) : Nat → Int32 → Int32 → Hp → Option (Int32 × Hp)
  | 0, _, _, _ => none
  | n + 1, x1, x2, h => if x1 ≤ x2 then bnd (X0_bestWorth fu h) (fun r3 => some (r3.1, r3.2))
    else bnd (X1_draw h) (fun r6 => bnd (X1_draw r6.2) (fun r9 => chk (inR (r6.1 - r6.1 / (6 : Int32) * (6 : Int32)) 6) (X7_papers_19 fu n x1 (x2 + (1 : Int32)) (up r9.2 8 (r6.1 - r6.1 / (6 : Int32) * (6 : Int32)).toNatClampNeg (r9.1 - r9.1 / (6 : Int32) * (6 : Int32))))))
def X7_papers (fu : Nat) (x1 : Int32) (h : Hp) : Option (Int32 × Hp) :=
    if (X7_within x1 (1 : Int32) (12 : Int32)) = 0 then bnd (X7_finding (-1000001 : Int32) h) (fun r4 => some (r4.1, r4.2))
    else X7_papers_19 fu fu x1 (0 : Int32) h
-- X7_seed
def X7_seed (x1 : Int32) (h : Hp) : Option (Int32 × Hp) :=
    some ((h 1 14), (up h 1 14 x1))
-- X5_append
def X5_append (x1 : Int32) (h : Hp) : Option (Hp) :=
    chk (inR (h 40 1) 120) (some (up (up h 41 (h 40 1).toNatClampNeg (vp_nar .byte x1)) 40 1 (((up h 41 (h 40 1).toNatClampNeg (vp_nar .byte x1)) 40 1) + (1 : Int32))))
-- X7_feed
def X7_feed_41 (fu : Nat) : Nat → Int32 → Int32 → Hp → Option (Int32 × Hp)
  | 0, _, _, _ => none
  | n + 1, x1, x3, h => if x3 < 0 then some ((h 40 1), h)
    else bnd (X5_append (x1 >>> (((8 : Int32) * x3) &&& 31)).toInt8.toInt32 h) (fun h3 => X7_feed_41 fu n x1 (x3 + (-1 : Int32)) h3)
def X7_feed (fu : Nat) (x1 : Int32) (x2 : Int32) (h : Hp) : Option (Int32 × Hp) :=
    if (X7_within x2 (1 : Int32) (4 : Int32)) = 0 then bnd (X7_finding (-1000001 : Int32) h) (fun r8 => some (r8.1, r8.2))
    else if ((h 40 1) + x2) ≤ (120 : Int32) then X7_feed_41 fu fu x1 (x2 - (1 : Int32)) h
    else bnd (X7_finding (-1000002 : Int32) h) (fun r5 => some (r5.1, r5.2))
-- X7_wipe
def X7_wipe (h : Hp) : Option (Int32 × Hp) :=
    some ((h 40 1), (up h 40 1 (0 : Int32)))
-- X1_become
def X1_become_186 (c0 : Nat) (c1 : Nat) (s1 : Int32) (h : Hp) : Option (Hp) :=
    some (up h c0 14 s1)
def X1_become_149 (c0 : Nat) (c1 : Nat) (h : Hp) : Option (Hp) :=
    X1_become_186 c0 c1 ((up (up (up (up h c0 10 (h c1 10)) c0 11 ((up h c0 10 (h c1 10)) c1 11)) c0 12 ((up (up h c0 10 (h c1 10)) c0 11 ((up h c0 10 (h c1 10)) c1 11)) c1 12)) c0 13 ((up (up (up h c0 10 (h c1 10)) c0 11 ((up h c0 10 (h c1 10)) c1 11)) c0 12 ((up (up h c0 10 (h c1 10)) c0 11 ((up h c0 10 (h c1 10)) c1 11)) c1 12)) c1 13)) c1 14) (up (up (up (up h c0 10 (h c1 10)) c0 11 ((up h c0 10 (h c1 10)) c1 11)) c0 12 ((up (up h c0 10 (h c1 10)) c0 11 ((up h c0 10 (h c1 10)) c1 11)) c1 12)) c0 13 ((up (up (up h c0 10 (h c1 10)) c0 11 ((up h c0 10 (h c1 10)) c1 11)) c0 12 ((up (up h c0 10 (h c1 10)) c0 11 ((up h c0 10 (h c1 10)) c1 11)) c1 12)) c1 13))
def X1_become_119 (c0 : Nat) (c1 : Nat) (h : Hp) : Option (Hp) :=
    chk (cpOk (0 : Int32) (0 : Int32) (40 : Int32) 40 40) (chk (cpOk (0 : Int32) (0 : Int32) (10 : Int32) 10 10) (X1_become_149 c0 c1 (upA (upA h (c0 + 9) (va_cpy (h (c1 + 9)) (h (c0 + 9)) (0 : Int32).toNatClampNeg (0 : Int32).toNatClampNeg (40 : Int32).toNatClampNeg)) (c0 + 10) (va_cpy ((upA h (c0 + 9) (va_cpy (h (c1 + 9)) (h (c0 + 9)) (0 : Int32).toNatClampNeg (0 : Int32).toNatClampNeg (40 : Int32).toNatClampNeg)) (c1 + 10)) ((upA h (c0 + 9) (va_cpy (h (c1 + 9)) (h (c0 + 9)) (0 : Int32).toNatClampNeg (0 : Int32).toNatClampNeg (40 : Int32).toNatClampNeg)) (c0 + 10)) (0 : Int32).toNatClampNeg (0 : Int32).toNatClampNeg (10 : Int32).toNatClampNeg))))
def X1_become_90 (c0 : Nat) (c1 : Nat) (h : Hp) : Option (Hp) :=
    chk (cpOk (0 : Int32) (0 : Int32) (6 : Int32) 6 6) (chk (cpOk (0 : Int32) (0 : Int32) (4 : Int32) 4 4) (X1_become_119 c0 c1 (upA (upA h (c0 + 7) (va_cpy (h (c1 + 7)) (h (c0 + 7)) (0 : Int32).toNatClampNeg (0 : Int32).toNatClampNeg (6 : Int32).toNatClampNeg)) (c0 + 8) (va_cpy ((upA h (c0 + 7) (va_cpy (h (c1 + 7)) (h (c0 + 7)) (0 : Int32).toNatClampNeg (0 : Int32).toNatClampNeg (6 : Int32).toNatClampNeg)) (c1 + 8)) ((upA h (c0 + 7) (va_cpy (h (c1 + 7)) (h (c0 + 7)) (0 : Int32).toNatClampNeg (0 : Int32).toNatClampNeg (6 : Int32).toNatClampNeg)) (c0 + 8)) (0 : Int32).toNatClampNeg (0 : Int32).toNatClampNeg (4 : Int32).toNatClampNeg))))
def X1_become_60 (c0 : Nat) (c1 : Nat) (h : Hp) : Option (Hp) :=
    chk (cpOk (0 : Int32) (0 : Int32) (6 : Int32) 6 6) (chk (cpOk (0 : Int32) (0 : Int32) (6 : Int32) 6 6) (X1_become_90 c0 c1 (upA (upA h (c0 + 5) (va_cpy (h (c1 + 5)) (h (c0 + 5)) (0 : Int32).toNatClampNeg (0 : Int32).toNatClampNeg (6 : Int32).toNatClampNeg)) (c0 + 6) (va_cpy ((upA h (c0 + 5) (va_cpy (h (c1 + 5)) (h (c0 + 5)) (0 : Int32).toNatClampNeg (0 : Int32).toNatClampNeg (6 : Int32).toNatClampNeg)) (c1 + 6)) ((upA h (c0 + 5) (va_cpy (h (c1 + 5)) (h (c0 + 5)) (0 : Int32).toNatClampNeg (0 : Int32).toNatClampNeg (6 : Int32).toNatClampNeg)) (c0 + 6)) (0 : Int32).toNatClampNeg (0 : Int32).toNatClampNeg (6 : Int32).toNatClampNeg))))
def X1_become_30 (c0 : Nat) (c1 : Nat) (h : Hp) : Option (Hp) :=
    chk (cpOk (0 : Int32) (0 : Int32) (10 : Int32) 10 10) (chk (cpOk (0 : Int32) (0 : Int32) (10 : Int32) 10 10) (X1_become_60 c0 c1 (upA (upA h (c0 + 3) (va_cpy (h (c1 + 3)) (h (c0 + 3)) (0 : Int32).toNatClampNeg (0 : Int32).toNatClampNeg (10 : Int32).toNatClampNeg)) (c0 + 4) (va_cpy ((upA h (c0 + 3) (va_cpy (h (c1 + 3)) (h (c0 + 3)) (0 : Int32).toNatClampNeg (0 : Int32).toNatClampNeg (10 : Int32).toNatClampNeg)) (c1 + 4)) ((upA h (c0 + 3) (va_cpy (h (c1 + 3)) (h (c0 + 3)) (0 : Int32).toNatClampNeg (0 : Int32).toNatClampNeg (10 : Int32).toNatClampNeg)) (c0 + 4)) (0 : Int32).toNatClampNeg (0 : Int32).toNatClampNeg (10 : Int32).toNatClampNeg))))
def X1_become (c0 : Nat) (c1 : Nat) (h : Hp) : Option (Hp) :=
    chk (cpOk (0 : Int32) (0 : Int32) (10 : Int32) 10 10) (chk (cpOk (0 : Int32) (0 : Int32) (10 : Int32) 10 10) (X1_become_30 c0 c1 (upA (upA h (c0 + 1) (va_cpy (h (c1 + 1)) (h (c0 + 1)) (0 : Int32).toNatClampNeg (0 : Int32).toNatClampNeg (10 : Int32).toNatClampNeg)) (c0 + 2) (va_cpy ((upA h (c0 + 1) (va_cpy (h (c1 + 1)) (h (c0 + 1)) (0 : Int32).toNatClampNeg (0 : Int32).toNatClampNeg (10 : Int32).toNatClampNeg)) (c1 + 2)) ((upA h (c0 + 1) (va_cpy (h (c1 + 1)) (h (c0 + 1)) (0 : Int32).toNatClampNeg (0 : Int32).toNatClampNeg (10 : Int32).toNatClampNeg)) (c0 + 2)) (0 : Int32).toNatClampNeg (0 : Int32).toNatClampNeg (10 : Int32).toNatClampNeg))))
-- X3_sortOf
def X3_sortOf (x0 : Int32) : Int32 :=
    if x0 < (97 : Int32) then (if x0 < (48 : Int32) then (if x0 = (59 : Int32) then (3 : Int32)
    else if x0 = (32 : Int32) then (4 : Int32)
    else (5 : Int32))
    else if (57 : Int32) < x0 then (if x0 = (59 : Int32) then (3 : Int32)
    else if x0 = (32 : Int32) then (4 : Int32)
    else (5 : Int32))
    else (2 : Int32))
    else if (122 : Int32) < x0 then (if x0 < (48 : Int32) then (if x0 = (59 : Int32) then (3 : Int32)
    else if x0 = (32 : Int32) then (4 : Int32)
    else (5 : Int32))
    else if (57 : Int32) < x0 then (if x0 = (59 : Int32) then (3 : Int32)
    else if x0 = (32 : Int32) then (4 : Int32)
    else (5 : Int32))
    else (2 : Int32))
    else (1 : Int32)
def X3_sortOf_o (x0 : Int32) : Option Int32 :=
    if x0 < (97 : Int32) then (if x0 < (48 : Int32) then (if x0 = (59 : Int32) then some (3 : Int32)
        else if x0 = (32 : Int32) then some (4 : Int32)
        else some (5 : Int32))
      else if (57 : Int32) < x0 then (if x0 = (59 : Int32) then some (3 : Int32)
        else if x0 = (32 : Int32) then some (4 : Int32)
        else some (5 : Int32))
      else some (2 : Int32))
    else if (122 : Int32) < x0 then (if x0 < (48 : Int32) then (if x0 = (59 : Int32) then some (3 : Int32)
        else if x0 = (32 : Int32) then some (4 : Int32)
        else some (5 : Int32))
      else if (57 : Int32) < x0 then (if x0 = (59 : Int32) then some (3 : Int32)
        else if x0 = (32 : Int32) then some (4 : Int32)
        else some (5 : Int32))
      else some (2 : Int32))
    else some (1 : Int32)
theorem X3_sortOf_e (x0 : Int32) : X3_sortOf_o x0 = some (X3_sortOf x0) := by
  unfold X3_sortOf_o X3_sortOf
  repeat' split
  all_goals first | rfl
-- X3_begin
def X3_begin_47 (s1 : Int32) (h : Hp) : Option (Hp) :=
    some (up h 42 5 (s1 + (1 : Int32)))
def X3_begin (x1 : Int32) (x2 : Int32) (h : Hp) : Option (Hp) :=
    if (121 : Int32) ≤ (h 42 5) then some h
    else chk (inR (h 42 5) 121) (chk (inR ((up h 43 (h 42 5).toNatClampNeg x1) 42 5) 121) (chk (inR ((up (up h 43 (h 42 5).toNatClampNeg x1) 44 ((up h 43 (h 42 5).toNatClampNeg x1) 42 5).toNatClampNeg x2) 42 5) 121) (X3_begin_47 ((up (up (up h 43 (h 42 5).toNatClampNeg x1) 44 ((up h 43 (h 42 5).toNatClampNeg x1) 42 5).toNatClampNeg x2) 45 ((up (up h 43 (h 42 5).toNatClampNeg x1) 44 ((up h 43 (h 42 5).toNatClampNeg x1) 42 5).toNatClampNeg x2) 42 5).toNatClampNeg (0 : Int32)) 42 5) (up (up (up h 43 (h 42 5).toNatClampNeg x1) 44 ((up h 43 (h 42 5).toNatClampNeg x1) 42 5).toNatClampNeg x2) 45 ((up (up h 43 (h 42 5).toNatClampNeg x1) 44 ((up h 43 (h 42 5).toNatClampNeg x1) 42 5).toNatClampNeg x2) 42 5).toNatClampNeg (0 : Int32)))))
-- X3_lengthen
def X3_lengthen (x1 : Int32) (x2 : Int32) (h : Hp) : Option (Hp) :=
    if x1 < 0 then (if x1 < 0 then some h
      else chk (inR x1 121) (chk (inR x1 121) (some (up h 45 x1.toNatClampNeg ((h 45 x1.toNatClampNeg) + (1 : Int32))))))
    else chk (inR x1 121) (if (h 43 x1.toNatClampNeg) = (2 : Int32) then chk (inR x1 121) (chk (inR x1 121) (some (up h 45 x1.toNatClampNeg (jmin (1000 : Int32) ((((h 45 x1.toNatClampNeg) * (10 : Int32)) + x2) - (48 : Int32))))))
    else if x1 < 0 then some h
    else chk (inR x1 121) (chk (inR x1 121) (some (up h 45 x1.toNatClampNeg ((h 45 x1.toNatClampNeg) + (1 : Int32))))))
-- X3_cut
def X3_cut_71 (fu : Nat) (k9 : Int32 → Int32 → Hp → Option (Hp)) (x2 : Int32) (x3 : Int32) (h : Hp) : Option (Hp) :=
    if x3 = (4 : Int32) then k9 x3 (x2 + (1 : Int32)) h
    else chk (inR x2 120) (bnd (X3_lengthen ((h 42 5) - (1 : Int32)) (h 41 x2.toNatClampNeg) h) (fun h3 => k9 x3 (x2 + (1 : Int32)) h3))
def X3_cut_53 (fu : Nat) (k9 : Int32 → Int32 → Hp → Option (Hp)) (x2 : Int32) (x3 : Int32) (s0 : Int32) (h : Hp) : Option (Hp) :=
    if s0 = 0 then (if x3 = (4 : Int32) then X3_cut_71 fu k9 x2 x3 h
      else bnd (X3_begin x3 x2 h) (fun h4 => X3_cut_71 fu k9 x2 x3 h4))
    else X3_cut_71 fu k9 x2 x3 h
def X3_cut_9 (fu : Nat) : Nat → Int32 → Int32 → Hp → Option (Hp)
  | 0, _, _, _ => none
  | n + 1, x1, x2, h => if (h 40 1) ≤ x2 then bnd (X3_begin (0 : Int32) (h 40 1) h) (fun h3 => some h3)
    else chk (inR x2 120) (if (X3_sortOf (h 41 x2.toNatClampNeg)) = x1 then (if (X3_sortOf (h 41 x2.toNatClampNeg)) = (1 : Int32) then X3_cut_53 fu (X3_cut_9 fu n) x2 (X3_sortOf (h 41 x2.toNatClampNeg)) (1 : Int32) h
      else if (X3_sortOf (h 41 x2.toNatClampNeg)) = (2 : Int32) then X3_cut_53 fu (X3_cut_9 fu n) x2 (X3_sortOf (h 41 x2.toNatClampNeg)) (1 : Int32) h
      else X3_cut_53 fu (X3_cut_9 fu n) x2 (X3_sortOf (h 41 x2.toNatClampNeg)) (0 : Int32) h)
    else X3_cut_53 fu (X3_cut_9 fu n) x2 (X3_sortOf (h 41 x2.toNatClampNeg)) (0 : Int32) h)
def X3_cut (fu : Nat) (h : Hp) : Option (Hp) :=
    X3_cut_9 fu fu (4 : Int32) (0 : Int32) (up h 42 5 (0 : Int32))
-- X3_takes
def X3_takes_33 (fu : Nat) (w1 : Nat) : Nat → Int32 → Hp → Option (Int32 × Hp)
  | 0, _, _ => none
  | n + 1, x2, h => if (slen w1) ≤ x2 then some ((1 : Int32), (up h 42 6 ((h 42 6) + (1 : Int32))))
    else chk (inR (h 42 6) 121) (chk (inR ((h 44 (h 42 6).toNatClampNeg) + x2) 120) (chk (sin w1 x2) (if (h 41 ((h 44 (h 42 6).toNatClampNeg) + x2).toNatClampNeg) = (schr w1 x2) then X3_takes_33 fu w1 n (x2 + (1 : Int32)) h
    else some ((0 : Int32), h))))
def X3_takes (fu : Nat) (w1 : Nat) (h : Hp) : Option (Int32 × Hp) :=
    chk (inR (h 42 6) 121) (if (h 43 (h 42 6).toNatClampNeg) = (1 : Int32) then chk (inR (h 42 6) 121) (if (h 45 (h 42 6).toNatClampNeg) = (slen w1) then X3_takes_33 fu w1 fu (0 : Int32) h
      else some ((0 : Int32), h))
    else some ((0 : Int32), h))
-- X3_takeNumber
def X3_takeNumber (x1 : Int32) (x2 : Int32) (h : Hp) : Option (Int32 × Hp) :=
    chk (inR (h 42 6) 121) (if (h 43 (h 42 6).toNatClampNeg) = (2 : Int32) then chk (inR (h 42 6) 121) (if (h 45 (h 42 6).toNatClampNeg) < x1 then some ((-1 : Int32), h)
      else chk (inR (h 42 6) 121) (if (h 45 (h 42 6).toNatClampNeg) ≤ x2 then chk (inR (((up h 42 6 ((h 42 6) + (1 : Int32))) 42 6) - (1 : Int32)) 121) (some (((up h 42 6 ((h 42 6) + (1 : Int32))) 45 (((up h 42 6 ((h 42 6) + (1 : Int32))) 42 6) - (1 : Int32)).toNatClampNeg), (up h 42 6 ((h 42 6) + (1 : Int32)))))
      else some ((-1 : Int32), h)))
    else some ((-1 : Int32), h))
-- X3_tells
def X3_tells (c1 : Nat) (x2 : Int32) (x3 : Int32) (x4 : Int32) (h : Hp) : Option (Int32 × Hp) :=
    bnd (X3_takeNumber x3 x4 h) (fun r2 => if 0 ≤ r2.1 then chk (inR x2 (lnX c1)) (some ((1 : Int32), (up r2.2 c1 x2.toNatClampNeg r2.1)))
    else some ((0 : Int32), r2.2))
-- X3_mayTell
def X3_mayTell (fu : Nat) (w1 : Nat) (c2 : Nat) (x3 : Int32) (x4 : Int32) (x5 : Int32) (h : Hp) : Option (Int32 × Hp) :=
    bnd (X3_takes fu w1 h) (fun r2 => if r2.1 = 0 then some ((1 : Int32), r2.2)
    else bnd (X3_tells c2 x3 x4 x5 r2.2) (fun r6 => if r6.1 = 0 then some ((0 : Int32), r6.2)
    else some ((1 : Int32), r6.2)))
-- X3_readPart
def X3_readPart (fu : Nat) (x1 : Int32) (h : Hp) : Option (Int32 × Hp) :=
    bnd (X1_addPart 23 x1 (0 : Int32) (10 : Int32) (-1 : Int32) h) (fun r2 => bnd (X3_mayTell fu 7 25 r2.1 (0 : Int32) (255 : Int32) r2.2) (fun r5 => if r5.1 = 0 then some ((0 : Int32), r5.2)
    else bnd (X3_mayTell fu 8 26 r2.1 (1 : Int32) (60 : Int32) r5.2) (fun r9 => if r9.1 = 0 then some ((0 : Int32), r9.2)
    else bnd (X3_mayTell fu 9 27 r2.1 (0 : Int32) (5 : Int32) r9.2) (fun r13 => if r13.1 = 0 then some ((0 : Int32), r13.2)
    else some ((1 : Int32), r13.2)))))
-- X3_readFace
def X3_readFace (fu : Nat) (h : Hp) : Option (Int32 × Hp) :=
    bnd (X3_takeNumber (0 : Int32) (5 : Int32) h) (fun r2 => if (X7_isFace r2.1) = 0 then some ((0 : Int32), r2.2)
    else bnd (X3_takes fu 7 r2.2) (fun r7 => if r7.1 = 0 then some ((0 : Int32), r7.2)
    else bnd (X3_tells 28 r2.1 (0 : Int32) (255 : Int32) r7.2) (fun r11 => if r11.1 = 0 then some ((0 : Int32), r11.2)
    else bnd (X3_mayTell fu 11 29 r2.1 (0 : Int32) (99 : Int32) r11.2) (fun r15 => if r15.1 = 0 then some ((0 : Int32), r15.2)
    else some ((1 : Int32), r15.2)))))
-- X3_readShow
def X3_readShow (h : Hp) : Option (Int32 × Hp) :=
    bnd (X3_takeNumber (0 : Int32) (5 : Int32) h) (fun r2 => if (X7_isRoom r2.1) = 0 then some ((0 : Int32), r2.2)
    else bnd (X3_tells 30 r2.1 (0 : Int32) (5 : Int32) r2.2) (fun r7 => if r7.1 = 0 then some ((0 : Int32), r7.2)
    else some ((1 : Int32), r7.2)))
-- X3_readPace
def X3_readPace (h : Hp) : Option (Int32 × Hp) :=
    bnd (X3_takeNumber (1 : Int32) (20 : Int32) h) (fun r2 => if 0 ≤ r2.1 then some ((1 : Int32), (up r2.2 23 13 r2.1))
    else some ((0 : Int32), r2.2))
-- X3_readItem
def X3_readItem_43 (fu : Nat) (h : Hp) : Option (Int32 × Hp) :=
    bnd (X3_takes fu 10 h) (fun r2 => if r2.1 = 0 then bnd (X3_takes fu 12 r2.2) (fun r6 => if r6.1 = 0 then bnd (X3_takes fu 13 r6.2) (fun r10 => if r10.1 = 0 then some ((0 : Int32), r10.2)
        else bnd (X3_readPace r10.2) (fun r14 => if r14.1 = 0 then some ((0 : Int32), r14.2)
        else some ((1 : Int32), r14.2)))
      else bnd (X3_readShow r6.2) (fun r18 => some (r18.1, r18.2)))
    else bnd (X3_readFace fu r2.2) (fun r21 => some (r21.1, r21.2)))
def X3_readItem_2 (fu : Nat) : Nat → Int32 → Hp → Option (Int32 × Hp)
  | 0, _, _ => none
  | n + 1, x1, h => if (6 : Int32) < x1 then X3_readItem_43 fu h
    else if (10 : Int32) ≤ (h 23 10) then X3_readItem_43 fu h
    else if x1 = (1 : Int32) then bnd (X3_takes fu 1 h) (fun r5 => if r5.1 = 0 then X3_readItem_2 fu n (x1 + (1 : Int32)) r5.2
      else bnd (X3_readPart fu x1 r5.2) (fun r9 => some (r9.1, r9.2)))
    else if x1 = (2 : Int32) then bnd (X3_takes fu 2 h) (fun r13 => if r13.1 = 0 then X3_readItem_2 fu n (x1 + (1 : Int32)) r13.2
      else bnd (X3_readPart fu x1 r13.2) (fun r17 => some (r17.1, r17.2)))
    else if x1 = (3 : Int32) then bnd (X3_takes fu 3 h) (fun r21 => if r21.1 = 0 then X3_readItem_2 fu n (x1 + (1 : Int32)) r21.2
      else bnd (X3_readPart fu x1 r21.2) (fun r25 => some (r25.1, r25.2)))
    else if x1 = (4 : Int32) then bnd (X3_takes fu 4 h) (fun r29 => if r29.1 = 0 then X3_readItem_2 fu n (x1 + (1 : Int32)) r29.2
      else bnd (X3_readPart fu x1 r29.2) (fun r33 => some (r33.1, r33.2)))
    else if x1 = (5 : Int32) then bnd (X3_takes fu 5 h) (fun r37 => if r37.1 = 0 then X3_readItem_2 fu n (x1 + (1 : Int32)) r37.2
      else bnd (X3_readPart fu x1 r37.2) (fun r41 => some (r41.1, r41.2)))
    else if x1 = (6 : Int32) then bnd (X3_takes fu 6 h) (fun r45 => if r45.1 = 0 then X3_readItem_2 fu n (x1 + (1 : Int32)) r45.2
      else bnd (X3_readPart fu x1 r45.2) (fun r49 => some (r49.1, r49.2)))
    else bnd (X3_takes fu 0 h) (fun r52 => if r52.1 = 0 then X3_readItem_2 fu n (x1 + (1 : Int32)) r52.2
    else bnd (X3_readPart fu x1 r52.2) (fun r56 => some (r56.1, r56.2)))
def X3_readItem (fu : Nat) (h : Hp) : Option (Int32 × Hp) :=
    X3_readItem_2 fu fu (0 : Int32) h
-- X3_read
def X3_read_11 (fu : Nat) : Nat → Int32 → Hp → Option (Int32 × Hp)
  | 0, _, _ => none
  | n + 1, x1, h => if (120 : Int32) ≤ x1 then chk (inR (h 42 6) 121) (some (((-1 : Int32) - (h 44 (h 42 6).toNatClampNeg)), h))
    else bnd (X3_readItem fu h) (fun r3 => if r3.1 = 0 then chk (inR (r3.2 42 6) 121) (some (((-1 : Int32) - (r3.2 44 (r3.2 42 6).toNatClampNeg)), r3.2))
    else chk (inR (r3.2 42 6) 121) (if (r3.2 43 (r3.2 42 6).toNatClampNeg) = 0 then some ((x1 + (1 : Int32)), r3.2)
    else chk (inR (r3.2 42 6) 121) (if (r3.2 43 (r3.2 42 6).toNatClampNeg) = (3 : Int32) then X3_read_11 fu n (x1 + (1 : Int32)) (up r3.2 42 6 ((r3.2 42 6) + (1 : Int32)))
    else chk (inR (r3.2 42 6) 121) (some (((-1 : Int32) - (r3.2 44 (r3.2 42 6).toNatClampNeg)), r3.2)))))
def X3_read (fu : Nat) (h : Hp) : Option (Int32 × Hp) :=
    bnd (X3_cut fu h) (fun h2 => X3_read_11 fu fu (0 : Int32) (up h2 42 6 (0 : Int32)))
-- X7_text
def X7_text (fu : Nat) (h : Hp) : Option (Int32 × Hp) :=
    bnd (X1_become 23 1 h) (fun h2 => bnd (X3_read fu h2) (fun r4 => if r4.1 < 0 then some (r4.1, (up r4.2 40 1 (0 : Int32)))
    else bnd (X1_become 1 23 r4.2) (fun h8 => some (r4.1, (up h8 40 1 (0 : Int32))))))
-- X7_isSpot
def X7_isSpot (x0 : Int32) : Int32 :=
    (X7_within x0 (0 : Int32) (9 : Int32))
def X7_isSpot_o (x0 : Int32) : Option Int32 :=
    some (X7_within x0 (0 : Int32) (9 : Int32))
theorem X7_isSpot_e (x0 : Int32) : X7_isSpot_o x0 = some (X7_isSpot x0) := by
  unfold X7_isSpot_o X7_isSpot
  repeat' split
  all_goals first | rfl
-- X7_hold
def X7_hold (x1 : Int32) (x2 : Int32) (h : Hp) : Option (Int32 × Hp) :=
    if (X7_isSpot x1) = 0 then bnd (X7_finding (-1000001 : Int32) h) (fun r4 => some (r4.1, r4.2))
    else if (X1_hasPart x2 h) = 0 then (if x2 = (-1 : Int32) then chk (inR x1 10) (some ((1 : Int32), (up h 11 x1.toNatClampNeg x2)))
      else bnd (X7_finding (-1000001 : Int32) h) (fun r10 => some (r10.1, r10.2)))
    else chk (inR x1 10) (some ((1 : Int32), (up h 11 x1.toNatClampNeg x2)))
-- X7_as
def X7_as (fu : Nat) (x1 : Int32) (x2 : Int32) (h : Hp) : Option (Int32 × Hp) :=
    if (X7_isSpot x1) = 0 then bnd (X7_finding (-1000001 : Int32) h) (fun r4 => some (r4.1, r4.2))
    else if (X7_isKind x2) = 0 then bnd (X7_finding (-1000001 : Int32) h) (fun r21 => some (r21.1, r21.2))
    else chk (inR x1 10) (if (X1_hasPart (h 11 x1.toNatClampNeg) h) = 0 then bnd (X7_finding (-1000006 : Int32) h) (fun r18 => some (r18.1, r18.2))
    else chk (inR (h 11 x1.toNatClampNeg) 10) (bnd (X2_isUnder fu (h 2 (h 11 x1.toNatClampNeg).toNatClampNeg) x2 h) (fun r11 => if r11 = 0 then bnd (X7_finding (-1000003 : Int32) h) (fun r15 => some (r15.1, r15.2))
    else some ((h 11 x1.toNatClampNeg), h))))
-- X4_begin
def X4_begin (fu : Nat) (c0 : Nat) (x1 : Int32) (x2 : Int32) (h : Hp) : Option (Hp) :=
    bnd (J7_fill_53178 fu (c0 + 1) (0 : Int32) h) (fun h2 => if x1 = 0 then some (up (up h2 c0 1 x1) c0 2 (0 : Int32))
    else some (up (up h2 c0 1 x1) c0 2 x2))
-- X7_sheet
def X7_sheet_36 (fu : Nat) (x1 : Int32) (x2 : Int32) (x3 : Int32) (h : Hp) : Option (Int32 × Hp) :=
    if 0 ≤ x3 then (if x3 ≤ (40 : Int32) then chk (inR x1 4) (bnd (X4_begin fu (shc x1) x2 x3 h) (fun h5 => some ((h5 (shc x1) 2), h5)))
      else bnd (X7_finding (-1000001 : Int32) h) (fun r7 => some (r7.1, r7.2)))
    else bnd (X7_finding (-1000007 : Int32) h) (fun r10 => some (r10.1, r10.2))
def X7_sheet (fu : Nat) (x1 : Int32) (x2 : Int32) (x3 : Int32) (h : Hp) : Option (Int32 × Hp) :=
    if (X7_isSheet x1) = 0 then bnd (X7_finding (-1000001 : Int32) h) (fun r4 => some (r4.1, r4.2))
    else if x2 = 0 then X7_sheet_36 fu x1 x2 x3 h
    else if x2 = (8 : Int32) then X7_sheet_36 fu x1 x2 x3 h
    else if x2 = (16 : Int32) then X7_sheet_36 fu x1 x2 x3 h
    else if x2 = (32 : Int32) then X7_sheet_36 fu x1 x2 x3 h
    else bnd (X7_finding (-1000001 : Int32) h) (fun r11 => some (r11.1, r11.2))
-- X4_put
def X4_put (c0 : Nat) (x1 : Int32) (x2 : Int32) (h : Hp) : Option (Hp) :=
    if (h c0 1) = (8 : Int32) then chk (inR x1 40) (some (up h (c0 + 1) x1.toNatClampNeg x2.toInt8.toInt32))
    else if (h c0 1) = (16 : Int32) then chk (inR x1 40) (some (up h (c0 + 1) x1.toNatClampNeg x2.toInt16.toInt32))
    else chk (inR x1 40) (some (up h (c0 + 1) x1.toNatClampNeg x2))
-- X7_write
def X7_write (x1 : Int32) (x2 : Int32) (x3 : Int32) (h : Hp) : Option (Int32 × Hp) :=
    if (X7_isSheet x1) = 0 then bnd (X7_finding (-1000001 : Int32) h) (fun r17 => some (r17.1, r17.2))
    else chk (inR x1 4) (if (X4_isMissing (shc x1) h) = 0 then (if (X7_within x2 (0 : Int32) ((h (shc x1) 2) - (1 : Int32))) = 0 then bnd (X7_finding (-1000001 : Int32) h) (fun r11 => some (r11.1, r11.2))
      else bnd (X4_put (shc x1) x2 x3 h) (fun h9 => some ((1 : Int32), h9)))
    else bnd (X7_finding (-1000006 : Int32) h) (fun r14 => some (r14.1, r14.2)))
-- X4_hasRun
def X4_hasRun (c0 : Nat) (x1 : Int32) (x2 : Int32) (h : Hp) : Int32 :=
    if x1 < 0 then (0 : Int32)
    else if x2 < 0 then (0 : Int32)
    else if ((h c0 2) - x1) < x2 then (0 : Int32)
    else (1 : Int32)
def X4_hasRun_o (c0 : Nat) (x1 : Int32) (x2 : Int32) (h : Hp) : Option Int32 :=
    if x1 < 0 then some (0 : Int32)
    else if x2 < 0 then some (0 : Int32)
    else if ((h c0 2) - x1) < x2 then some (0 : Int32)
    else some (1 : Int32)
theorem X4_hasRun_e (c0 : Nat) (x1 : Int32) (x2 : Int32) (h : Hp) : X4_hasRun_o c0 x1 x2 h = some (X4_hasRun c0 x1 x2 h) := by
  unfold X4_hasRun_o X4_hasRun
  repeat' split
  all_goals first | rfl
-- X7_copy
def X7_copy (x1 : Int32) (x2 : Int32) (x3 : Int32) (x4 : Int32) (x5 : Int32) (h : Hp) : Option (Int32 × Hp) :=
    if (X7_isSheet x1) = 0 then bnd (X7_finding (-1000001 : Int32) h) (fun r4 => some (r4.1, r4.2))
    else if (X7_isSheet x3) = 0 then bnd (X7_finding (-1000001 : Int32) h) (fun r35 => some (r35.1, r35.2))
    else chk (inR x1 4) (if (X4_isMissing (shc x1) h) = 0 then chk (inR x3 4) (if (X4_isMissing (shc x3) h) = 0 then (if (h (shc x1) 1) = (h (shc x3) 1) then (if (X4_hasRun (shc x1) x2 x5 h) = 0 then bnd (X7_finding (-1000001 : Int32) h) (fun r21 => some (r21.1, r21.2))
          else if (X4_hasRun (shc x3) x4 x5 h) = 0 then bnd (X7_finding (-1000001 : Int32) h) (fun r26 => some (r26.1, r26.2))
          else chk (cpOk x2 x4 x5 40 40) (some (x5, (upA h ((shc x3) + 1) (va_cpy (h ((shc x1) + 1)) (h ((shc x3) + 1)) x2.toNatClampNeg x4.toNatClampNeg x5.toNatClampNeg)))))
        else bnd (X7_finding (-1000003 : Int32) h) (fun r29 => some (r29.1, r29.2)))
      else bnd (X7_finding (-1000006 : Int32) h) (fun r32 => some (r32.1, r32.2)))
    else bnd (X7_finding (-1000006 : Int32) h) (fun r12 => some (r12.1, r12.2)))
-- X7_load
def X7_load_55 (fu : Nat) : Nat → Int32 → Int32 → Int32 → Hp → Option (Int32 × Hp)
  | 0, _, _, _, _ => none
  | n + 1, x1, x2, x3, h => if x3 ≤ x2 then some (x2, h)
    else chk (inR x1 4) (chk (inR x2 40) (if (X7_within (h ((shc x1) + 1) x2.toNatClampNeg) (1 : Int32) (60 : Int32)) = 0 then some (x2, h)
    else chk (inR x2 40) (chk (inR x2 10) (X7_load_55 fu n x1 (x2 + (1 : Int32)) x3 (up h 4 x2.toNatClampNeg (h ((shc x1) + 1) x2.toNatClampNeg))))))
def X7_load (fu : Nat) (x1 : Int32) (h : Hp) : Option (Int32 × Hp) :=
    if (X7_isSheet x1) = 0 then bnd (X7_finding (-1000001 : Int32) h) (fun r10 => some (r10.1, r10.2))
    else chk (inR x1 4) (if (X4_isMissing (shc x1) h) = 0 then X7_load_55 fu fu x1 (0 : Int32) (jmin (h (shc x1) 2) (h 1 10)) h
    else bnd (X7_finding (-1000006 : Int32) h) (fun r7 => some (r7.1, r7.2)))
-- X7_judge
def X7_judge_35 (fu : Nat) : Nat → Int32 → Int32 → Hp → Option (Int32 × Hp)
  | 0, _, _, _ => none
  | n + 1, x1, x2, h => chk (inR x1 4) (if (h (shc x1) 2) ≤ x2 then some ((0 : Int32), h)
    else if (X7_isRoom x2) = 0 then some (((1 : Int32) + x2), h)
    else chk (inR x2 40) (bnd (X1_likeness fu x2 h) (fun r6 => if (h ((shc x1) + 1) x2.toNatClampNeg) = r6 then X7_judge_35 fu n x1 (x2 + (1 : Int32)) h
    else some (((1 : Int32) + x2), h))))
def X7_judge (fu : Nat) (x1 : Int32) (h : Hp) : Option (Int32 × Hp) :=
    if (X7_isSheet x1) = 0 then bnd (X7_finding (-1000001 : Int32) h) (fun r10 => some (r10.1, r10.2))
    else chk (inR x1 4) (if (X4_isMissing (shc x1) h) = 0 then X7_judge_35 fu fu x1 (0 : Int32) h
    else bnd (X7_finding (-1000006 : Int32) h) (fun r7 => some (r7.1, r7.2)))
-- X7_image
def X7_image (h : Hp) : Option (Int32 × Hp) :=
    bnd (X1_become 12 1 h) (fun h2 => some ((1 : Int32), (up h2 0 9 (1 : Int32))))
-- X7_undo
def X7_undo (h : Hp) : Option (Int32 × Hp) :=
    if (h 0 9) = 0 then bnd (X7_finding (-1000004 : Int32) h) (fun r5 => some (r5.1, r5.2))
    else bnd (X1_become 1 12 h) (fun h3 => some ((h3 1 12), h3))
-- X7_tear
def X7_tear (h : Hp) : Option (Int32 × Hp) :=
    if (h 0 9) = 0 then some ((0 : Int32), (up h 0 9 (0 : Int32)))
    else some ((1 : Int32), (up h 0 9 (0 : Int32)))
-- X1_allWax
def X1_allWax_4 (fu : Nat) (h : Hp) : Nat → Int32 → Int32 → Option (Int32)
  | 0, _, _ => none
  | n + 1, x1, x2 => if (h 1 10) ≤ x2 then some x1
    else chk (inR x2 10) (X1_allWax_4 fu h n (x1 + (h 4 x2.toNatClampNeg)) (x2 + (1 : Int32)))
def X1_allWax (fu : Nat) (h : Hp) : Option (Int32) :=
    X1_allWax_4 fu h fu (0 : Int32) (0 : Int32)
-- X1_spotsHeld
def X1_spotsHeld_4 (fu : Nat) (h : Hp) : Nat → Int32 → Int32 → Option (Int32)
  | 0, _, _ => none
  | n + 1, x1, x2 => if (10 : Int32) ≤ x2 then some x1
    else chk (inR x2 10) (if (h 11 x2.toNatClampNeg) = (-1 : Int32) then X1_spotsHeld_4 fu h n x1 (x2 + (1 : Int32))
    else X1_spotsHeld_4 fu h n (x1 + (1 : Int32)) (x2 + (1 : Int32)))
def X1_spotsHeld (fu : Nat) (h : Hp) : Option (Int32) :=
    X1_spotsHeld_4 fu h fu (0 : Int32) (0 : Int32)
-- X7_count
def X7_count (fu : Nat) (x1 : Int32) (h : Hp) : Option (Int32 × Hp) :=
    if x1 = (0 : Int32) then some ((h 1 12), h)
    else if x1 = (1 : Int32) then some ((h 1 10), h)
    else if x1 = (2 : Int32) then some ((h 1 11), h)
    else if x1 = (3 : Int32) then bnd (X1_roomsShown fu h) (fun r6 => some ((J6_bitCount_0f7a4 r6), h))
    else if x1 = (4 : Int32) then bnd (X1_allWax fu h) (fun r10 => some (r10, h))
    else if x1 = (5 : Int32) then some ((h 40 1), h)
    else if x1 = (6 : Int32) then some ((h 1 14), h)
    else if x1 = (7 : Int32) then bnd (X1_spotsHeld fu h) (fun r16 => some (r16, h))
    else bnd (X7_finding (-1000001 : Int32) h) (fun r19 => some (r19.1, r19.2))
-- X7_status
def X7_status_32 (fu : Nat) : Nat → Int32 → Int32 → Hp → Option (Int32 × Hp)
  | 0, _, _, _ => none
  | n + 1, x2, x3, h => if (7 : Int32) ≤ x3 then some (x2, h)
    else chk (inR x3 7) (X7_status_32 fu n (x2 + (h 55 x3.toNatClampNeg)) (x3 + (1 : Int32)) h)
def X7_status (fu : Nat) (x1 : Int32) (h : Hp) : Option (Int32 × Hp) :=
    if (X7_within x1 (-1 : Int32) (6 : Int32)) = 0 then bnd (X7_finding (-1000001 : Int32) h) (fun r5 => some (r5.1, r5.2))
    else if x1 < 0 then X7_status_32 fu fu (0 : Int32) (0 : Int32) h
    else chk (inR x1 7) (some ((h 55 x1.toNatClampNeg), h))
-- X8_within
def X8_within (x0 : Int32) (x1 : Int32) (x2 : Int32) : Int32 :=
    if x0 < x1 then (0 : Int32)
    else if x2 < x0 then (0 : Int32)
    else (1 : Int32)
def X8_within_o (x0 : Int32) (x1 : Int32) (x2 : Int32) : Option Int32 :=
    if x0 < x1 then some (0 : Int32)
    else if x2 < x0 then some (0 : Int32)
    else some (1 : Int32)
theorem X8_within_e (x0 : Int32) (x1 : Int32) (x2 : Int32) : X8_within_o x0 x1 x2 = some (X8_within x0 x1 x2) := by
  unfold X8_within_o X8_within
  repeat' split
  all_goals first | rfl
-- X8_isKind
def X8_isKind (x0 : Int32) : Int32 :=
    (X8_within x0 (0 : Int32) (6 : Int32))
def X8_isKind_o (x0 : Int32) : Option Int32 :=
    some (X8_within x0 (0 : Int32) (6 : Int32))
theorem X8_isKind_e (x0 : Int32) : X8_isKind_o x0 = some (X8_isKind x0) := by
  unfold X8_isKind_o X8_isKind
  repeat' split
  all_goals first | rfl
-- X8_finding
def X8_finding (x1 : Int32) (h : Hp) : Option (Int32 × Hp) :=
    chk (inR (((-1000001 : Int32) - x1) + (1 : Int32)) 8) (chk (inR (((-1000001 : Int32) - x1) + (1 : Int32)) 8) (some (x1, (up (up h 4 (((-1000001 : Int32) - x1) + (1 : Int32)).toNatClampNeg ((h 4 (((-1000001 : Int32) - x1) + (1 : Int32)).toNatClampNeg) + (1 : Int32))) 4 0 (((up h 4 (((-1000001 : Int32) - x1) + (1 : Int32)).toNatClampNeg ((h 4 (((-1000001 : Int32) - x1) + (1 : Int32)).toNatClampNeg) + (1 : Int32))) 4 0) + (1 : Int32))))))
-- X8_at
def X8_at (x0 : Int32) (x1 : Int32) : Int32 :=
    (((33 : Int32) + ((4 : Int32) * x0)) + x1)
def X8_at_o (x0 : Int32) (x1 : Int32) : Option Int32 :=
    some (((33 : Int32) + ((4 : Int32) * x0)) + x1)
theorem X8_at_e (x0 : Int32) (x1 : Int32) : X8_at_o x0 x1 = some (X8_at x0 x1) := by
  unfold X8_at_o X8_at
  repeat' split
  all_goals first | rfl
-- X8_comes
def X8_comes_64 (x5 : Int32) (s1 : Int32) (s2 : Int32) (h : Hp) : Option (Int32 × Hp) :=
    chk (inR s1 117) (some (x5, (up h 1 s1.toNatClampNeg (s2 + (1 : Int32)))))
def X8_comes (x1 : Int32) (x2 : Int32) (x3 : Int32) (x4 : Int32) (h : Hp) : Option (Int32 × Hp) :=
    chk (inR (X8_at (h 1 2) (0 : Int32)) 117) (chk (inR (X8_at (h 1 2) (1 : Int32)) 117) (chk (inR (X8_at (h 1 2) (2 : Int32)) 117) (chk (inR (X8_at (h 1 2) (3 : Int32)) 117) (X8_comes_64 (h 1 2) (2 : Int32) ((up (up (up (up h 1 (X8_at (h 1 2) (0 : Int32)).toNatClampNeg x1) 1 (X8_at (h 1 2) (1 : Int32)).toNatClampNeg x2) 1 (X8_at (h 1 2) (2 : Int32)).toNatClampNeg x3) 1 (X8_at (h 1 2) (3 : Int32)).toNatClampNeg x4) 1 2) (up (up (up (up h 1 (X8_at (h 1 2) (0 : Int32)).toNatClampNeg x1) 1 (X8_at (h 1 2) (1 : Int32)).toNatClampNeg x2) 1 (X8_at (h 1 2) (2 : Int32)).toNatClampNeg x3) 1 (X8_at (h 1 2) (3 : Int32)).toNatClampNeg x4)))))
-- X8_part
def X8_part (x1 : Int32) (h : Hp) : Option (Int32 × Hp) :=
    if (X8_isKind x1) = 0 then bnd (X8_finding (-1000001 : Int32) h) (fun r11 => some (r11.1, r11.2))
    else if (h 1 2) = (10 : Int32) then bnd (X8_finding (-1000002 : Int32) h) (fun r8 => some (r8.1, r8.2))
    else bnd (X8_comes x1 (0 : Int32) (10 : Int32) (-1 : Int32) h) (fun r5 => some (r5.1, r5.2))
-- X8_isPart
def X8_isPart (x1 : Int32) (h : Hp) : Option (Int32) :=
    some (X8_within x1 (0 : Int32) ((h 1 2) - (1 : Int32)))
-- X8_partIs
def X8_partIs (x1 : Int32) (x2 : Int32) (h : Hp) : Option (Int32) :=
    chk (inR (X8_at x1 x2) 117) (some (h 1 (X8_at x1 x2).toNatClampNeg))
-- X8_of
def X8_of (x1 : Int32) (x2 : Int32) (h : Hp) : Option (Int32 × Hp) :=
    bnd (X8_isPart x1 h) (fun r2 => if r2 = 0 then bnd (X8_finding (-1000001 : Int32) h) (fun r6 => some (r6.1, r6.2))
    else if (X8_within x2 (0 : Int32) (3 : Int32)) = 0 then bnd (X8_finding (-1000001 : Int32) h) (fun r11 => some (r11.1, r11.2))
    else bnd (X8_partIs x1 x2 h) (fun r14 => some (r14, h)))
-- X8_isLooks
def X8_isLooks (x0 : Int32) : Int32 :=
    (X8_within x0 (0 : Int32) (255 : Int32))
def X8_isLooks_o (x0 : Int32) : Option Int32 :=
    some (X8_within x0 (0 : Int32) (255 : Int32))
theorem X8_isLooks_e (x0 : Int32) : X8_isLooks_o x0 = some (X8_isLooks x0) := by
  unfold X8_isLooks_o X8_isLooks
  repeat' split
  all_goals first | rfl
-- X8_isPlace
def X8_isPlace (x0 : Int32) : Int32 :=
    (X8_within x0 (-1 : Int32) (5 : Int32))
def X8_isPlace_o (x0 : Int32) : Option Int32 :=
    some (X8_within x0 (-1 : Int32) (5 : Int32))
theorem X8_isPlace_e (x0 : Int32) : X8_isPlace_o x0 = some (X8_isPlace x0) := by
  unfold X8_isPlace_o X8_isPlace
  repeat' split
  all_goals first | rfl
-- X8_become
def X8_become (x1 : Int32) (x2 : Int32) (h : Hp) : Option (Int32 × Hp) :=
    chk (inR x1 117) (chk (inR x1 117) (some ((h 1 x1.toNatClampNeg), (up h 1 x1.toNatClampNeg x2))))
-- X8_change
def X8_change_55 (x1 : Int32) (x2 : Int32) (x3 : Int32) (s0 : Int32) (h : Hp) : Option (Int32 × Hp) :=
    bnd (X8_isPart x1 h) (fun r2 => if r2 = 0 then bnd (X8_finding (-1000001 : Int32) h) (fun r6 => some (r6.1, r6.2))
    else if s0 = 0 then bnd (X8_finding (-1000001 : Int32) h) (fun r10 => some (r10.1, r10.2))
    else bnd (X8_become (X8_at x1 x2) x3 h) (fun r13 => some (r13.1, r13.2)))
def X8_change_38 (x1 : Int32) (x2 : Int32) (x3 : Int32) (h : Hp) : Option (Int32 × Hp) :=
    if x2 = (3 : Int32) then (if (X8_isPlace x3) = 0 then X8_change_55 x1 x2 x3 (0 : Int32) h
      else X8_change_55 x1 x2 x3 (1 : Int32) h)
    else X8_change_55 x1 x2 x3 (0 : Int32) h
def X8_change_23 (x1 : Int32) (x2 : Int32) (x3 : Int32) (h : Hp) : Option (Int32 × Hp) :=
    if x2 = (2 : Int32) then (if (X8_within x3 (1 : Int32) (60 : Int32)) = 0 then X8_change_38 x1 x2 x3 h
      else X8_change_55 x1 x2 x3 (1 : Int32) h)
    else X8_change_38 x1 x2 x3 h
def X8_change (x1 : Int32) (x2 : Int32) (x3 : Int32) (h : Hp) : Option (Int32 × Hp) :=
    if x2 = 0 then (if (X8_isKind x3) = 0 then (if x2 = (1 : Int32) then (if (X8_isLooks x3) = 0 then X8_change_23 x1 x2 x3 h
          else X8_change_55 x1 x2 x3 (1 : Int32) h)
        else X8_change_23 x1 x2 x3 h)
      else X8_change_55 x1 x2 x3 (1 : Int32) h)
    else if x2 = (1 : Int32) then (if (X8_isLooks x3) = 0 then X8_change_23 x1 x2 x3 h
      else X8_change_55 x1 x2 x3 (1 : Int32) h)
    else X8_change_23 x1 x2 x3 h
-- X8_isFace
def X8_isFace (x0 : Int32) : Int32 :=
    (X8_within x0 (0 : Int32) (5 : Int32))
def X8_isFace_o (x0 : Int32) : Option Int32 :=
    some (X8_within x0 (0 : Int32) (5 : Int32))
theorem X8_isFace_e (x0 : Int32) : X8_isFace_o x0 = some (X8_isFace x0) := by
  unfold X8_isFace_o X8_isFace
  repeat' split
  all_goals first | rfl
-- X8_face
def X8_face_31 (x1 : Int32) (x2 : Int32) (x3 : Int32) (s0 : Int32) (h : Hp) : Option (Int32 × Hp) :=
    if (X8_isFace x1) = 0 then bnd (X8_finding (-1000001 : Int32) h) (fun r4 => some (r4.1, r4.2))
    else if s0 = 0 then bnd (X8_finding (-1000001 : Int32) h) (fun r8 => some (r8.1, r8.2))
    else bnd (X8_become (((15 : Int32) + ((6 : Int32) * x2)) + x1) x3 h) (fun r11 => some (r11.1, r11.2))
def X8_face_11 (x1 : Int32) (x2 : Int32) (x3 : Int32) (h : Hp) : Option (Int32 × Hp) :=
    if x2 = (1 : Int32) then (if (X8_within x3 (0 : Int32) (99 : Int32)) = 0 then X8_face_31 x1 x2 x3 (0 : Int32) h
      else X8_face_31 x1 x2 x3 (1 : Int32) h)
    else X8_face_31 x1 x2 x3 (0 : Int32) h
def X8_face (x1 : Int32) (x2 : Int32) (x3 : Int32) (h : Hp) : Option (Int32 × Hp) :=
    if x2 = 0 then (if (X8_isLooks x3) = 0 then X8_face_11 x1 x2 x3 h
      else X8_face_31 x1 x2 x3 (1 : Int32) h)
    else X8_face_11 x1 x2 x3 h
-- X8_isRoom
def X8_isRoom (x0 : Int32) : Int32 :=
    (X8_within x0 (0 : Int32) (5 : Int32))
def X8_isRoom_o (x0 : Int32) : Option Int32 :=
    some (X8_within x0 (0 : Int32) (5 : Int32))
theorem X8_isRoom_e (x0 : Int32) : X8_isRoom_o x0 = some (X8_isRoom x0) := by
  unfold X8_isRoom_o X8_isRoom
  repeat' split
  all_goals first | rfl
-- X8_show
def X8_show (x1 : Int32) (x2 : Int32) (h : Hp) : Option (Int32 × Hp) :=
    if (X8_isRoom x1) = 0 then bnd (X8_finding (-1000001 : Int32) h) (fun r4 => some (r4.1, r4.2))
    else if (X8_within x2 (-1 : Int32) (5 : Int32)) = 0 then bnd (X8_finding (-1000001 : Int32) h) (fun r9 => some (r9.1, r9.2))
    else bnd (X8_become ((27 : Int32) + x1) x2 h) (fun r12 => some (r12.1, r12.2))
-- X8_pace
def X8_pace (x1 : Int32) (h : Hp) : Option (Int32 × Hp) :=
    if (X8_within x1 (1 : Int32) (20 : Int32)) = 0 then bnd (X8_finding (-1000001 : Int32) h) (fun r4 => some (r4.1, r4.2))
    else bnd (X8_become (1 : Int32) x1 h) (fun r7 => some (r7.1, r7.2))
-- X8_partsAt
def X8_partsAt_4 (fu : Nat) (h : Hp) : Nat → Int32 → Int32 → Int32 → Option (Int32)
  | 0, _, _, _ => none
  | n + 1, x1, x2, x3 => if (h 1 2) ≤ x3 then some x2
    else bnd (X8_partIs x3 (3 : Int32) h) (fun r3 => if r3 = x1 then X8_partsAt_4 fu h n x1 (x2 ||| ((1 : Int32) <<< (x3 &&& 31))) (x3 + (1 : Int32))
    else X8_partsAt_4 fu h n x1 (x2 ||| (0 : Int32)) (x3 + (1 : Int32)))
def X8_partsAt (fu : Nat) (x1 : Int32) (h : Hp) : Option (Int32) :=
    X8_partsAt_4 fu h fu x1 (0 : Int32) (0 : Int32)
-- X8_bits
def X8_bits_4 (fu : Nat) : Nat → Int32 → Int32 → Option (Int32)
  | 0, _, _ => none
  | n + 1, x1, x2 => if x2 = 0 then some x1
    else X8_bits_4 fu n (x1 + (1 : Int32)) (x2 &&& (x2 - (1 : Int32)))
def X8_bits (fu : Nat) (x0 : Int32) : Option (Int32) :=
    X8_bits_4 fu fu (0 : Int32) x0
-- X8_has
def X8_has (x0 : Int32) (x1 : Int32) : Int32 :=
    if ((x0 >>> (x1 &&& 31)) &&& (1 : Int32)) = (1 : Int32) then (1 : Int32)
    else (0 : Int32)
def X8_has_o (x0 : Int32) (x1 : Int32) : Option Int32 :=
    if ((x0 >>> (x1 &&& 31)) &&& (1 : Int32)) = (1 : Int32) then some (1 : Int32)
    else some (0 : Int32)
theorem X8_has_e (x0 : Int32) (x1 : Int32) : X8_has_o x0 x1 = some (X8_has x0 x1) := by
  unfold X8_has_o X8_has
  repeat' split
  all_goals first | rfl
-- X8_likeBy
def X8_likeBy (fu : Nat) (x0 : Int32) (x1 : Int32) (x2 : Int32) : Option (Int32) :=
    bnd (X8_bits fu (x1 ^^^ x2)) (fun r2 => if x0 = (1 : Int32) then some ((2 : Int32) * ((8 : Int32) - r2))
    else if x0 = (2 : Int32) then some (((2 : Int32) * ((8 : Int32) - r2)) + (2 : Int32))
    else if x0 = (3 : Int32) then (if (X8_has x2 (7 : Int32)) = 0 then some (jmax (0 : Int32) ((((2 : Int32) * ((8 : Int32) - r2)) + (2 : Int32)) + (-5 : Int32)))
      else some (jmax (0 : Int32) ((((2 : Int32) * ((8 : Int32) - r2)) + (2 : Int32)) + (5 : Int32))))
    else if x0 = (4 : Int32) then some (((8 : Int32) - r2) + (3 : Int32))
    else if x0 = (5 : Int32) then some (((8 : Int32) - r2) / (2 : Int32))
    else if x0 = (6 : Int32) then some (jmax (3 : Int32) (((8 : Int32) - r2) / (2 : Int32)))
    else some ((8 : Int32) - r2))
-- X8_likeTo
def X8_likeTo (fu : Nat) (x1 : Int32) (x2 : Int32) (h : Hp) : Option (Int32) :=
    bnd (X8_partIs x1 (0 : Int32) h) (fun r2 => bnd (X8_partIs x1 (1 : Int32) h) (fun r5 => chk (inR ((15 : Int32) + x2) 117) (bnd (X8_likeBy fu r2 r5 (h 1 ((15 : Int32) + x2).toNatClampNeg)) (fun r8 => some r8))))
-- X8_likeness
def X8_likeness_4 (fu : Nat) (h : Hp) : Nat → Int32 → Int32 → Int32 → Option (Int32)
  | 0, _, _, _ => none
  | n + 1, x1, x2, x3 => if (h 1 2) ≤ x3 then some x2
    else chk (inR ((27 : Int32) + x1) 117) (if (h 1 ((27 : Int32) + x1).toNatClampNeg) < 0 then X8_likeness_4 fu h n x1 (x2 + (0 : Int32)) (x3 + (1 : Int32))
    else bnd (X8_partIs x3 (3 : Int32) h) (fun r4 => if r4 = x1 then chk (inR ((27 : Int32) + x1) 117) (bnd (X8_likeTo fu x3 (h 1 ((27 : Int32) + x1).toNatClampNeg) h) (fun r8 => X8_likeness_4 fu h n x1 (x2 + r8) (x3 + (1 : Int32))))
    else X8_likeness_4 fu h n x1 (x2 + (0 : Int32)) (x3 + (1 : Int32))))
def X8_likeness (fu : Nat) (x1 : Int32) (h : Hp) : Option (Int32) :=
    X8_likeness_4 fu h fu x1 (0 : Int32) (0 : Int32)
-- X8_roomOf
def X8_roomOf (x1 : Int32) (h : Hp) : Option (Int32) :=
    chk (inR ((73 : Int32) + x1) 117) (chk (nz (h 1 1)) (if (6 : Int32) ≤ (((h 1 0) - (h 1 ((73 : Int32) + x1).toNatClampNeg)) / (h 1 1)) then some (-1 : Int32)
    else some (((h 1 0) - (h 1 ((73 : Int32) + x1).toNatClampNeg)) / (h 1 1))))
-- X8_visitorsIn
def X8_visitorsIn_4 (fu : Nat) (h : Hp) : Nat → Int32 → Int32 → Int32 → Option (Int32)
  | 0, _, _, _ => none
  | n + 1, x1, x2, x3 => if (h 1 3) ≤ x3 then some x2
    else bnd (X8_roomOf x3 h) (fun r3 => if r3 = x1 then X8_visitorsIn_4 fu h n x1 (x2 ||| ((1 : Int32) <<< (x3 &&& 31))) (x3 + (1 : Int32))
    else X8_visitorsIn_4 fu h n x1 (x2 ||| (0 : Int32)) (x3 + (1 : Int32)))
def X8_visitorsIn (fu : Nat) (x1 : Int32) (h : Hp) : Option (Int32) :=
    X8_visitorsIn_4 fu h fu x1 (0 : Int32) (0 : Int32)
-- X8_room
def X8_room (fu : Nat) (x1 : Int32) (x2 : Int32) (h : Hp) : Option (Int32 × Hp) :=
    if (X8_isRoom x1) = 0 then bnd (X8_finding (-1000001 : Int32) h) (fun r4 => some (r4.1, r4.2))
    else if (X8_within x2 (0 : Int32) (3 : Int32)) = 0 then bnd (X8_finding (-1000001 : Int32) h) (fun r21 => some (r21.1, r21.2))
    else if x2 = 0 then chk (inR ((27 : Int32) + x1) 117) (some ((h 1 ((27 : Int32) + x1).toNatClampNeg), h))
    else if x2 = (1 : Int32) then bnd (X8_partsAt fu x1 h) (fun r18 => some (r18, h))
    else if x2 = (2 : Int32) then bnd (X8_likeness fu x1 h) (fun r15 => some (r15, h))
    else bnd (X8_visitorsIn fu x1 h) (fun r12 => some (r12, h))
-- X8_like
def X8_like (fu : Nat) (x1 : Int32) (x2 : Int32) (h : Hp) : Option (Int32 × Hp) :=
    bnd (X8_isPart x1 h) (fun r2 => if r2 = 0 then bnd (X8_finding (-1000001 : Int32) h) (fun r6 => some (r6.1, r6.2))
    else if (X8_isFace x2) = 0 then bnd (X8_finding (-1000001 : Int32) h) (fun r11 => some (r11.1, r11.2))
    else bnd (X8_likeTo fu x1 x2 h) (fun r14 => some (r14, h)))
-- X8_carryOf
def X8_carryOf_26 (h : Hp) (x1 : Int32) (s0 : Int32) : Option (Int32) :=
    bnd (X8_partIs x1 (0 : Int32) h) (fun r2 => if r2 = (2 : Int32) then some (s0 + (3 : Int32))
    else if r2 = (3 : Int32) then some ((2 : Int32) * (s0 + (3 : Int32)))
    else if r2 = (4 : Int32) then bnd (X8_partIs x1 (2 : Int32) h) (fun r8 => some ((s0 + (1 : Int32)) + (r8 / (10 : Int32))))
    else if r2 = (5 : Int32) then some (1 : Int32)
    else if r2 = (6 : Int32) then some (1 : Int32)
    else some (s0 + (1 : Int32)))
def X8_carryOf (x1 : Int32) (x2 : Int32) (h : Hp) : Option (Int32) :=
    bnd (X8_partIs x1 (3 : Int32) h) (fun r2 => if r2 < 0 then X8_carryOf_26 h x1 (6 : Int32)
    else if 0 ≤ x2 then X8_carryOf_26 h x1 (jabs (r2 - x2))
    else X8_carryOf_26 h x1 (6 : Int32))
-- X8_carries
def X8_carries (x1 : Int32) (x2 : Int32) (h : Hp) : Option (Int32 × Hp) :=
    bnd (X8_isPart x1 h) (fun r2 => if r2 = 0 then bnd (X8_finding (-1000001 : Int32) h) (fun r6 => some (r6.1, r6.2))
    else if (X8_isPlace x2) = 0 then bnd (X8_finding (-1000001 : Int32) h) (fun r21 => some (r21.1, r21.2))
    else bnd (X8_partIs x1 (3 : Int32) h) (fun r11 => if r11 = x2 then bnd (X8_finding (-1000005 : Int32) h) (fun r18 => some (r18.1, r18.2))
    else bnd (X8_carryOf x1 x2 h) (fun r15 => some (r15, h))))
-- X8_comesIn
def X8_comesIn_24 (fu : Nat) : Nat → Int32 → Int32 → Hp → Option (Int32 × Hp)
  | 0, _, _, _ => none
  | n + 1, x1, x2, h => if (10 : Int32) ≤ x2 then some (x1, (up h 1 3 ((h 1 3) + (1 : Int32))))
    else chk (inR (((77 : Int32) + ((10 : Int32) * x1)) + x2) 117) (X8_comesIn_24 fu n x1 (x2 + (1 : Int32)) (up h 1 (((77 : Int32) + ((10 : Int32) * x1)) + x2).toNatClampNeg (0 : Int32)))
def X8_comesIn (fu : Nat) (h : Hp) : Option (Int32 × Hp) :=
    chk (inR ((73 : Int32) + (h 1 3)) 117) (X8_comesIn_24 fu fu (h 1 3) (0 : Int32) (up h 1 ((73 : Int32) + (h 1 3)).toNatClampNeg (h 1 0)))
-- X8_visitor
def X8_visitor (fu : Nat) (h : Hp) : Option (Int32 × Hp) :=
    if (h 1 3) = (4 : Int32) then bnd (X8_finding (-1000002 : Int32) h) (fun r6 => some (r6.1, r6.2))
    else bnd (X8_comesIn fu h) (fun r3 => some (r3.1, r3.2))
-- X8_seenIn
def X8_seenIn_5 (fu : Nat) (h : Hp) : Nat → Int32 → Int32 → Int32 → Int32 → Option (Int32)
  | 0, _, _, _, _ => none
  | n + 1, x1, x2, x3, x4 => if (10 : Int32) ≤ x4 then some x3
    else chk (inR (((77 : Int32) + ((10 : Int32) * x1)) + x4) 117) (bnd (X8_bits fu (h 1 (((77 : Int32) + ((10 : Int32) * x1)) + x4).toNatClampNeg)) (fun r3 => if r3 < x2 then X8_seenIn_5 fu h n x1 x2 (x3 ||| (0 : Int32)) (x4 + (1 : Int32))
    else X8_seenIn_5 fu h n x1 x2 (x3 ||| ((1 : Int32) <<< (x4 &&& 31))) (x4 + (1 : Int32))))
def X8_seenIn (fu : Nat) (x1 : Int32) (x2 : Int32) (h : Hp) : Option (Int32) :=
    X8_seenIn_5 fu h fu x1 x2 (0 : Int32) (0 : Int32)
-- X8_seen
def X8_seen (fu : Nat) (x1 : Int32) (x2 : Int32) (h : Hp) : Option (Int32 × Hp) :=
    if (X8_within x1 (0 : Int32) ((h 1 3) - (1 : Int32))) = 0 then bnd (X8_finding (-1000001 : Int32) h) (fun r4 => some (r4.1, r4.2))
    else if (X8_within x2 (0 : Int32) (2 : Int32)) = 0 then bnd (X8_finding (-1000001 : Int32) h) (fun r16 => some (r16.1, r16.2))
    else if x2 = 0 then bnd (X8_roomOf x1 h) (fun r13 => some (r13, h))
    else bnd (X8_seenIn fu x1 x2 h) (fun r10 => some (r10, h))
-- X8_minute
def X8_minute_20 (fu : Nat) (k2 : Int32 → Hp → Option (Hp)) : Nat → Int32 → Int32 → Int32 → Hp → Option (Hp)
  | 0, _, _, _, _ => none
  | n + 1, x1, x2, x3, h => if (h 1 2) ≤ x3 then k2 (x1 + (1 : Int32)) h
    else chk (inR (((77 : Int32) + ((10 : Int32) * x1)) + x3) 117) (if x2 < 0 then chk (inR (((77 : Int32) + ((10 : Int32) * x1)) + x3) 117) (X8_minute_20 fu k2 n x1 x2 (x3 + (1 : Int32)) (up h 1 (((77 : Int32) + ((10 : Int32) * x1)) + x3).toNatClampNeg ((h 1 (((77 : Int32) + ((10 : Int32) * x1)) + x3).toNatClampNeg) ||| (0 : Int32))))
    else bnd (X8_partIs x3 (3 : Int32) h) (fun r4 => if r4 = x2 then chk (inR (((77 : Int32) + ((10 : Int32) * x1)) + x3) 117) (X8_minute_20 fu k2 n x1 x2 (x3 + (1 : Int32)) (up h 1 (((77 : Int32) + ((10 : Int32) * x1)) + x3).toNatClampNeg ((h 1 (((77 : Int32) + ((10 : Int32) * x1)) + x3).toNatClampNeg) ||| ((1 : Int32) <<< (x2 &&& 31)))))
    else chk (inR (((77 : Int32) + ((10 : Int32) * x1)) + x3) 117) (X8_minute_20 fu k2 n x1 x2 (x3 + (1 : Int32)) (up h 1 (((77 : Int32) + ((10 : Int32) * x1)) + x3).toNatClampNeg ((h 1 (((77 : Int32) + ((10 : Int32) * x1)) + x3).toNatClampNeg) ||| (0 : Int32))))))
def X8_minute_2 (fu : Nat) : Nat → Int32 → Hp → Option (Hp)
  | 0, _, _ => none
  | n + 1, x1, h => if (h 1 3) ≤ x1 then some (up h 1 0 ((h 1 0) + (1 : Int32)))
    else bnd (X8_roomOf x1 h) (fun r3 => X8_minute_20 fu (X8_minute_2 fu n) fu x1 r3 (0 : Int32) h)
def X8_minute (fu : Nat) (h : Hp) : Option (Hp) :=
    X8_minute_2 fu fu (0 : Int32) h
-- X8_minutes
def X8_minutes_2 (fu : Nat) : Nat → Int32 → Int32 → Hp → Option (Hp)
  | 0, _, _, _ => none
  | n + 1, x1, x2, h => if x1 ≤ x2 then some h
    else bnd (X8_minute fu h) (fun h3 => X8_minutes_2 fu n x1 (x2 + (1 : Int32)) h3)
def X8_minutes (fu : Nat) (x1 : Int32) (h : Hp) : Option (Hp) :=
    X8_minutes_2 fu fu x1 (0 : Int32) h
-- X8_moves
def X8_moves (fu : Nat) (x1 : Int32) (x2 : Int32) (h : Hp) : Option (Hp) :=
    bnd (X8_carryOf x1 x2 h) (fun r2 => chk (inR (X8_at x1 (3 : Int32)) 117) (bnd (X8_minutes fu (jmax (1 : Int32) r2) (up h 1 (X8_at x1 (3 : Int32)).toNatClampNeg (-2 : Int32))) (fun h5 => chk (inR (X8_at x1 (3 : Int32)) 117) (some (up h5 1 (X8_at x1 (3 : Int32)).toNatClampNeg x2)))))
-- X8_move
def X8_move (fu : Nat) (x1 : Int32) (x2 : Int32) (h : Hp) : Option (Int32 × Hp) :=
    bnd (X8_isPart x1 h) (fun r2 => if r2 = 0 then bnd (X8_finding (-1000001 : Int32) h) (fun r6 => some (r6.1, r6.2))
    else if (X8_isPlace x2) = 0 then bnd (X8_finding (-1000001 : Int32) h) (fun r27 => some (r27.1, r27.2))
    else bnd (X8_partIs x1 (3 : Int32) h) (fun r11 => if r11 = x2 then bnd (X8_finding (-1000005 : Int32) h) (fun r15 => some (r15.1, r15.2))
    else bnd (X8_carryOf x1 x2 h) (fun r18 => if ((h 1 0) + r18) ≤ (9999 : Int32) then bnd (X8_moves fu x1 x2 h) (fun h22 => some ((h22 1 0), h22))
    else bnd (X8_finding (-1000005 : Int32) h) (fun r24 => some (r24.1, r24.2)))))
-- X8_seenTwice
def X8_seenTwice_4 (fu : Nat) (h : Hp) : Nat → Int32 → Int32 → Option (Int32)
  | 0, _, _ => none
  | n + 1, x1, x2 => if (h 1 3) ≤ x2 then some x1
    else bnd (X8_seenIn fu x2 (2 : Int32) h) (fun r3 => X8_seenTwice_4 fu h n (x1 ||| r3) (x2 + (1 : Int32)))
def X8_seenTwice (fu : Nat) (h : Hp) : Option (Int32) :=
    X8_seenTwice_4 fu h fu (0 : Int32) (0 : Int32)
-- X8_waits
def X8_waits (fu : Nat) (x1 : Int32) (h : Hp) : Option (Int32 × Hp) :=
    if (X8_within x1 (1 : Int32) (60 : Int32)) = 0 then bnd (X8_finding (-1000001 : Int32) h) (fun r16 => some (r16.1, r16.2))
    else if ((h 1 0) + x1) ≤ (9999 : Int32) then bnd (X8_minutes fu x1 h) (fun h5 => bnd (X8_seenTwice fu h5) (fun r7 => bnd (X8_bits fu r7) (fun r10 => some (r10, h5))))
    else bnd (X8_finding (-1000005 : Int32) h) (fun r13 => some (r13.1, r13.2))
-- X8_allThere
def X8_allThere_4 (fu : Nat) (h : Hp) : Nat → Int32 → Int32 → Option (Int32)
  | 0, _, _ => none
  | n + 1, x1, x2 => if (h 1 3) ≤ x2 then some x1
    else bnd (X8_roomOf x2 h) (fun r3 => if r3 < 0 then X8_allThere_4 fu h n (x1 ||| (0 : Int32)) (x2 + (1 : Int32))
    else X8_allThere_4 fu h n (x1 ||| ((1 : Int32) <<< (x2 &&& 31))) (x2 + (1 : Int32)))
def X8_allThere (fu : Nat) (h : Hp) : Option (Int32) :=
    X8_allThere_4 fu h fu (0 : Int32) (0 : Int32)
-- X8_now
def X8_now_56 (fu : Nat) : Nat → Int32 → Int32 → Hp → Option (Int32 × Hp)
  | 0, _, _, _ => none
  | n + 1, x2, x3, h => if (6 : Int32) ≤ x3 then some (x2, h)
    else bnd (X8_likeness fu x3 h) (fun r3 => X8_now_56 fu n (x2 + r3) (x3 + (1 : Int32)) h)
def X8_now (fu : Nat) (x1 : Int32) (h : Hp) : Option (Int32 × Hp) :=
    if x1 = (0 : Int32) then some ((h 1 0), h)
    else if x1 = (1 : Int32) then some ((h 1 1), h)
    else if x1 = (2 : Int32) then X8_now_56 fu fu (0 : Int32) (0 : Int32) h
    else if x1 = (3 : Int32) then bnd (X8_allThere fu h) (fun r6 => some (r6, h))
    else if x1 = (4 : Int32) then bnd (X8_partsAt fu (-1 : Int32) h) (fun r10 => some (r10, h))
    else if x1 = (5 : Int32) then bnd (X8_seenTwice fu h) (fun r14 => some (r14, h))
    else bnd (X8_finding (-1000001 : Int32) h) (fun r17 => some (r17.1, r17.2))
-- X8_above
def X8_above (x0 : Int32) : Int32 :=
    if x0 = 0 then (-1 : Int32)
    else if x0 = (2 : Int32) then (1 : Int32)
    else if x0 = (3 : Int32) then (2 : Int32)
    else if x0 = (6 : Int32) then (5 : Int32)
    else (0 : Int32)
def X8_above_o (x0 : Int32) : Option Int32 :=
    if x0 = 0 then some (-1 : Int32)
    else if x0 = (2 : Int32) then some (1 : Int32)
    else if x0 = (3 : Int32) then some (2 : Int32)
    else if x0 = (6 : Int32) then some (5 : Int32)
    else some (0 : Int32)
theorem X8_above_e (x0 : Int32) : X8_above_o x0 = some (X8_above x0) := by
  unfold X8_above_o X8_above
  repeat' split
  all_goals first | rfl
-- X8_isUnder
def X8_isUnder_2 (fu : Nat) : Nat → Int32 → Int32 → Option (Int32)
  | 0, _, _ => none
  | n + 1, x1, x2 => if x2 < 0 then (if x2 < 0 then some (0 : Int32)
      else some (1 : Int32))
    else if x2 = x1 then (if x2 < 0 then some (0 : Int32)
      else some (1 : Int32))
    else X8_isUnder_2 fu n x1 (X8_above x2)
def X8_isUnder (fu : Nat) (x0 : Int32) (x1 : Int32) : Option (Int32) :=
    X8_isUnder_2 fu fu x1 x0
-- X8_isHead
def X8_isHead (fu : Nat) (x1 : Int32) (h : Hp) : Option (Int32) :=
    bnd (X8_partIs x1 (0 : Int32) h) (fun r2 => bnd (X8_isUnder fu r2 (1 : Int32)) (fun r5 => some r5))
-- X8_noHeads
def X8_noHeads_4 (fu : Nat) (h : Hp) : Nat → Int32 → Int32 → Option (Int32)
  | 0, _, _ => none
  | n + 1, x1, x2 => if (10 : Int32) ≤ x2 then some x1
    else if (h 1 2) ≤ x2 then X8_noHeads_4 fu h n (x1 ||| ((1 : Int32) <<< (x2 &&& 31))) (x2 + (1 : Int32))
    else bnd (X8_isHead fu x2 h) (fun r4 => if r4 = 0 then X8_noHeads_4 fu h n (x1 ||| ((1 : Int32) <<< (x2 &&& 31))) (x2 + (1 : Int32))
    else X8_noHeads_4 fu h n (x1 ||| (0 : Int32)) (x2 + (1 : Int32)))
def X8_noHeads (fu : Nat) (h : Hp) : Option (Int32) :=
    X8_noHeads_4 fu h fu (0 : Int32) (0 : Int32)
-- X8_worthAt
def X8_worthAt (x1 : Int32) (x2 : Int32) (h : Hp) : Option (Int32) :=
    chk (inR ((x1 <<< ((10 : Int32) &&& 31)) + x2) 7168) (some (h 5 ((x1 <<< ((10 : Int32) &&& 31)) + x2).toNatClampNeg))
-- X8_findMost
def X8_findMost_69 (fu : Nat) (k47 : Int32 → Int32 → Int32 → Hp → Option (Int32 × Hp)) : Nat → Int32 → Int32 → Int32 → Int32 → Int32 → Hp → Option (Int32 × Hp)
  | 0, _, _, _, _, _, _ => none
  | n + 1, x2, x3, x4, x5, x6, h => if (h 1 2) ≤ x6 then chk (inR ((x3 <<< ((10 : Int32) &&& 31)) + x4) 7168) (k47 x2 x3 (x4 + (1 : Int32)) (up h 5 ((x3 <<< ((10 : Int32) &&& 31)) + x4).toNatClampNeg x5))
    else chk (inR ((27 : Int32) + x3) 117) (if (h 1 ((27 : Int32) + x3).toNatClampNeg) < 0 then chk (inR ((x3 <<< ((10 : Int32) &&& 31)) + x4) 7168) (k47 x2 x3 (x4 + (1 : Int32)) (up h 5 ((x3 <<< ((10 : Int32) &&& 31)) + x4).toNatClampNeg x5))
    else if (x4 &&& x2) = 0 then (if (X8_has (x4 ||| x2) x6) = 0 then chk (inR ((27 : Int32) + x3) 117) (bnd (X8_likeTo fu x6 (h 1 ((27 : Int32) + x3).toNatClampNeg) h) (fun r7 => bnd (X8_worthAt (x3 + (1 : Int32)) (x4 ||| ((1 : Int32) <<< (x6 &&& 31))) h) (fun r10 => X8_findMost_69 fu k47 n x2 x3 x4 (jmax x5 (r7 + r10)) (x6 + (1 : Int32)) h)))
      else X8_findMost_69 fu k47 n x2 x3 x4 x5 (x6 + (1 : Int32)) h)
    else chk (inR ((x3 <<< ((10 : Int32) &&& 31)) + x4) 7168) (k47 x2 x3 (x4 + (1 : Int32)) (up h 5 ((x3 <<< ((10 : Int32) &&& 31)) + x4).toNatClampNeg x5)))
def X8_findMost_47 (fu : Nat) (k40 : Int32 → Int32 → Hp → Option (Int32 × Hp)) : Nat → Int32 → Int32 → Int32 → Hp → Option (Int32 × Hp)
  | 0, _, _, _, _ => none
  | n + 1, x2, x3, x4, h => if (1024 : Int32) ≤ x4 then k40 x2 (x3 + (-1 : Int32)) h
    else bnd (X8_worthAt (x3 + (1 : Int32)) x4 h) (fun r3 => X8_findMost_69 fu (X8_findMost_47 fu k40 n) fu x2 x3 x4 r3 (0 : Int32) h)
def X8_findMost_40 (fu : Nat) : Nat → Int32 → Int32 → Hp → Option (Int32 × Hp)
  | 0, _, _, _ => none
  | n + 1, x2, x3, h => if x3 < 0 then bnd (X8_worthAt (0 : Int32) (0 : Int32) h) (fun r3 => some (r3, h))
    else X8_findMost_47 fu (X8_findMost_40 fu n) fu x2 x3 (0 : Int32) h
def X8_findMost_14 (fu : Nat) : Nat → Int32 → Int32 → Hp → Option (Int32 × Hp)
  | 0, _, _, _ => none
  | n + 1, x2, x3, h => if (1024 : Int32) ≤ x3 then X8_findMost_40 fu fu x2 (5 : Int32) h
    else chk (inR ((6144 : Int32) + x3) 7168) (X8_findMost_14 fu n x2 (x3 + (1 : Int32)) (up h 5 ((6144 : Int32) + x3).toNatClampNeg (0 : Int32)))
def X8_findMost (fu : Nat) (x1 : Int32) (h : Hp) : Option (Int32 × Hp) :=
    bnd (X8_noHeads fu (up h 0 6 x1)) (fun r2 => X8_findMost_14 fu fu (r2 ||| x1) (0 : Int32) (up h 0 6 x1))
-- X8_most
def X8_most (fu : Nat) (h : Hp) : Option (Int32 × Hp) :=
    bnd (X8_findMost fu (0 : Int32) h) (fun r2 => some (r2.1, r2.2))
-- X8_mayGive
def X8_mayGive (fu : Nat) (x1 : Int32) (x2 : Int32) (x3 : Int32) (h : Hp) : Option (Int32) :=
    chk (inR ((27 : Int32) + x1) 117) (if (h 1 ((27 : Int32) + x1).toNatClampNeg) < 0 then some (0 : Int32)
    else if (h 1 2) ≤ x3 then some (0 : Int32)
    else if (X8_has (x2 ||| (h 0 6)) x3) = 0 then bnd (X8_isHead fu x3 h) (fun r6 => if r6 = 0 then some (0 : Int32)
      else some (1 : Int32))
    else some (0 : Int32))
-- X8_given
def X8_given_104 (fu : Nat) (k47 : Int32 → Int32 → Int32 → Int32 → Int32 → Int32 → Hp → Option (Int32 × Hp)) (x1 : Int32) (x2 : Int32) (x3 : Int32) (x4 : Int32) (x5 : Int32) (x6 : Int32) (s0 : Int32) (h : Hp) : Option (Int32 × Hp) :=
    if s0 = 0 then k47 x1 x2 x3 x4 x5 (x6 + (-1 : Int32)) h
    else k47 x1 x2 x3 x6 x5 (x6 + (-1 : Int32)) h
def X8_given_152 (fu : Nat) (k28 : Int32 → Int32 → Int32 → Int32 → Int32 → Hp → Option (Int32 × Hp)) (x1 : Int32) (x3 : Int32) (x4 : Int32) (x5 : Int32) (s0 : Int32) (s1 : Int32) (h : Hp) : Option (Int32 × Hp) :=
    if 0 ≤ x4 then k28 x1 (s0 - s1) (x3 ||| ((1 : Int32) <<< (x4 &&& 31))) x4 (x5 + (1 : Int32)) h
    else k28 x1 (s0 - s1) (x3 ||| (0 : Int32)) x4 (x5 + (1 : Int32)) h
def X8_given_47 (fu : Nat) (k28 : Int32 → Int32 → Int32 → Int32 → Int32 → Hp → Option (Int32 × Hp)) : Nat → Int32 → Int32 → Int32 → Int32 → Int32 → Int32 → Hp → Option (Int32 × Hp)
  | 0, _, _, _, _, _, _, _ => none
  | n + 1, x1, x2, x3, x4, x5, x6, h => if x6 < 0 then (if 0 ≤ x4 then chk (inR ((27 : Int32) + x5) 117) (bnd (X8_likeTo fu x4 (h 1 ((27 : Int32) + x5).toNatClampNeg) h) (fun r4 => X8_given_152 fu k28 x1 x3 x4 x5 x2 r4 h))
      else X8_given_152 fu k28 x1 x3 x4 x5 x2 (0 : Int32) h)
    else bnd (X8_mayGive fu x5 x3 x6 h) (fun r7 => if r7 = 0 then X8_given_104 fu (X8_given_47 fu k28 n) x1 x2 x3 x4 x5 x6 (0 : Int32) h
    else chk (inR ((27 : Int32) + x5) 117) (bnd (X8_likeTo fu x6 (h 1 ((27 : Int32) + x5).toNatClampNeg) h) (fun r11 => bnd (X8_worthAt (x5 + (1 : Int32)) (x3 ||| ((1 : Int32) <<< (x6 &&& 31))) h) (fun r14 => if (r11 + r14) = x2 then X8_given_104 fu (X8_given_47 fu k28 n) x1 x2 x3 x4 x5 x6 (1 : Int32) h
    else X8_given_104 fu (X8_given_47 fu k28 n) x1 x2 x3 x4 x5 x6 (0 : Int32) h))))
def X8_given_28 (fu : Nat) : Nat → Int32 → Int32 → Int32 → Int32 → Int32 → Hp → Option (Int32 × Hp)
  | 0, _, _, _, _, _, _ => none
  | n + 1, x1, x2, x3, x4, x5, h => if x1 < x5 then some (x4, h)
    else X8_given_47 fu (X8_given_28 fu n) fu x1 x2 x3 (-1 : Int32) x5 ((h 1 2) - (1 : Int32)) h
def X8_given (fu : Nat) (x1 : Int32) (h : Hp) : Option (Int32 × Hp) :=
    if (X8_isRoom x1) = 0 then bnd (X8_finding (-1000001 : Int32) h) (fun r7 => some (r7.1, r7.2))
    else bnd (X8_findMost fu (0 : Int32) h) (fun r4 => X8_given_28 fu fu x1 r4.1 (0 : Int32) (-1 : Int32) (0 : Int32) r4.2)
-- X8_likest
def X8_likest_21 (fu : Nat) : Nat → Int32 → Int32 → Int32 → Int32 → Hp → Option (Int32 × Hp)
  | 0, _, _, _, _, _ => none
  | n + 1, x1, x2, x3, x4, h => if (h 1 2) ≤ x4 then (if 0 ≤ x2 then some (x2, h)
      else bnd (X8_finding (-1000004 : Int32) h) (fun r4 => some (r4.1, r4.2)))
    else bnd (X8_likeTo fu x4 x1 h) (fun r7 => if r7 ≤ x3 then bnd (X8_likeTo fu x4 x1 h) (fun r11 => X8_likest_21 fu n x1 x2 (jmax x3 r11) (x4 + (1 : Int32)) h)
    else bnd (X8_likeTo fu x4 x1 h) (fun r14 => X8_likest_21 fu n x1 x4 (jmax x3 r14) (x4 + (1 : Int32)) h))
def X8_likest (fu : Nat) (x1 : Int32) (h : Hp) : Option (Int32 × Hp) :=
    if (X8_isFace x1) = 0 then bnd (X8_finding (-1000001 : Int32) h) (fun r4 => some (r4.1, r4.2))
    else X8_likest_21 fu fu x1 (-1 : Int32) (-1 : Int32) (0 : Int32) h
-- X8_whom
def X8_whom_19 (fu : Nat) : Nat → Int32 → Int32 → Int32 → Hp → Option (Int32 × Hp)
  | 0, _, _, _, _ => none
  | n + 1, x1, x2, x3, h => if (6 : Int32) ≤ x3 then some (x2, h)
    else bnd (X8_likeTo fu x1 x3 h) (fun r3 => bnd (X8_likeTo fu x1 x2 h) (fun r6 => if r3 ≤ r6 then X8_whom_19 fu n x1 x2 (x3 + (1 : Int32)) h
    else X8_whom_19 fu n x1 x3 (x3 + (1 : Int32)) h))
def X8_whom (fu : Nat) (x1 : Int32) (h : Hp) : Option (Int32 × Hp) :=
    bnd (X8_isPart x1 h) (fun r2 => if r2 = 0 then bnd (X8_finding (-1000001 : Int32) h) (fun r6 => some (r6.1, r6.2))
    else X8_whom_19 fu fu x1 (0 : Int32) (1 : Int32) h)
-- X8_missed
def X8_missed (fu : Nat) (x1 : Int32) (h : Hp) : Option (Int32 × Hp) :=
    bnd (X8_isPart x1 h) (fun r2 => if r2 = 0 then bnd (X8_finding (-1000001 : Int32) h) (fun r12 => some (r12.1, r12.2))
    else bnd (X8_findMost fu (0 : Int32) h) (fun r6 => bnd (X8_findMost fu ((1 : Int32) <<< (x1 &&& 31)) r6.2) (fun r9 => some ((r6.1 - r9.1), r9.2))))
-- X8_bestWith
def X8_bestWith_16 (fu : Nat) : Nat → Int32 → Int32 → Int32 → Int32 → Int32 → Int32 → Hp → Option (Int32 × Hp)
  | 0, _, _, _, _, _, _, _ => none
  | n + 1, x1, x2, x3, x4, x5, x6, h => if x2 ≤ x6 then chk (inR x1 117) (some (x4, (up h 1 x1.toNatClampNeg x3)))
    else chk (inR x1 117) (bnd (X8_findMost fu (0 : Int32) (up h 1 x1.toNatClampNeg x6)) (fun r3 => if r3.1 ≤ x5 then X8_bestWith_16 fu n x1 x2 x3 x4 (jmax x5 r3.1) (x6 + (1 : Int32)) r3.2
    else X8_bestWith_16 fu n x1 x2 x3 x6 (jmax x5 r3.1) (x6 + (1 : Int32)) r3.2))
def X8_bestWith (fu : Nat) (x1 : Int32) (x2 : Int32) (h : Hp) : Option (Int32 × Hp) :=
    chk (inR x1 117) (X8_bestWith_16 fu fu x1 x2 (h 1 x1.toNatClampNeg) (0 : Int32) (-1 : Int32) (0 : Int32) h)
-- X8_recast
def X8_recast (fu : Nat) (x1 : Int32) (h : Hp) : Option (Int32 × Hp) :=
    bnd (X8_isPart x1 h) (fun r2 => if r2 = 0 then bnd (X8_finding (-1000001 : Int32) h) (fun r16 => some (r16.1, r16.2))
    else bnd (X8_isHead fu x1 h) (fun r6 => if r6 = 0 then bnd (X8_finding (-1000003 : Int32) h) (fun r10 => some (r10.1, r10.2))
    else bnd (X8_bestWith fu (X8_at x1 (1 : Int32)) (256 : Int32) h) (fun r13 => some (r13.1, r13.2))))
-- X8_kindFor
def X8_kindFor (fu : Nat) (x1 : Int32) (h : Hp) : Option (Int32 × Hp) :=
    bnd (X8_isPart x1 h) (fun r2 => if r2 = 0 then bnd (X8_finding (-1000001 : Int32) h) (fun r6 => some (r6.1, r6.2))
    else bnd (X8_bestWith fu (X8_at x1 (0 : Int32)) (7 : Int32) h) (fun r9 => some (r9.1, r9.2)))
-- X8_whoCount
def X8_whoCount_7 (fu : Nat) (h : Hp) : Nat → Int32 → Int32 → Int32 → Option (Int32)
  | 0, _, _, _ => none
  | n + 1, x1, x2, x3 => if (h 1 3) ≤ x3 then some x2
    else bnd (X8_seenIn fu x3 (2 : Int32) h) (fun r3 => if (X8_has r3 x1) = 0 then X8_whoCount_7 fu h n x1 (x2 &&& (-1 : Int32)) (x3 + (1 : Int32))
    else X8_whoCount_7 fu h n x1 (x2 &&& (((1 : Int32) <<< (x3 &&& 31)) ^^^ (-1 : Int32))) (x3 + (1 : Int32)))
def X8_whoCount (fu : Nat) (x1 : Int32) (h : Hp) : Option (Int32) :=
    bnd (X8_allThere fu h) (fun r2 => X8_whoCount_7 fu h fu x1 r2 (0 : Int32))
-- X8_copyRow
def X8_copyRow_2 (fu : Nat) (c0 : Nat) (c1 : Nat) : Nat → Int32 → Hp → Option (Hp)
  | 0, _, _ => none
  | n + 1, x2, h => if (117 : Int32) ≤ x2 then some h
    else chk (inR x2 117) (chk (inR x2 117) (X8_copyRow_2 fu c0 c1 n (x2 + (1 : Int32)) (up h c1 x2.toNatClampNeg (h c0 x2.toNatClampNeg))))
def X8_copyRow (fu : Nat) (c0 : Nat) (c1 : Nat) (h : Hp) : Option (Hp) :=
    X8_copyRow_2 fu c0 c1 fu (0 : Int32) h
-- X8_isUnseen
def X8_isUnseen_45 (fu : Nat) : Nat → Int32 → Int32 → Int32 → Int32 → Hp → Option (Int32 × Hp)
  | 0, _, _, _, _, _ => none
  | n + 1, x1, x4, x5, x6, h => if (h 1 3) ≤ x6 then bnd (X8_copyRow fu 3 1 h) (fun h3 => some (x5, h3))
    else if x5 = 0 then X8_isUnseen_45 fu n x1 x4 (0 : Int32) (x6 + (1 : Int32)) h
    else if (X8_has x4 x6) = 0 then X8_isUnseen_45 fu n x1 x4 (1 : Int32) (x6 + (1 : Int32)) h
    else bnd (X8_seenIn fu x6 (2 : Int32) h) (fun r8 => if (X8_has r8 x1) = 0 then X8_isUnseen_45 fu n x1 x4 (1 : Int32) (x6 + (1 : Int32)) h
    else X8_isUnseen_45 fu n x1 x4 (0 : Int32) (x6 + (1 : Int32)) h)
def X8_isUnseen_22 (fu : Nat) : Nat → Int32 → Int32 → Hp → Option (Int32 × Hp)
  | 0, _, _, _ => none
  | n + 1, x1, x4, h => bnd (X8_allThere fu h) (fun r2 => if (r2 &&& x4) = 0 then X8_isUnseen_45 fu fu x1 x4 (1 : Int32) (0 : Int32) h
    else bnd (X8_minute fu h) (fun h6 => X8_isUnseen_22 fu n x1 x4 h6))
def X8_isUnseen (fu : Nat) (x1 : Int32) (x2 : Int32) (x3 : Int32) (x4 : Int32) (h : Hp) : Option (Int32 × Hp) :=
    bnd (X8_copyRow fu 1 3 h) (fun h2 => bnd (X8_minutes fu x3 h2) (fun h4 => bnd (X8_moves fu x1 x2 h4) (fun h6 => X8_isUnseen_22 fu fu x1 x4 h6)))
-- X8_unseen
def X8_unseen_60 (fu : Nat) : Nat → Int32 → Int32 → Int32 → Int32 → Hp → Option (Int32 × Hp)
  | 0, _, _, _, _, _ => none
  | n + 1, x1, x2, x3, x4, h => if (60 : Int32) < x4 then (if x4 ≤ (60 : Int32) then some (x4, h)
      else bnd (X8_finding (-1000004 : Int32) h) (fun r4 => some (r4.1, r4.2)))
    else bnd (X8_isUnseen fu x1 x2 x4 x3 h) (fun r7 => if r7.1 = 0 then X8_unseen_60 fu n x1 x2 x3 (x4 + (1 : Int32)) r7.2
    else if x4 ≤ (60 : Int32) then some (x4, r7.2)
    else bnd (X8_finding (-1000004 : Int32) r7.2) (fun r12 => some (r12.1, r12.2)))
def X8_unseen (fu : Nat) (x1 : Int32) (x2 : Int32) (h : Hp) : Option (Int32 × Hp) :=
    bnd (X8_isPart x1 h) (fun r2 => if r2 = 0 then bnd (X8_finding (-1000001 : Int32) h) (fun r6 => some (r6.1, r6.2))
    else if (X8_isPlace x2) = 0 then bnd (X8_finding (-1000001 : Int32) h) (fun r25 => some (r25.1, r25.2))
    else bnd (X8_partIs x1 (3 : Int32) h) (fun r11 => if r11 = x2 then bnd (X8_finding (-1000005 : Int32) h) (fun r15 => some (r15.1, r15.2))
    else if (h 1 0) ≤ (9000 : Int32) then bnd (X8_whoCount fu x1 h) (fun r19 => X8_unseen_60 fu fu x1 x2 r19 (0 : Int32) h)
    else bnd (X8_finding (-1000005 : Int32) h) (fun r22 => some (r22.1, r22.2))))
-- X8_hidden
def X8_hidden_37 (fu : Nat) : Nat → Int32 → Int32 → Int32 → Hp → Option (Int32 × Hp)
  | 0, _, _, _, _ => none
  | n + 1, x1, x2, x3, h => if (h 1 2) ≤ x3 then some (x2, h)
    else bnd (X8_partIs x3 (3 : Int32) h) (fun r3 => if r3 = x1 then X8_hidden_37 fu n x1 (x2 ||| (0 : Int32)) (x3 + (1 : Int32)) h
    else bnd (X8_whoCount fu x3 h) (fun r7 => bnd (X8_isUnseen fu x3 x1 (0 : Int32) r7 h) (fun r10 => if r10.1 = 0 then X8_hidden_37 fu n x1 (x2 ||| (0 : Int32)) (x3 + (1 : Int32)) r10.2
    else X8_hidden_37 fu n x1 (x2 ||| ((1 : Int32) <<< (x3 &&& 31))) (x3 + (1 : Int32)) r10.2)))
def X8_hidden (fu : Nat) (x1 : Int32) (h : Hp) : Option (Int32 × Hp) :=
    if (X8_isPlace x1) = 0 then bnd (X8_finding (-1000001 : Int32) h) (fun r8 => some (r8.1, r8.2))
    else if (h 1 0) ≤ (9000 : Int32) then X8_hidden_37 fu fu x1 (0 : Int32) (0 : Int32) h
    else bnd (X8_finding (-1000005 : Int32) h) (fun r5 => some (r5.1, r5.2))
-- X8_empty
def X8_empty_4 (fu : Nat) (h : Hp) : Nat → Int32 → Int32 → Option (Int32)
  | 0, _, _ => none
  | n + 1, x1, x2 => if (h 1 3) ≤ x2 then some x1
    else chk (inR ((73 : Int32) + x2) 117) (X8_empty_4 fu h n (jmax x1 (((h 1 ((73 : Int32) + x2).toNatClampNeg) + ((6 : Int32) * (h 1 1))) - (h 1 0))) (x2 + (1 : Int32)))
def X8_empty (fu : Nat) (h : Hp) : Option (Int32) :=
    X8_empty_4 fu h fu (0 : Int32) (0 : Int32)
-- X8_chances
def X8_chances_4 (fu : Nat) (h : Hp) : Nat → Int32 → Int32 → Option (Int32)
  | 0, _, _ => none
  | n + 1, x1, x2 => if (6 : Int32) ≤ x2 then some x1
    else chk (inR ((21 : Int32) + x2) 117) (X8_chances_4 fu h n (x1 + (h 1 ((21 : Int32) + x2).toNatClampNeg)) (x2 + (1 : Int32)))
def X8_chances (fu : Nat) (h : Hp) : Option (Int32) :=
    X8_chances_4 fu h fu (0 : Int32) (0 : Int32)
-- X8_onTheWhole
def X8_onTheWhole_4 (fu : Nat) (h : Hp) : Nat → Int32 → Int32 → Int32 → Option (Int32)
  | 0, _, _, _ => none
  | n + 1, x1, x2, x3 => if (6 : Int32) ≤ x3 then some x2
    else chk (inR ((21 : Int32) + x3) 117) (chk (inR ((15 : Int32) + x3) 117) (bnd (X8_likeBy fu (1 : Int32) x1 (h 1 ((15 : Int32) + x3).toNatClampNeg)) (fun r3 => X8_onTheWhole_4 fu h n x1 (x2 + ((h 1 ((21 : Int32) + x3).toNatClampNeg) * r3)) (x3 + (1 : Int32)))))
def X8_onTheWhole (fu : Nat) (x1 : Int32) (h : Hp) : Option (Int32) :=
    X8_onTheWhole_4 fu h fu x1 (0 : Int32) (0 : Int32)
-- X8_common
def X8_common_4 (fu : Nat) : Nat → Int32 → Int32 → Option (Int32)
  | 0, _, _ => none
  | n + 1, x2, x3 => if x3 = 0 then some x2
    else chk (nz x3) (X8_common_4 fu n x3 (x2 - x2 / x3 * x3))
def X8_common (fu : Nat) (x0 : Int32) (x1 : Int32) : Option (Int32) :=
    X8_common_4 fu fu x0 x1
-- X8_worth
def X8_worth (fu : Nat) (x1 : Int32) (x2 : Int32) (h : Hp) : Option (Int32 × Hp) :=
    if (X8_isLooks x1) = 0 then bnd (X8_finding (-1000001 : Int32) h) (fun r4 => some (r4.1, r4.2))
    else if (X8_within x2 (0 : Int32) (1 : Int32)) = 0 then bnd (X8_finding (-1000001 : Int32) h) (fun r23 => some (r23.1, r23.2))
    else bnd (X8_chances fu h) (fun r9 => if r9 = 0 then bnd (X8_finding (-1000004 : Int32) h) (fun r20 => some (r20.1, r20.2))
    else bnd (X8_onTheWhole fu x1 h) (fun r13 => bnd (X8_common fu r13 r9) (fun r16 => if x2 = 0 then chk (nz r16) (some ((r13 / r16), h))
    else chk (nz r16) (some ((r9 / r16), h)))))
-- X8_next
def X8_next_18 (fu : Nat) : Nat → Int32 → Int32 → Hp → Option (Int32 × Hp)
  | 0, _, _, _ => none
  | n + 1, x1, x2, h => if (256 : Int32) ≤ x2 then some (x1, h)
    else bnd (X8_onTheWhole fu x2 h) (fun r3 => bnd (X8_onTheWhole fu x1 h) (fun r6 => if r3 ≤ r6 then X8_next_18 fu n x1 (x2 + (1 : Int32)) h
    else X8_next_18 fu n x2 (x2 + (1 : Int32)) h))
def X8_next (fu : Nat) (h : Hp) : Option (Int32 × Hp) :=
    bnd (X8_chances fu h) (fun r2 => if r2 = 0 then bnd (X8_finding (-1000004 : Int32) h) (fun r6 => some (r6.1, r6.2))
    else X8_next_18 fu fu (0 : Int32) (1 : Int32) h)
-- X8_cutOf
def X8_cutOf (fu : Nat) (x1 : Int32) (x2 : Int32) (h : Hp) : Option (Int32) :=
    bnd (X8_partIs x1 (1 : Int32) h) (fun r2 => chk (inR ((15 : Int32) + x2) 117) (bnd (X8_bits fu (r2 ^^^ (h 1 ((15 : Int32) + x2).toNatClampNeg))) (fun r5 => bnd (X8_partIs x1 (2 : Int32) h) (fun r8 => some (r5 * r8)))))
-- X8_mouldOf
def X8_mouldOf_35 (fu : Nat) : Nat → Int32 → Int32 → Int32 → Int32 → Hp → Option (Int32 × Hp)
  | 0, _, _, _, _, _ => none
  | n + 1, x1, x2, x3, x4, h => if (h 1 2) ≤ x4 then (if x2 = 0 then some (x3, h)
      else bnd (X8_cutOf fu x3 x1 h) (fun r4 => some (r4, h)))
    else bnd (X8_cutOf fu x4 x1 h) (fun r7 => bnd (X8_cutOf fu x3 x1 h) (fun r10 => if r10 ≤ r7 then X8_mouldOf_35 fu n x1 x2 x3 (x4 + (1 : Int32)) h
    else X8_mouldOf_35 fu n x1 x2 x4 (x4 + (1 : Int32)) h))
def X8_mouldOf (fu : Nat) (x1 : Int32) (x2 : Int32) (h : Hp) : Option (Int32 × Hp) :=
    if (X8_isFace x1) = 0 then bnd (X8_finding (-1000001 : Int32) h) (fun r8 => some (r8.1, r8.2))
    else if (h 1 2) = 0 then bnd (X8_finding (-1000004 : Int32) h) (fun r5 => some (r5.1, r5.2))
    else X8_mouldOf_35 fu fu x1 x2 (0 : Int32) (1 : Int32) h
-- X8_mould
def X8_mould (fu : Nat) (x1 : Int32) (h : Hp) : Option (Int32 × Hp) :=
    bnd (X8_mouldOf fu x1 (0 : Int32) h) (fun r2 => some (r2.1, r2.2))
-- X8_cuts
def X8_cuts (fu : Nat) (x1 : Int32) (h : Hp) : Option (Int32 × Hp) :=
    bnd (X8_mouldOf fu x1 (1 : Int32) h) (fun r2 => some (r2.1, r2.2))
-- X8_isSheet
def X8_isSheet (x0 : Int32) : Int32 :=
    (X8_within x0 (0 : Int32) (3 : Int32))
def X8_isSheet_o (x0 : Int32) : Option Int32 :=
    some (X8_within x0 (0 : Int32) (3 : Int32))
theorem X8_isSheet_e (x0 : Int32) : X8_isSheet_o x0 = some (X8_isSheet x0) := by
  unfold X8_isSheet_o X8_isSheet
  repeat' split
  all_goals first | rfl
-- X8_waysFrom
def X8_waysFrom_13 (fu : Nat) (self : Int32 → Int32 → Int32 → Int32 → Hp → Option (Int32 × Hp)) : Nat → Int32 → Int32 → Int32 → Int32 → Int32 → Int32 → Hp → Option (Int32 × Hp)
  | 0, _, _, _, _, _, _, _ => none
  | n + 1, x1, x2, x3, x4, x5, x6, h => if (h 1 2) ≤ x6 then some (x5, h)
    else if (X8_has x4 x6) = 0 then bnd (X8_isHead fu x6 h) (fun r5 => if r5 = 0 then X8_waysFrom_13 fu self n x1 x2 x3 x4 x5 (x6 + (1 : Int32)) h
      else bnd (X8_likeTo fu x6 x2 h) (fun r9 => chk (inR (((40 : Int32) * x1) + x2) 160) (if r9 = (h 11 (((40 : Int32) * x1) + x2).toNatClampNeg) then bnd (self x1 (x2 + (1 : Int32)) x3 (x4 ||| ((1 : Int32) <<< (x6 &&& 31))) h) (fun r13 => if x2 = (r13.2 0 7) then (if r13.1 ≤ 0 then X8_waysFrom_13 fu self n x1 x2 x3 x4 (x5 + r13.1) (x6 + (1 : Int32)) (up r13.2 0 8 ((r13.2 0 8) ||| (0 : Int32)))
          else X8_waysFrom_13 fu self n x1 x2 x3 x4 (x5 + r13.1) (x6 + (1 : Int32)) (up r13.2 0 8 ((r13.2 0 8) ||| ((1 : Int32) <<< (x6 &&& 31)))))
        else X8_waysFrom_13 fu self n x1 x2 x3 x4 (x5 + r13.1) (x6 + (1 : Int32)) (up r13.2 0 8 ((r13.2 0 8) ||| (0 : Int32))))
      else X8_waysFrom_13 fu self n x1 x2 x3 x4 x5 (x6 + (1 : Int32)) h)))
    else X8_waysFrom_13 fu self n x1 x2 x3 x4 x5 (x6 + (1 : Int32)) h
def X8_waysFrom (fu : Nat) : Nat → Int32 → Int32 → Int32 → Int32 → Hp → Option (Int32 × Hp)
  | 0, _, _, _, _, _ => none
  | dd + 1, x1, x2, x3, x4, h => (fun self => if x2 = x3 then some ((1 : Int32), h)
    else X8_waysFrom_13 fu self fu x1 x2 x3 x4 (0 : Int32) (0 : Int32) h) (X8_waysFrom fu dd)
-- X8_waysOf
def X8_waysOf (fu : Nat) (x1 : Int32) (x2 : Int32) (h : Hp) : Option (Int32 × Hp) :=
    chk (inR x1 4) (bnd (X8_waysFrom fu 8 x1 (0 : Int32) (jmin (6 : Int32) ((up (up h 0 7 x2) 0 8 (0 : Int32)) 10 x1.toNatClampNeg)) (0 : Int32) (up (up h 0 7 x2) 0 8 (0 : Int32))) (fun r2 => some (r2.1, r2.2)))
-- X8_fits
def X8_fits (fu : Nat) (x1 : Int32) (h : Hp) : Option (Int32 × Hp) :=
    if (X8_isSheet x1) = 0 then bnd (X8_finding (-1000001 : Int32) h) (fun r11 => some (r11.1, r11.2))
    else chk (inR x1 4) (if (h 9 x1.toNatClampNeg) = 0 then bnd (X8_finding (-1000006 : Int32) h) (fun r8 => some (r8.1, r8.2))
    else bnd (X8_waysOf fu x1 (-1 : Int32) h) (fun r5 => some (r5.1, r5.2)))
-- X8_maybe
def X8_maybe (fu : Nat) (x1 : Int32) (x2 : Int32) (h : Hp) : Option (Int32 × Hp) :=
    if (X8_isSheet x1) = 0 then bnd (X8_finding (-1000001 : Int32) h) (fun r17 => some (r17.1, r17.2))
    else chk (inR x1 4) (if (h 9 x1.toNatClampNeg) = 0 then bnd (X8_finding (-1000006 : Int32) h) (fun r14 => some (r14.1, r14.2))
    else chk (inR x1 4) (if (X8_within x2 (0 : Int32) ((jmin (6 : Int32) (h 10 x1.toNatClampNeg)) - (1 : Int32))) = 0 then bnd (X8_finding (-1000001 : Int32) h) (fun r11 => some (r11.1, r11.2))
    else bnd (X8_waysOf fu x1 x2 h) (fun r7 => if r7.1 = 0 then some ((0 : Int32), r7.2)
    else some ((r7.2 0 8), r7.2))))
-- X8_headsLike
def X8_headsLike_5 (fu : Nat) (h : Hp) : Nat → Int32 → Int32 → Int32 → Int32 → Option (Int32)
  | 0, _, _, _, _ => none
  | n + 1, x1, x2, x3, x4 => if (h 1 2) ≤ x4 then some x3
    else bnd (X8_isHead fu x4 h) (fun r3 => if r3 = 0 then X8_headsLike_5 fu h n x1 x2 (x3 ||| (0 : Int32)) (x4 + (1 : Int32))
    else bnd (X8_likeTo fu x4 x1 h) (fun r7 => if r7 < x2 then X8_headsLike_5 fu h n x1 x2 (x3 ||| (0 : Int32)) (x4 + (1 : Int32))
    else X8_headsLike_5 fu h n x1 x2 (x3 ||| ((1 : Int32) <<< (x4 &&& 31))) (x4 + (1 : Int32))))
def X8_headsLike (fu : Nat) (x1 : Int32) (x2 : Int32) (h : Hp) : Option (Int32) :=
    X8_headsLike_5 fu h fu x1 x2 (0 : Int32) (0 : Int32)
-- X8_stand
def X8_stand_40 (fu : Nat) : Nat → Int32 → Int32 → Int32 → Int32 → Hp → Option (Int32 × Hp)
  | 0, _, _, _, _, _ => none
  | n + 1, x1, x2, x3, x4, h => if (6 : Int32) ≤ x4 then some (x3, h)
    else bnd (X8_headsLike fu x4 x2 h) (fun r3 => if (r3 &&& (x1 ^^^ (-1 : Int32))) = 0 then X8_stand_40 fu n x1 x2 (x3 ||| (0 : Int32)) (x4 + (1 : Int32)) h
    else X8_stand_40 fu n x1 x2 (x3 ||| ((1 : Int32) <<< (x4 &&& 31))) (x4 + (1 : Int32)) h)
def X8_stand (fu : Nat) (x1 : Int32) (x2 : Int32) (h : Hp) : Option (Int32 × Hp) :=
    if (X8_within x1 (0 : Int32) (((1 : Int32) <<< ((h 1 2) &&& 31)) - (1 : Int32))) = 0 then bnd (X8_finding (-1000001 : Int32) h) (fun r4 => some (r4.1, r4.2))
    else if (X8_within x2 (0 : Int32) (99 : Int32)) = 0 then bnd (X8_finding (-1000001 : Int32) h) (fun r9 => some (r9.1, r9.2))
    else X8_stand_40 fu fu x1 x2 (0 : Int32) (0 : Int32) h
-- X8_fire
def X8_fire (fu : Nat) (x1 : Int32) (x2 : Int32) (h : Hp) : Option (Int32 × Hp) :=
    if (X8_isFace x1) = 0 then bnd (X8_finding (-1000001 : Int32) h) (fun r4 => some (r4.1, r4.2))
    else if (X8_within x2 (0 : Int32) (99 : Int32)) = 0 then bnd (X8_finding (-1000001 : Int32) h) (fun r9 => some (r9.1, r9.2))
    else bnd (X8_headsLike fu x1 x2 h) (fun r12 => some (r12, h))
-- X8_drawn
def X8_drawn (x1 : Int32) (h : Hp) : Option (Int32 × Hp) :=
    chk (nz x1) (some (((((up h 1 4 (((h 1 4) * (1103515245 : Int32)) + (12345 : Int32))) 1 4).toUInt32 >>> ((8 : Int32).toUInt32 &&& Int32.toUInt32 31)).toInt32 - (((up h 1 4 (((h 1 4) * (1103515245 : Int32)) + (12345 : Int32))) 1 4).toUInt32 >>> ((8 : Int32).toUInt32 &&& Int32.toUInt32 31)).toInt32 / x1 * x1), (up h 1 4 (((h 1 4) * (1103515245 : Int32)) + (12345 : Int32)))))
-- X8_papers
def X8_papers_19 (fu : Nat) : Nat → Int32 → Int32 → Hp → Option (Int32 × Hp)
  | 0, _, _, _ => none
  | n + 1, x1, x2, h => if x1 ≤ x2 then bnd (X8_findMost fu (0 : Int32) h) (fun r3 => some (r3.1, r3.2))
    else bnd (X8_drawn (6 : Int32) h) (fun r6 => bnd (X8_drawn (6 : Int32) r6.2) (fun r9 => chk (inR ((27 : Int32) + r6.1) 117) (X8_papers_19 fu n x1 (x2 + (1 : Int32)) (up r9.2 1 ((27 : Int32) + r6.1).toNatClampNeg r9.1))))
def X8_papers (fu : Nat) (x1 : Int32) (h : Hp) : Option (Int32 × Hp) :=
    if (X8_within x1 (1 : Int32) (12 : Int32)) = 0 then bnd (X8_finding (-1000001 : Int32) h) (fun r4 => some (r4.1, r4.2))
    else X8_papers_19 fu fu x1 (0 : Int32) h
-- X8_seed
def X8_seed (x1 : Int32) (h : Hp) : Option (Int32 × Hp) :=
    bnd (X8_become (4 : Int32) x1 h) (fun r2 => some (r2.1, r2.2))
-- X8_feed
def X8_feed_38 (fu : Nat) : Nat → Int32 → Int32 → Hp → Option (Int32 × Hp)
  | 0, _, _, _ => none
  | n + 1, x1, x3, h => if x3 < 0 then some ((h 0 10), h)
    else chk (inR (h 0 10) 120) (X8_feed_38 fu n x1 (x3 + (-1 : Int32)) (up (up h 6 (h 0 10).toNatClampNeg ((x1 >>> (((8 : Int32) * x3) &&& 31)) &&& (255 : Int32))) 0 10 (((up h 6 (h 0 10).toNatClampNeg ((x1 >>> (((8 : Int32) * x3) &&& 31)) &&& (255 : Int32))) 0 10) + (1 : Int32))))
def X8_feed (fu : Nat) (x1 : Int32) (x2 : Int32) (h : Hp) : Option (Int32 × Hp) :=
    if (X8_within x2 (1 : Int32) (4 : Int32)) = 0 then bnd (X8_finding (-1000001 : Int32) h) (fun r8 => some (r8.1, r8.2))
    else if ((h 0 10) + x2) ≤ (120 : Int32) then X8_feed_38 fu fu x1 (x2 - (1 : Int32)) h
    else bnd (X8_finding (-1000002 : Int32) h) (fun r5 => some (r5.1, r5.2))
-- X8_wipe
def X8_wipe (h : Hp) : Option (Int32 × Hp) :=
    some ((h 0 10), (up h 0 10 (0 : Int32)))
-- X8_byteAt
def X8_byteAt (x1 : Int32) (h : Hp) : Option (Int32) :=
    if (h 0 10) ≤ x1 then some (-1 : Int32)
    else chk (inR x1 120) (some (h 6 x1.toNatClampNeg))
-- X8_next0
def X8_next0_84 (fu : Nat) : Nat → Hp → Option (Hp)
  | 0, _ => none
  | n + 1, h => bnd (X8_byteAt (h 0 12) h) (fun r2 => if (X8_within r2 (97 : Int32) (122 : Int32)) = 0 then some h
    else X8_next0_84 fu n (up h 0 12 ((h 0 12) + (1 : Int32))))
def X8_next0_131 (fu : Nat) : Nat → Hp → Option (Hp)
  | 0, _ => none
  | n + 1, h => bnd (X8_byteAt (h 0 12) h) (fun r2 => if (X8_within r2 (48 : Int32) (57 : Int32)) = 0 then some h
    else bnd (X8_byteAt (h 0 12) h) (fun r7 => X8_next0_131 fu n (up (up h 0 14 (jmin (1000 : Int32) ((((10 : Int32) * (h 0 14)) + r7) - (48 : Int32)))) 0 12 (((up h 0 14 (jmin (1000 : Int32) ((((10 : Int32) * (h 0 14)) + r7) - (48 : Int32)))) 0 12) + (1 : Int32)))))
def X8_next0_8 (fu : Nat) : Nat → Hp → Option (Hp)
  | 0, _ => none
  | n + 1, h => bnd (X8_byteAt (h 0 11) h) (fun r2 => if r2 = (32 : Int32) then X8_next0_8 fu n (up h 0 11 ((h 0 11) + (1 : Int32)))
    else bnd (X8_byteAt (h 0 11) h) (fun r6 => if 0 ≤ r6 then (if (X8_within r6 (97 : Int32) (122 : Int32)) = 0 then (if (X8_within r6 (48 : Int32) (57 : Int32)) = 0 then some (up (up (up (up h 0 12 (h 0 11)) 0 14 (0 : Int32)) 0 13 (3 : Int32)) 0 12 (((up (up (up h 0 12 (h 0 11)) 0 14 (0 : Int32)) 0 13 (3 : Int32)) 0 12) + (1 : Int32)))
        else X8_next0_131 fu fu (up (up (up h 0 12 (h 0 11)) 0 14 (0 : Int32)) 0 13 (2 : Int32)))
      else X8_next0_84 fu fu (up (up (up h 0 12 (h 0 11)) 0 14 (0 : Int32)) 0 13 (1 : Int32)))
    else some (up (up (up h 0 12 (h 0 11)) 0 14 (0 : Int32)) 0 13 (0 : Int32))))
def X8_next0 (fu : Nat) (h : Hp) : Option (Hp) :=
    X8_next0_8 fu fu (up h 0 11 (h 0 12))
-- X8_isWord
def X8_isWord_32 (fu : Nat) (w1 : Nat) (h : Hp) : Nat → Int32 → Int32 → Option (Int32)
  | 0, _, _ => none
  | n + 1, x2, x3 => if (slen w1) ≤ x3 then some x2
    else if x2 = 0 then some x2
    else chk (inR ((h 0 11) + x3) 120) (chk (sin w1 x3) (if (h 6 ((h 0 11) + x3).toNatClampNeg) = (schr w1 x3) then X8_isWord_32 fu w1 h n (1 : Int32) (x3 + (1 : Int32))
    else X8_isWord_32 fu w1 h n (0 : Int32) (x3 + (1 : Int32))))
def X8_isWord (fu : Nat) (w1 : Nat) (h : Hp) : Option (Int32) :=
    if (h 0 13) = (1 : Int32) then (if ((h 0 12) - (h 0 11)) = (slen w1) then X8_isWord_32 fu w1 h fu (1 : Int32) (0 : Int32)
      else X8_isWord_32 fu w1 h fu (0 : Int32) (0 : Int32))
    else X8_isWord_32 fu w1 h fu (0 : Int32) (0 : Int32)
-- X8_kindTold
def X8_kindTold_4 (fu : Nat) (h : Hp) : Nat → Int32 → Int32 → Option (Int32)
  | 0, _, _ => none
  | n + 1, x1, x2 => if (7 : Int32) ≤ x2 then some x1
    else chk (inR x2 7) (bnd (X8_isWord fu (knd x2) h) (fun r4 => if r4 = 0 then X8_kindTold_4 fu h n x1 (x2 + (1 : Int32))
    else X8_kindTold_4 fu h n x2 (x2 + (1 : Int32))))
def X8_kindTold (fu : Nat) (h : Hp) : Option (Int32) :=
    X8_kindTold_4 fu h fu (-1 : Int32) (0 : Int32)
-- X8_must
def X8_must (fu : Nat) (x1 : Int32) (h : Hp) : Option (Hp) :=
    if (h 0 15) = 0 then (if x1 = 0 then (if ((up h 0 15 (1 : Int32)) 0 15) = 0 then bnd (X8_next0 fu (up h 0 15 (1 : Int32))) (fun h11 => some h11)
        else some (up h 0 15 (1 : Int32)))
      else if ((up h 0 15 (0 : Int32)) 0 15) = 0 then bnd (X8_next0 fu (up h 0 15 (0 : Int32))) (fun h8 => some h8)
      else some (up h 0 15 (0 : Int32)))
    else if ((up h 0 15 (1 : Int32)) 0 15) = 0 then bnd (X8_next0 fu (up h 0 15 (1 : Int32))) (fun h4 => some h4)
    else some (up h 0 15 (1 : Int32))
-- X8_isNext
def X8_isNext (fu : Nat) (w1 : Nat) (h : Hp) : Option (Int32 × Hp) :=
    if (h 0 15) = 0 then bnd (X8_isWord fu w1 h) (fun r6 => if r6 = 0 then (if (0 : Int32) = 0 then some ((0 : Int32), h)
        else bnd (X8_must fu (1 : Int32) h) (fun h11 => some ((0 : Int32), h11)))
      else if (1 : Int32) = 0 then some ((1 : Int32), h)
      else bnd (X8_must fu (1 : Int32) h) (fun h14 => some ((1 : Int32), h14)))
    else if (0 : Int32) = 0 then some ((0 : Int32), h)
    else bnd (X8_must fu (1 : Int32) h) (fun h4 => some ((0 : Int32), h4))
-- X8_number
def X8_number (fu : Nat) (x1 : Int32) (x2 : Int32) (h : Hp) : Option (Int32 × Hp) :=
    if (h 0 13) = (2 : Int32) then (if (X8_within (h 0 14) x1 x2) = 0 then bnd (X8_must fu (0 : Int32) h) (fun h7 => some ((h 0 14), h7))
      else bnd (X8_must fu (1 : Int32) h) (fun h9 => some ((h 0 14), h9)))
    else bnd (X8_must fu (0 : Int32) h) (fun h3 => some ((h 0 14), h3))
-- X8_item
def X8_item_52 (s1 : Int32) (h : Hp) : Option (Hp) :=
    some (up h 0 18 (s1 + (1 : Int32)))
def X8_item (x1 : Int32) (x2 : Int32) (x3 : Int32) (x4 : Int32) (h : Hp) : Option (Hp) :=
    chk (inR ((4 : Int32) * (h 0 18)) 480) (chk (inR (((4 : Int32) * (h 0 18)) + (1 : Int32)) 480) (chk (inR (((4 : Int32) * (h 0 18)) + (2 : Int32)) 480) (chk (inR (((4 : Int32) * (h 0 18)) + (3 : Int32)) 480) (X8_item_52 ((up (up (up (up h 8 ((4 : Int32) * (h 0 18)).toNatClampNeg x1) 8 (((4 : Int32) * (h 0 18)) + (1 : Int32)).toNatClampNeg x2) 8 (((4 : Int32) * (h 0 18)) + (2 : Int32)).toNatClampNeg x3) 8 (((4 : Int32) * (h 0 18)) + (3 : Int32)).toNatClampNeg x4) 0 18) (up (up (up (up h 8 ((4 : Int32) * (h 0 18)).toNatClampNeg x1) 8 (((4 : Int32) * (h 0 18)) + (1 : Int32)).toNatClampNeg x2) 8 (((4 : Int32) * (h 0 18)) + (2 : Int32)).toNatClampNeg x3) 8 (((4 : Int32) * (h 0 18)) + (3 : Int32)).toNatClampNeg x4)))))
-- X8_readItem
def X8_readItem_82 (fu : Nat) (x1 : Int32) (x2 : Int32) (s0 : Int32) (h : Hp) : Option (Hp) :=
    bnd (X8_isNext fu 9 h) (fun r2 => if r2.1 = 0 then bnd (X8_item x1 x2 s0 (-1 : Int32) r2.2) (fun h6 => some h6)
    else bnd (X8_number fu (0 : Int32) (5 : Int32) r2.2) (fun r8 => bnd (X8_item x1 x2 s0 r8.1 r8.2) (fun h11 => some h11)))
def X8_readItem_59 (fu : Nat) (x1 : Int32) (s0 : Int32) (h : Hp) : Option (Hp) :=
    bnd (X8_isNext fu 8 h) (fun r2 => if r2.1 = 0 then X8_readItem_82 fu x1 s0 (10 : Int32) r2.2
    else bnd (X8_number fu (1 : Int32) (60 : Int32) r2.2) (fun r6 => X8_readItem_82 fu x1 s0 r6.1 r6.2))
def X8_readItem (fu : Nat) (h : Hp) : Option (Hp) :=
    bnd (X8_kindTold fu h) (fun r2 => if r2 < 0 then bnd (X8_isNext fu 10 h) (fun r6 => if r6.1 = 0 then bnd (X8_isNext fu 12 r6.2) (fun r10 => if r10.1 = 0 then bnd (X8_isWord fu 13 r10.2) (fun r14 => bnd (X8_must fu r14 r10.2) (fun h17 => bnd (X8_number fu (1 : Int32) (20 : Int32) h17) (fun r19 => bnd (X8_item (12 : Int32) r19.1 (0 : Int32) (0 : Int32) r19.2) (fun h22 => some h22))))
        else bnd (X8_number fu (0 : Int32) (5 : Int32) r10.2) (fun r24 => bnd (X8_number fu (0 : Int32) (5 : Int32) r24.2) (fun r27 => bnd (X8_item (11 : Int32) r24.1 r27.1 (0 : Int32) r27.2) (fun h30 => some h30))))
      else bnd (X8_number fu (0 : Int32) (5 : Int32) r6.2) (fun r32 => bnd (X8_isWord fu 7 r32.2) (fun r35 => bnd (X8_must fu r35 r32.2) (fun h38 => bnd (X8_number fu (0 : Int32) (255 : Int32) h38) (fun r40 => bnd (X8_isNext fu 11 r40.2) (fun r43 => if r43.1 = 0 then bnd (X8_item (10 : Int32) r32.1 r40.1 (-1 : Int32) r43.2) (fun h47 => some h47)
      else bnd (X8_number fu (0 : Int32) (99 : Int32) r43.2) (fun r49 => bnd (X8_item (10 : Int32) r32.1 r40.1 r49.1 r49.2) (fun h52 => some h52))))))))
    else if (10 : Int32) ≤ (h 0 19) then bnd (X8_must fu (0 : Int32) h) (fun h55 => bnd (X8_isNext fu 7 (up h55 0 19 ((h55 0 19) + (1 : Int32)))) (fun r57 => if r57.1 = 0 then X8_readItem_59 fu r2 (0 : Int32) r57.2
      else bnd (X8_number fu (0 : Int32) (255 : Int32) r57.2) (fun r61 => X8_readItem_59 fu r2 r61.1 r61.2)))
    else bnd (X8_must fu (1 : Int32) h) (fun h64 => bnd (X8_isNext fu 7 (up h64 0 19 ((h64 0 19) + (1 : Int32)))) (fun r66 => if r66.1 = 0 then X8_readItem_59 fu r2 (0 : Int32) r66.2
    else bnd (X8_number fu (0 : Int32) (255 : Int32) r66.2) (fun r70 => X8_readItem_59 fu r2 r70.1 r70.2))))
-- X8_isSo
def X8_isSo (x1 : Int32) (h : Hp) : Option (Int32 × Hp) :=
    chk (inR (x1 + (1 : Int32)) 480) (chk (inR (x1 + (2 : Int32)) 480) (chk (inR (x1 + (3 : Int32)) 480) (chk (inR x1 480) (if (h 8 x1.toNatClampNeg) = (10 : Int32) then (if 0 ≤ (h 8 (x1 + (3 : Int32)).toNatClampNeg) then chk (inR ((21 : Int32) + (h 8 (x1 + (1 : Int32)).toNatClampNeg)) 117) (bnd (X8_become ((15 : Int32) + (h 8 (x1 + (1 : Int32)).toNatClampNeg)) (h 8 (x1 + (2 : Int32)).toNatClampNeg) (up h 1 ((21 : Int32) + (h 8 (x1 + (1 : Int32)).toNatClampNeg)).toNatClampNeg (h 8 (x1 + (3 : Int32)).toNatClampNeg))) (fun r4 => some (r4.1, r4.2)))
      else chk (inR ((21 : Int32) + (h 8 (x1 + (1 : Int32)).toNatClampNeg)) 117) (chk (inR ((21 : Int32) + (h 8 (x1 + (1 : Int32)).toNatClampNeg)) 117) (bnd (X8_become ((15 : Int32) + (h 8 (x1 + (1 : Int32)).toNatClampNeg)) (h 8 (x1 + (2 : Int32)).toNatClampNeg) (up h 1 ((21 : Int32) + (h 8 (x1 + (1 : Int32)).toNatClampNeg)).toNatClampNeg (h 1 ((21 : Int32) + (h 8 (x1 + (1 : Int32)).toNatClampNeg)).toNatClampNeg))) (fun r7 => some (r7.1, r7.2)))))
    else if (h 8 x1.toNatClampNeg) = (11 : Int32) then chk (inR ((27 : Int32) + (h 8 (x1 + (1 : Int32)).toNatClampNeg)) 117) (some ((h 8 (x1 + (2 : Int32)).toNatClampNeg), (up h 1 ((27 : Int32) + (h 8 (x1 + (1 : Int32)).toNatClampNeg)).toNatClampNeg (h 8 (x1 + (2 : Int32)).toNatClampNeg))))
    else if (h 8 x1.toNatClampNeg) = (12 : Int32) then bnd (X8_become (1 : Int32) (h 8 (x1 + (1 : Int32)).toNatClampNeg) h) (fun r12 => some (r12.1, r12.2))
    else chk (inR x1 480) (bnd (X8_comes (h 8 x1.toNatClampNeg) (h 8 (x1 + (1 : Int32)).toNatClampNeg) (h 8 (x1 + (2 : Int32)).toNatClampNeg) (h 8 (x1 + (3 : Int32)).toNatClampNeg) h) (fun r15 => some (r15.1, r15.2)))))))
-- X8_text
def X8_text_113 (fu : Nat) : Nat → Int32 → Int32 → Hp → Option (Int32 × Hp)
  | 0, _, _, _ => none
  | n + 1, x1, x2, h => if (h 0 18) ≤ x2 then some (x1, h)
    else bnd (X8_isSo ((4 : Int32) * x2) h) (fun r3 => if 0 ≤ r3.1 then X8_text_113 fu n (x1 + (1 : Int32)) (x2 + (1 : Int32)) r3.2
    else X8_text_113 fu n (x1 + (0 : Int32)) (x2 + (1 : Int32)) r3.2)
def X8_text_33 (fu : Nat) : Nat → Hp → Option (Int32 × Hp)
  | 0, _ => none
  | n + 1, h => if (h 0 15) = 0 then (if (h 0 13) = (3 : Int32) then chk (inR (h 0 11) 120) (if (h 6 (h 0 11).toNatClampNeg) = (59 : Int32) then bnd (X8_must fu (1 : Int32) h) (fun h26 => bnd (X8_readItem fu h26) (fun h28 => X8_text_33 fu n h28))
        else if (h 0 13) = 0 then bnd (X8_must fu (1 : Int32) h) (fun h23 => if ((up h23 0 10 (0 : Int32)) 0 15) = 0 then X8_text_113 fu fu (0 : Int32) (0 : Int32) (up h23 0 10 (0 : Int32))
          else some (((-1 : Int32) - ((up h23 0 10 (0 : Int32)) 0 11)), (up h23 0 10 (0 : Int32))))
        else bnd (X8_must fu (0 : Int32) h) (fun h20 => if ((up h20 0 10 (0 : Int32)) 0 15) = 0 then X8_text_113 fu fu (0 : Int32) (0 : Int32) (up h20 0 10 (0 : Int32))
        else some (((-1 : Int32) - ((up h20 0 10 (0 : Int32)) 0 11)), (up h20 0 10 (0 : Int32)))))
      else if (h 0 13) = 0 then bnd (X8_must fu (1 : Int32) h) (fun h15 => if ((up h15 0 10 (0 : Int32)) 0 15) = 0 then X8_text_113 fu fu (0 : Int32) (0 : Int32) (up h15 0 10 (0 : Int32))
        else some (((-1 : Int32) - ((up h15 0 10 (0 : Int32)) 0 11)), (up h15 0 10 (0 : Int32))))
      else bnd (X8_must fu (0 : Int32) h) (fun h12 => if ((up h12 0 10 (0 : Int32)) 0 15) = 0 then X8_text_113 fu fu (0 : Int32) (0 : Int32) (up h12 0 10 (0 : Int32))
      else some (((-1 : Int32) - ((up h12 0 10 (0 : Int32)) 0 11)), (up h12 0 10 (0 : Int32)))))
    else if (h 0 13) = 0 then bnd (X8_must fu (1 : Int32) h) (fun h7 => if ((up h7 0 10 (0 : Int32)) 0 15) = 0 then X8_text_113 fu fu (0 : Int32) (0 : Int32) (up h7 0 10 (0 : Int32))
      else some (((-1 : Int32) - ((up h7 0 10 (0 : Int32)) 0 11)), (up h7 0 10 (0 : Int32))))
    else bnd (X8_must fu (0 : Int32) h) (fun h4 => if ((up h4 0 10 (0 : Int32)) 0 15) = 0 then X8_text_113 fu fu (0 : Int32) (0 : Int32) (up h4 0 10 (0 : Int32))
    else some (((-1 : Int32) - ((up h4 0 10 (0 : Int32)) 0 11)), (up h4 0 10 (0 : Int32))))
def X8_text (fu : Nat) (h : Hp) : Option (Int32 × Hp) :=
    bnd (X8_next0 fu (up (up (up (up h 0 12 (0 : Int32)) 0 15 (0 : Int32)) 0 18 (0 : Int32)) 0 19 ((up (up (up h 0 12 (0 : Int32)) 0 15 (0 : Int32)) 0 18 (0 : Int32)) 1 2))) (fun h2 => bnd (X8_readItem fu h2) (fun h4 => X8_text_33 fu fu h4))
-- X8_isSpot
def X8_isSpot (x0 : Int32) : Int32 :=
    (X8_within x0 (0 : Int32) (9 : Int32))
def X8_isSpot_o (x0 : Int32) : Option Int32 :=
    some (X8_within x0 (0 : Int32) (9 : Int32))
theorem X8_isSpot_e (x0 : Int32) : X8_isSpot_o x0 = some (X8_isSpot x0) := by
  unfold X8_isSpot_o X8_isSpot
  repeat' split
  all_goals first | rfl
-- X8_hold
def X8_hold (x1 : Int32) (x2 : Int32) (h : Hp) : Option (Int32 × Hp) :=
    if (X8_isSpot x1) = 0 then bnd (X8_finding (-1000001 : Int32) h) (fun r4 => some (r4.1, r4.2))
    else if x2 = (-1 : Int32) then chk (inR ((5 : Int32) + x1) 117) (some ((1 : Int32), (up h 1 ((5 : Int32) + x1).toNatClampNeg x2)))
    else bnd (X8_isPart x2 h) (fun r8 => if r8 = 0 then bnd (X8_finding (-1000001 : Int32) h) (fun r12 => some (r12.1, r12.2))
    else chk (inR ((5 : Int32) + x1) 117) (some ((1 : Int32), (up h 1 ((5 : Int32) + x1).toNatClampNeg x2))))
-- X8_as
def X8_as (fu : Nat) (x1 : Int32) (x2 : Int32) (h : Hp) : Option (Int32 × Hp) :=
    if (X8_isSpot x1) = 0 then bnd (X8_finding (-1000001 : Int32) h) (fun r4 => some (r4.1, r4.2))
    else if (X8_isKind x2) = 0 then bnd (X8_finding (-1000001 : Int32) h) (fun r23 => some (r23.1, r23.2))
    else chk (inR ((5 : Int32) + x1) 117) (if 0 ≤ (h 1 ((5 : Int32) + x1).toNatClampNeg) then bnd (X8_partIs (h 1 ((5 : Int32) + x1).toNatClampNeg) (0 : Int32) h) (fun r10 => bnd (X8_isUnder fu r10 x2) (fun r13 => if r13 = 0 then bnd (X8_finding (-1000003 : Int32) h) (fun r17 => some (r17.1, r17.2))
      else some ((h 1 ((5 : Int32) + x1).toNatClampNeg), h)))
    else bnd (X8_finding (-1000006 : Int32) h) (fun r20 => some (r20.1, r20.2)))
-- X8_sheet
def X8_sheet_86 (fu : Nat) : Nat → Int32 → Int32 → Hp → Option (Int32 × Hp)
  | 0, _, _, _ => none
  | n + 1, x1, x4, h => if (40 : Int32) ≤ x4 then chk (inR x1 4) (some ((h 10 x1.toNatClampNeg), h))
    else chk (inR (((40 : Int32) * x1) + x4) 160) (X8_sheet_86 fu n x1 (x4 + (1 : Int32)) (up h 11 (((40 : Int32) * x1) + x4).toNatClampNeg (0 : Int32)))
def X8_sheet_36 (fu : Nat) (x1 : Int32) (x2 : Int32) (x3 : Int32) (h : Hp) : Option (Int32 × Hp) :=
    if 0 ≤ x3 then (if x3 ≤ (40 : Int32) then chk (inR x1 4) (if x2 = 0 then chk (inR x1 4) (X8_sheet_86 fu fu x1 (0 : Int32) (up (up h 9 x1.toNatClampNeg x2) 10 x1.toNatClampNeg (0 : Int32)))
        else chk (inR x1 4) (X8_sheet_86 fu fu x1 (0 : Int32) (up (up h 9 x1.toNatClampNeg x2) 10 x1.toNatClampNeg x3)))
      else bnd (X8_finding (-1000001 : Int32) h) (fun r5 => some (r5.1, r5.2)))
    else bnd (X8_finding (-1000007 : Int32) h) (fun r8 => some (r8.1, r8.2))
def X8_sheet (fu : Nat) (x1 : Int32) (x2 : Int32) (x3 : Int32) (h : Hp) : Option (Int32 × Hp) :=
    if (X8_isSheet x1) = 0 then bnd (X8_finding (-1000001 : Int32) h) (fun r4 => some (r4.1, r4.2))
    else if x2 = 0 then X8_sheet_36 fu x1 x2 x3 h
    else if x2 = (8 : Int32) then X8_sheet_36 fu x1 x2 x3 h
    else if x2 = (16 : Int32) then X8_sheet_36 fu x1 x2 x3 h
    else if x2 = (32 : Int32) then X8_sheet_36 fu x1 x2 x3 h
    else bnd (X8_finding (-1000001 : Int32) h) (fun r11 => some (r11.1, r11.2))
-- X8_cutTo
def X8_cutTo (x0 : Int32) (x1 : Int32) : Int32 :=
    if x1 = (8 : Int32) then x0.toInt8.toInt32
    else if x1 = (16 : Int32) then x0.toInt16.toInt32
    else x0
def X8_cutTo_o (x0 : Int32) (x1 : Int32) : Option Int32 :=
    if x1 = (8 : Int32) then some x0.toInt8.toInt32
    else if x1 = (16 : Int32) then some x0.toInt16.toInt32
    else some x0
theorem X8_cutTo_e (x0 : Int32) (x1 : Int32) : X8_cutTo_o x0 x1 = some (X8_cutTo x0 x1) := by
  unfold X8_cutTo_o X8_cutTo
  repeat' split
  all_goals first | rfl
-- X8_write
def X8_write (x1 : Int32) (x2 : Int32) (x3 : Int32) (h : Hp) : Option (Int32 × Hp) :=
    if (X8_isSheet x1) = 0 then bnd (X8_finding (-1000001 : Int32) h) (fun r13 => some (r13.1, r13.2))
    else chk (inR x1 4) (if (h 9 x1.toNatClampNeg) = 0 then bnd (X8_finding (-1000006 : Int32) h) (fun r10 => some (r10.1, r10.2))
    else chk (inR x1 4) (if (X8_within x2 (0 : Int32) ((h 10 x1.toNatClampNeg) - (1 : Int32))) = 0 then bnd (X8_finding (-1000001 : Int32) h) (fun r7 => some (r7.1, r7.2))
    else chk (inR x1 4) (chk (inR (((40 : Int32) * x1) + x2) 160) (some ((1 : Int32), (up h 11 (((40 : Int32) * x1) + x2).toNatClampNeg (X8_cutTo x3 (h 9 x1.toNatClampNeg))))))))
-- X8_copy
def X8_copy_164 (fu : Nat) : Nat → Int32 → Int32 → Int32 → Int32 → Hp → Option (Int32 × Hp)
  | 0, _, _, _, _, _ => none
  | n + 1, x3, x4, x5, x6, h => if x5 ≤ x6 then some (x5, h)
    else chk (inR x6 40) (chk (inR ((((40 : Int32) * x3) + x4) + x6) 160) (X8_copy_164 fu n x3 x4 x5 (x6 + (1 : Int32)) (up h 11 ((((40 : Int32) * x3) + x4) + x6).toNatClampNeg (h 12 x6.toNatClampNeg))))
def X8_copy_127 (fu : Nat) : Nat → Int32 → Int32 → Int32 → Int32 → Int32 → Int32 → Hp → Option (Int32 × Hp)
  | 0, _, _, _, _, _, _, _ => none
  | n + 1, x1, x2, x3, x4, x5, x6, h => if x5 ≤ x6 then X8_copy_164 fu fu x3 x4 x5 (0 : Int32) h
    else chk (inR ((((40 : Int32) * x1) + x2) + x6) 160) (chk (inR x6 40) (X8_copy_127 fu n x1 x2 x3 x4 x5 (x6 + (1 : Int32)) (up h 12 x6.toNatClampNeg (h 11 ((((40 : Int32) * x1) + x2) + x6).toNatClampNeg))))
def X8_copy (fu : Nat) (x1 : Int32) (x2 : Int32) (x3 : Int32) (x4 : Int32) (x5 : Int32) (h : Hp) : Option (Int32 × Hp) :=
    if (X8_isSheet x1) = 0 then bnd (X8_finding (-1000001 : Int32) h) (fun r4 => some (r4.1, r4.2))
    else if (X8_isSheet x3) = 0 then bnd (X8_finding (-1000001 : Int32) h) (fun r41 => some (r41.1, r41.2))
    else chk (inR x1 4) (if (h 9 x1.toNatClampNeg) = 0 then bnd (X8_finding (-1000006 : Int32) h) (fun r10 => some (r10.1, r10.2))
    else chk (inR x3 4) (if (h 9 x3.toNatClampNeg) = 0 then bnd (X8_finding (-1000006 : Int32) h) (fun r38 => some (r38.1, r38.2))
    else chk (inR x1 4) (chk (inR x3 4) (if (h 9 x1.toNatClampNeg) = (h 9 x3.toNatClampNeg) then (if x2 < 0 then bnd (X8_finding (-1000001 : Int32) h) (fun r16 => some (r16.1, r16.2))
      else if x4 < 0 then bnd (X8_finding (-1000001 : Int32) h) (fun r20 => some (r20.1, r20.2))
      else if x5 < 0 then bnd (X8_finding (-1000001 : Int32) h) (fun r24 => some (r24.1, r24.2))
      else chk (inR x1 4) (if 0 < (lg_cmp (x2.toInt64 + x5.toInt64) (h 10 x1.toNatClampNeg).toInt64) then bnd (X8_finding (-1000001 : Int32) h) (fun r28 => some (r28.1, r28.2))
      else chk (inR x3 4) (if (lg_cmp (x4.toInt64 + x5.toInt64) (h 10 x3.toNatClampNeg).toInt64) ≤ 0 then X8_copy_127 fu fu x1 x2 x3 x4 x5 (0 : Int32) h
      else bnd (X8_finding (-1000001 : Int32) h) (fun r32 => some (r32.1, r32.2)))))
    else bnd (X8_finding (-1000003 : Int32) h) (fun r35 => some (r35.1, r35.2))))))
-- X8_load
def X8_load_32 (fu : Nat) : Nat → Int32 → Int32 → Hp → Option (Int32 × Hp)
  | 0, _, _, _ => none
  | n + 1, x1, x2, h => chk (inR x1 4) (if (h 10 x1.toNatClampNeg) ≤ x2 then some (x2, h)
    else bnd (X8_isPart x2 h) (fun r3 => if r3 = 0 then some (x2, h)
    else chk (inR (((40 : Int32) * x1) + x2) 160) (if (X8_within (h 11 (((40 : Int32) * x1) + x2).toNatClampNeg) (1 : Int32) (60 : Int32)) = 0 then some (x2, h)
    else chk (inR (((40 : Int32) * x1) + x2) 160) (chk (inR (X8_at x2 (2 : Int32)) 117) (X8_load_32 fu n x1 (x2 + (1 : Int32)) (up h 1 (X8_at x2 (2 : Int32)).toNatClampNeg (h 11 (((40 : Int32) * x1) + x2).toNatClampNeg)))))))
def X8_load (fu : Nat) (x1 : Int32) (h : Hp) : Option (Int32 × Hp) :=
    if (X8_isSheet x1) = 0 then bnd (X8_finding (-1000001 : Int32) h) (fun r8 => some (r8.1, r8.2))
    else chk (inR x1 4) (if (h 9 x1.toNatClampNeg) = 0 then bnd (X8_finding (-1000006 : Int32) h) (fun r5 => some (r5.1, r5.2))
    else X8_load_32 fu fu x1 (0 : Int32) h)
-- X8_judge
def X8_judge_74 (fu : Nat) (x1 : Int32) (x2 : Int32) (h : Hp) : Option (Int32 × Hp) :=
    chk (inR x1 4) (if x2 = (h 10 x1.toNatClampNeg) then some ((0 : Int32), h)
    else some (((1 : Int32) + x2), h))
def X8_judge_32 (fu : Nat) : Nat → Int32 → Int32 → Hp → Option (Int32 × Hp)
  | 0, _, _, _ => none
  | n + 1, x1, x2, h => chk (inR x1 4) (if (h 10 x1.toNatClampNeg) ≤ x2 then X8_judge_74 fu x1 x2 h
    else if (X8_isRoom x2) = 0 then X8_judge_74 fu x1 x2 h
    else chk (inR (((40 : Int32) * x1) + x2) 160) (bnd (X8_likeness fu x2 h) (fun r5 => if (h 11 (((40 : Int32) * x1) + x2).toNatClampNeg) = r5 then X8_judge_32 fu n x1 (x2 + (1 : Int32)) h
    else X8_judge_74 fu x1 x2 h)))
def X8_judge (fu : Nat) (x1 : Int32) (h : Hp) : Option (Int32 × Hp) :=
    if (X8_isSheet x1) = 0 then bnd (X8_finding (-1000001 : Int32) h) (fun r8 => some (r8.1, r8.2))
    else chk (inR x1 4) (if (h 9 x1.toNatClampNeg) = 0 then bnd (X8_finding (-1000006 : Int32) h) (fun r5 => some (r5.1, r5.2))
    else X8_judge_32 fu fu x1 (0 : Int32) h)
-- X8_image
def X8_image (fu : Nat) (h : Hp) : Option (Int32 × Hp) :=
    bnd (X8_copyRow fu 1 2 h) (fun h2 => some ((1 : Int32), (up h2 0 3 (1 : Int32))))
-- X8_undo
def X8_undo (fu : Nat) (h : Hp) : Option (Int32 × Hp) :=
    if (h 0 3) = 0 then bnd (X8_finding (-1000004 : Int32) h) (fun r5 => some (r5.1, r5.2))
    else bnd (X8_copyRow fu 2 1 h) (fun h3 => some ((h3 1 0), h3))
-- X8_tear
def X8_tear (h : Hp) : Option (Int32 × Hp) :=
    if (h 0 3) = 0 then some ((0 : Int32), (up h 0 3 (0 : Int32)))
    else some ((1 : Int32), (up h 0 3 (0 : Int32)))
-- X8_count
def X8_count_71 (fu : Nat) : Nat → Int32 → Int32 → Hp → Option (Int32 × Hp)
  | 0, _, _, _ => none
  | n + 1, x2, x3, h => if (6 : Int32) ≤ x3 then some (x2, h)
    else chk (inR ((27 : Int32) + x3) 117) (if 0 ≤ (h 1 ((27 : Int32) + x3).toNatClampNeg) then X8_count_71 fu n (x2 + (1 : Int32)) (x3 + (1 : Int32)) h
    else X8_count_71 fu n (x2 + (0 : Int32)) (x3 + (1 : Int32)) h)
def X8_count_107 (fu : Nat) : Nat → Int32 → Int32 → Hp → Option (Int32 × Hp)
  | 0, _, _, _ => none
  | n + 1, x2, x3, h => if (h 1 2) ≤ x3 then some (x2, h)
    else bnd (X8_partIs x3 (2 : Int32) h) (fun r3 => X8_count_107 fu n (x2 + r3) (x3 + (1 : Int32)) h)
def X8_count_148 (fu : Nat) : Nat → Int32 → Int32 → Hp → Option (Int32 × Hp)
  | 0, _, _, _ => none
  | n + 1, x2, x3, h => if (10 : Int32) ≤ x3 then some (x2, h)
    else chk (inR ((5 : Int32) + x3) 117) (if 0 ≤ (h 1 ((5 : Int32) + x3).toNatClampNeg) then X8_count_148 fu n (x2 + (1 : Int32)) (x3 + (1 : Int32)) h
    else X8_count_148 fu n (x2 + (0 : Int32)) (x3 + (1 : Int32)) h)
def X8_count (fu : Nat) (x1 : Int32) (h : Hp) : Option (Int32 × Hp) :=
    if x1 = (0 : Int32) then some ((h 1 0), h)
    else if x1 = (1 : Int32) then some ((h 1 2), h)
    else if x1 = (2 : Int32) then some ((h 1 3), h)
    else if x1 = (3 : Int32) then X8_count_71 fu fu (0 : Int32) (0 : Int32) h
    else if x1 = (4 : Int32) then X8_count_107 fu fu (0 : Int32) (0 : Int32) h
    else if x1 = (5 : Int32) then some ((h 0 10), h)
    else if x1 = (6 : Int32) then some ((h 1 4), h)
    else if x1 = (7 : Int32) then X8_count_148 fu fu (0 : Int32) (0 : Int32) h
    else bnd (X8_finding (-1000001 : Int32) h) (fun r10 => some (r10.1, r10.2))
-- X8_status
def X8_status (x1 : Int32) (h : Hp) : Option (Int32 × Hp) :=
    if (X8_within x1 (-1 : Int32) (6 : Int32)) = 0 then bnd (X8_finding (-1000001 : Int32) h) (fun r4 => some (r4.1, r4.2))
    else chk (inR (x1 + (1 : Int32)) 8) (some ((h 4 (x1 + (1 : Int32)).toNatClampNeg), h))
