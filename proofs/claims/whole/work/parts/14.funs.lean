noncomputable def fX11_state (p0 : Int32) (S : Mem) : Int32 × Mem :=
  ((S 0 0 9), (up S 0 0 9 p0))
noncomputable def fX11_within (p0 : Int32) (p1 : Int32) (p2 : Int32) : Int32 :=
  if p0 < p1 then
    0
  else
    if p2 < p0 then
      0
    else
      1
theorem zX11_within (p0 : Int32) (p1 : Int32) (p2 : Int32) : (fX11_within p0 p1 p2) = 0 ∨ (fX11_within p0 p1 p2) = 1 := by
  unfold fX11_within
  (repeat' split) <;> first | exact Or.inl rfl | exact Or.inr rfl
noncomputable def fX10_forget (S : Mem) : Mem :=
  (up S 10 0 3 0)
noncomputable def fX6_become (a0 : Nat) (p0 : Int32) (p1 : Int32) (p2 : Int32) (p3 : Int32) (S : Mem) : Mem :=
  (up (up (up (up (up S 6 a0 0 p0) 6 a0 1 p1) 6 a0 2 p2) 6 a0 3 p3) 6 a0 4 0)
noncomputable def fX11_reader_47 (x1 : Int32) (x2 : Int32) (x3 : Int32) (x4 : Int32) (y0 : Int32) (S : Mem) : Option (Int32 × Mem) :=
  if y0 = 0 then
    some ((-1), S)
  else
    if (S 0 0 6) < 12 then
      (ix ((fX10_forget S) 0 0 6) 12).bind fun j4 =>
        some (((fX10_forget S) 0 0 6), (up (fX6_become j4 x1 x2 x3 x4 (fX10_forget S)) 0 0 6 (((fX10_forget S) 0 0 6) + 1)))
    else
      some ((-1), S)
noncomputable def fX11_reader_46 (x1 : Int32) (x2 : Int32) (x3 : Int32) (x4 : Int32) (S : Mem) : Option (Int32 × Mem) :=
  fX11_reader_47 x1 x2 x3 x4 0 S
noncomputable def fX11_reader (p0 : Int32) (p1 : Int32) (p2 : Int32) (p3 : Int32) (S : Mem) : Option (Int32 × Mem) :=
  if (fX11_within p0 (-36500) 9999) = 0 then
    fX11_reader_46 p0 p1 p2 p3 S
  else
    if (fX11_within p1 (-1) 9999) = 0 then
      fX11_reader_46 p0 p1 p2 p3 S
    else
      if (fX11_within p2 0 1) = 0 then
        fX11_reader_46 p0 p1 p2 p3 S
      else
        if (fX11_within p3 0 3) = 0 then
          fX11_reader_46 p0 p1 p2 p3 S
        else
          fX11_reader_47 p0 p1 p2 p3 1 S
noncomputable def fX0_readerAt (p0 : Int32) (S : Mem) : Option (Option Nat) :=
  if (fX11_within p0 0 ((S 0 0 6) - 1)) = 0 then
    some none
  else
    (ix p0 12).bind fun j2 =>
      some (some j2)
noncomputable def fX6_tell_48 (c0 : Nat) (x1 : Int32) (x2 : Int32) (S : Mem) : Int32 × Mem :=
  if x1 = 2 then
    if (fX11_within x2 0 9999) = 0 then
      (0, S)
    else
      (1, (up S 6 c0 4 x2))
  else
    (0, S)
theorem zX6_tell_48 (c0 : Nat) (x1 : Int32) (x2 : Int32) (S : Mem) : (fX6_tell_48 c0 x1 x2 S).1 = 0 ∨ (fX6_tell_48 c0 x1 x2 S).1 = 1 := by
  unfold fX6_tell_48
  (repeat' split) <;> first | exact Or.inl rfl | exact Or.inr rfl | exact zX11_within _ _ _ 
noncomputable def fX6_tell_27 (c0 : Nat) (x1 : Int32) (x2 : Int32) (S : Mem) : Int32 × Mem :=
  if x1 = 1 then
    if (fX11_within x2 0 1) = 0 then
      fX6_tell_48 c0 x1 x2 S
    else
      (1, (up S 6 c0 2 x2))
  else
    fX6_tell_48 c0 x1 x2 S
theorem zX6_tell_27 (c0 : Nat) (x1 : Int32) (x2 : Int32) (S : Mem) : (fX6_tell_27 c0 x1 x2 S).1 = 0 ∨ (fX6_tell_27 c0 x1 x2 S).1 = 1 := by
  unfold fX6_tell_27
  (repeat' split) <;> first | exact Or.inl rfl | exact Or.inr rfl | exact zX11_within _ _ _  | exact zX6_tell_48 _ _ _ _ 
noncomputable def fX6_tell (a0 : Nat) (p0 : Int32) (p1 : Int32) (p2 : Int32) (S : Mem) : Int32 × Mem :=
  if p0 = 0 then
    if p1 = (-1) then
      (1, (up S 6 a0 1 p1))
    else
      if (fX11_within p1 p2 9999) = 0 then
        fX6_tell_27 a0 p0 p1 S
      else
        (1, (up S 6 a0 1 p1))
  else
    fX6_tell_27 a0 p0 p1 S
theorem zX6_tell (a0 : Nat) (p0 : Int32) (p1 : Int32) (p2 : Int32) (S : Mem) : (fX6_tell a0 p0 p1 p2 S).1 = 0 ∨ (fX6_tell a0 p0 p1 p2 S).1 = 1 := by
  unfold fX6_tell
  (repeat' split) <;> first | exact Or.inl rfl | exact Or.inr rfl | exact zX11_within _ _ _  | exact zX6_tell_27 _ _ _ _ 
noncomputable def fX11_set (p0 : Int32) (p1 : Int32) (p2 : Int32) (S : Mem) : Option (Int32 × Mem) :=
  (fX0_readerAt p0 S).bind fun r2 =>
    mt (r2)
      (
        some (0, S))
      fun i3 =>
        if (fX6_tell i3 p1 p2 (S 0 0 8) S).1 = 0 then
          some ((fX6_tell i3 p1 p2 (S 0 0 8) S).1, (fX6_tell i3 p1 p2 (S 0 0 8) S).2)
        else
          some ((fX6_tell i3 p1 p2 (S 0 0 8) S).1, (fX10_forget (fX6_tell i3 p1 p2 (S 0 0 8) S).2))
noncomputable def fX11_isShelf (p0 : Int32) : Int32 :=
  (fX11_within p0 0 4)
theorem zX11_isShelf (p0 : Int32) : (fX11_isShelf p0) = 0 ∨ (fX11_isShelf p0) = 1 := by
  unfold fX11_isShelf
  (repeat' split) <;> first | exact Or.inl rfl | exact Or.inr rfl | exact zX11_within _ _ _ 
noncomputable def fX5_becomeUnread (a0 : Nat) (p0 : Int32) (S : Mem) : Mem :=
  (up (up (up (up S 5 a0 3 (-1)) 5 a0 4 0) 5 a0 5 0) 5 a0 6 p0)
noncomputable def fX5_become (a0 : Nat) (p0 : Int32) (p1 : Int32) (p2 : Int32) (S : Mem) : Mem :=
  (fX5_becomeUnread a0 p2 (up (up (up (up S 5 a0 0 p0) 5 a0 1 p1) 5 a0 2 p2) 5 a0 7 (-1)))
noncomputable def fX11_paper (p0 : Int32) (S : Mem) : Option (Int32 × Mem) :=
  if (fX11_isShelf p0) = 0 then
    some ((-1), S)
  else
    if (S 0 0 7) < 12 then
      (ix ((fX10_forget S) 0 0 7) 12).bind fun j3 =>
        some (((fX10_forget S) 0 0 7), (up (fX5_become j3 ((fX10_forget S) 0 0 7) p0 ((fX10_forget S) 0 0 8) (fX10_forget S)) 0 0 7 (((fX10_forget S) 0 0 7) + 1)))
    else
      some ((-1), S)
noncomputable def fX0_paperAt (p0 : Int32) (S : Mem) : Option (Option Nat) :=
  if (fX11_within p0 0 ((S 0 0 7) - 1)) = 0 then
    some none
  else
    (ix p0 12).bind fun j2 =>
      some (some j2)
noncomputable def fX11_move (p0 : Int32) (p1 : Int32) (S : Mem) : Option (Int32 × Mem) :=
  (fX0_paperAt p0 S).bind fun r2 =>
    mt (r2)
      (
        some (0, S))
      fun i3 =>
        if (fX11_isShelf p1) = 0 then
          some (0, S)
        else
          some (1, (up (fX10_forget S) 5 i3 1 p1))
noncomputable def fX0_changeShelves_2 : Nat → Int32 → Int32 → Int32 → Mem → Option (Mem)
  | 0, _, _, _, _ => none
  | n + 1, x1, x2, x3, S =>
    if (S 0 0 7) ≤ x3 then
      some S
    else
      (ix x3 12).bind fun j2 =>
        if (S 5 j2 1) = x1 then
          fX0_changeShelves_2 n x1 x2 (x3 + 1) (up S 5 j2 1 x2)
        else
          if (S 5 j2 1) = x2 then
            fX0_changeShelves_2 n x1 x2 (x3 + 1) (up S 5 j2 1 x1)
          else
            fX0_changeShelves_2 n x1 x2 (x3 + 1) S
noncomputable def fX0_changeShelves (p0 : Int32) (p1 : Int32) (S : Mem) : Option (Mem) :=
  fX0_changeShelves_2 5000 p0 p1 0 S
noncomputable def fX11_swap (p0 : Int32) (p1 : Int32) (S : Mem) : Option (Int32 × Mem) :=
  if (fX11_isShelf p0) = 0 then
    some (0, S)
  else
    if (fX11_isShelf p1) = 0 then
      some (0, S)
    else
      if p0 = p1 then
        some (0, S)
      else
        (fX0_changeShelves p0 p1 (fX10_forget S)).bind fun S5 =>
          some (1, S5)
noncomputable def fX0_papersOn_4 : Nat → Int32 → Int32 → Int32 → Mem → Option (Int32)
  | 0, _, _, _, _ => none
  | n + 1, x1, x2, x3, S =>
    if (S 0 0 7) ≤ x3 then
      some x2
    else
      (ix x3 12).bind fun j2 =>
        if (S 5 j2 1) = x1 then
          fX0_papersOn_4 n x1 (x2 + 1) (x3 + 1) S
        else
          fX0_papersOn_4 n x1 x2 (x3 + 1) S
noncomputable def fX0_papersOn (p0 : Int32) (S : Mem) : Option (Int32) :=
  fX0_papersOn_4 5000 p0 0 0 S
noncomputable def fX0_burn_2 : Nat → Int32 → Int32 → Mem → Option (Int32 × Mem)
  | 0, _, _, _ => none
  | n + 1, x1, x2, S =>
    if (S 0 0 7) ≤ x2 then
      (fX0_papersOn x1 S).bind fun r3 =>
        some (r3, S)
    else
      (ix x2 12).bind fun j4 =>
        if (S 5 j4 1) = x1 then
          fX0_burn_2 n x1 (x2 + 1) (fX5_becomeUnread j4 (S 0 0 8) S)
        else
          fX0_burn_2 n x1 (x2 + 1) S
noncomputable def fX0_burn (p0 : Int32) (S : Mem) : Option (Int32 × Mem) :=
  fX0_burn_2 5000 p0 0 S
noncomputable def fX11_fire (p0 : Int32) (S : Mem) : Option (Int32 × Mem) :=
  if (fX11_isShelf p0) = 0 then
    some ((-1), S)
  else
    bd (fX0_burn p0 (fX10_forget S)) fun r4 S3 =>
      some (r4, S3)
noncomputable def fX6_livesOn (a0 : Nat) (p0 : Int32) (S : Mem) : Int32 :=
  if p0 < (S 6 a0 0) then
    0
  else
    if (S 6 a0 1) = (-1) then
      1
    else
      if (S 6 a0 1) ≤ p0 then
        0
      else
        1
theorem zX6_livesOn (a0 : Nat) (p0 : Int32) (S : Mem) : (fX6_livesOn a0 p0 S) = 0 ∨ (fX6_livesOn a0 p0 S) = 1 := by
  unfold fX6_livesOn
  (repeat' split) <;> first | exact Or.inl rfl | exact Or.inr rfl
noncomputable def fX3_held (p0 : Int32) : Int32 :=
  (if 0 < (if p0 < 999 then p0 else 999) then (if p0 < 999 then p0 else 999) else 0)
noncomputable def fX3_joined (p0 : Int32) (p1 : Int32) (p2 : Int32) : Int32 :=
  if p0 = 6 then
    (p1 &&& p2)
  else
    if p0 = 18 then
      (p1 + p2)
    else
      if p0 = 19 then
        (p1 - p2)
      else
        if p0 = 20 then
          (p1 * p2)
        else
          if p0 = 21 then
            if p2 = 0 then
              0
            else
              (p1 / p2)
          else
            if p0 = 24 then
              if p2 ≤ p1 then
                0
              else
                1
            else
              if p0 = 25 then
                if p1 = p2 then
                  1
                else
                  0
              else
                if p0 = 26 then
                  if p1 ≤ p2 then
                    0
                  else
                    1
                else
                  (p1 ||| p2)
noncomputable def fX3_operand (p0 : Int32) (S : Mem) : Option (Int32) :=
  if 0 ≤ (p0 - 10000) then
    if 9 ≤ (p0 - 10000) then
      some 0
    else
      (ix (p0 - 10000) 9).bind fun j3 =>
        some (S 15 0 j3)
  else
    some p0
noncomputable def fX3_work_6 : Nat → Int32 → Int32 → Int32 → Mem → Option (Int32 × Mem)
  | 0, _, _, _, _ => none
  | n + 1, x2, x4, x5, S =>
    if x2 ≤ x5 then
      if x4 ≤ 0 then
        some (0, S)
      else
        some ((S 25 0 0), S)
    else
      (ix x5 400).bind fun j3 =>
        if (S 21 0 j3) < 0 then
          if (S 21 0 j3) = (-7) then
            if x4 < 1 then
              if x4 < 2 then
                fX3_work_6 n x2 x4 (x5 + 1) S
              else
                (ix ((x4 + (-1)) - 1) 40).bind fun j9 =>
                  (ix (x4 + (-1)) 40).bind fun j11 =>
                    fX3_work_6 n x2 (x4 + (-1)) (x5 + 1) (up S 25 0 j9 (fX3_joined (-(S 21 0 j3)) (S 25 0 j9) (S 25 0 j11)))
            else
              (ix (x4 - 1) 40).bind fun j13 =>
                fX3_work_6 n x2 x4 (x5 + 1) (up S 25 0 j13 (1 - (S 25 0 j13)))
          else
            if x4 < 2 then
              fX3_work_6 n x2 x4 (x5 + 1) S
            else
              (ix ((x4 + (-1)) - 1) 40).bind fun j16 =>
                (ix (x4 + (-1)) 40).bind fun j18 =>
                  fX3_work_6 n x2 (x4 + (-1)) (x5 + 1) (up S 25 0 j16 (fX3_joined (-(S 21 0 j3)) (S 25 0 j16) (S 25 0 j18)))
        else
          if 40 ≤ x4 then
            if (S 21 0 j3) = (-7) then
              if x4 < 1 then
                fX3_work_6 n x2 x4 (x5 + 1) S
              else
                (ix (x4 - 1) 40).bind fun j23 =>
                  fX3_work_6 n x2 x4 (x5 + 1) (up S 25 0 j23 (1 - (S 25 0 j23)))
            else
              fX3_work_6 n x2 x4 (x5 + 1) S
          else
            (fX3_operand (S 21 0 j3) S).bind fun r26 =>
              (ix x4 40).bind fun j27 =>
                fX3_work_6 n x2 (x4 + 1) (x5 + 1) (up S 25 0 j27 r26)
noncomputable def fX3_work (p0 : Int32) (p1 : Int32) (S : Mem) : Option (Int32 × Mem) :=
  fX3_work_6 5000 p1 0 p0 S
noncomputable def fX3_ageBy_55 (x2 : Int32) (S : Mem) : Option (Int32 × Mem) :=
  (ix x2 16).bind fun j5 =>
    bd (fX3_work (S 22 0 j5) (S 23 0 j5) S) fun r9 S8 =>
      some ((fX3_held r9), S8)
noncomputable def fX3_ageBy_2 : Nat → Int32 → Mem → Option (Int32 × Mem)
  | 0, _, _ => none
  | n + 1, x2, S =>
    if (S 3 0 6) ≤ x2 then
      some ((fX3_held (S 15 0 0)), S)
    else
      (ix x2 16).bind fun j2 =>
        if (S 23 0 j2) = (S 24 0 j2) then
          fX3_ageBy_55 x2 S
        else
          bd (fX3_work (S 23 0 j2) (S 24 0 j2) S) fun r12 S11 =>
            if r12 = 0 then
              fX3_ageBy_2 n (x2 + 1) S11
            else
              fX3_ageBy_55 x2 S11
noncomputable def fX3_ageBy (S : Mem) : Option (Int32 × Mem) :=
  fX3_ageBy_2 5000 0 S
noncomputable def fX6_yearsOn (a0 : Nat) (p0 : Int32) (S : Mem) : Int32 :=
  (((if 0 < (p0 - (S 6 a0 0)) then (p0 - (S 6 a0 0)) else 0) / 365) + (10 * (S 6 a0 2)))
noncomputable def fX0_ageOf_129 (c1 : Nat) (y0 : Int32) (y1 : Int32) (S : Mem) : Option (Int32 × Mem) :=
  (ix y1 9).bind fun j8 =>
    bd (fX3_ageBy (up (up S 15 0 j8 y0) 15 0 8 ((up S 15 0 j8 y0) 5 c1 0))) fun r12 S11 =>
      some (r12, S11)
noncomputable def fX0_ageOf_128 (c1 : Nat) (y0 : Int32) (S : Mem) : Option (Int32 × Mem) :=
  fX0_ageOf_129 c1 0 y0 S
noncomputable def fX0_ageOf_105 (c1 : Nat) (x2 : Int32) (y0 : Int32) (y1 : Int32) (S : Mem) : Option (Int32 × Mem) :=
  (ix y1 9).bind fun j6 =>
    fX0_ageOf_128 c1 7 (up S 15 0 j6 y0)
noncomputable def fX0_ageOf_37 (c1 : Nat) (x2 : Int32) (y0 : Int32) (y1 : Int32) (S : Mem) : Option (Int32 × Mem) :=
  (ix y1 9).bind fun j4 =>
    fX0_ageOf_105 c1 x2 9 6 (up (up (up (up (up S 15 0 j4 y0) 15 0 2 (x2 - ((up S 15 0 j4 y0) 5 c1 6))) 15 0 3 ((x2 - ((up (up S 15 0 j4 y0) 15 0 2 (x2 - ((up S 15 0 j4 y0) 5 c1 6))) 5 c1 2)) / 365)) 15 0 4 ((up (up (up S 15 0 j4 y0) 15 0 2 (x2 - ((up S 15 0 j4 y0) 5 c1 6))) 15 0 3 ((x2 - ((up (up S 15 0 j4 y0) 15 0 2 (x2 - ((up S 15 0 j4 y0) 5 c1 6))) 5 c1 2)) / 365)) 5 c1 5)) 15 0 5 ((up (up (up (up S 15 0 j4 y0) 15 0 2 (x2 - ((up S 15 0 j4 y0) 5 c1 6))) 15 0 3 ((x2 - ((up (up S 15 0 j4 y0) 15 0 2 (x2 - ((up S 15 0 j4 y0) 5 c1 6))) 5 c1 2)) / 365)) 15 0 4 ((up (up (up S 15 0 j4 y0) 15 0 2 (x2 - ((up S 15 0 j4 y0) 5 c1 6))) 15 0 3 ((x2 - ((up (up S 15 0 j4 y0) 15 0 2 (x2 - ((up S 15 0 j4 y0) 5 c1 6))) 5 c1 2)) / 365)) 5 c1 5)) 5 c1 1))
noncomputable def fX0_ageOf_105v1 (c1 : Nat) (x2 : Int32) (c3 : Nat) (y0 : Int32) (y1 : Int32) (S : Mem) : Option (Int32 × Mem) :=
  (ix y1 9).bind fun j15 =>
    if (fX6_livesOn c3 x2 (up S 15 0 j15 y0)) = 0 then
      fX0_ageOf_128 c1 7 (up S 15 0 j15 y0)
    else
      fX0_ageOf_129 c1 1 7 (up S 15 0 j15 y0)
noncomputable def fX0_ageOf_37v1 (c1 : Nat) (x2 : Int32) (c3 : Nat) (y0 : Int32) (y1 : Int32) (S : Mem) : Option (Int32 × Mem) :=
  (ix y1 9).bind fun j13 =>
    fX0_ageOf_105v1 c1 x2 c3 ((up (up (up (up (up S 15 0 j13 y0) 15 0 2 (x2 - ((up S 15 0 j13 y0) 5 c1 6))) 15 0 3 ((x2 - ((up (up S 15 0 j13 y0) 15 0 2 (x2 - ((up S 15 0 j13 y0) 5 c1 6))) 5 c1 2)) / 365)) 15 0 4 ((up (up (up S 15 0 j13 y0) 15 0 2 (x2 - ((up S 15 0 j13 y0) 5 c1 6))) 15 0 3 ((x2 - ((up (up S 15 0 j13 y0) 15 0 2 (x2 - ((up S 15 0 j13 y0) 5 c1 6))) 5 c1 2)) / 365)) 5 c1 5)) 15 0 5 ((up (up (up (up S 15 0 j13 y0) 15 0 2 (x2 - ((up S 15 0 j13 y0) 5 c1 6))) 15 0 3 ((x2 - ((up (up S 15 0 j13 y0) 15 0 2 (x2 - ((up S 15 0 j13 y0) 5 c1 6))) 5 c1 2)) / 365)) 15 0 4 ((up (up (up S 15 0 j13 y0) 15 0 2 (x2 - ((up S 15 0 j13 y0) 5 c1 6))) 15 0 3 ((x2 - ((up (up S 15 0 j13 y0) 15 0 2 (x2 - ((up S 15 0 j13 y0) 5 c1 6))) 5 c1 2)) / 365)) 5 c1 5)) 5 c1 1)) 6 c3 3) 6 (up (up (up (up (up S 15 0 j13 y0) 15 0 2 (x2 - ((up S 15 0 j13 y0) 5 c1 6))) 15 0 3 ((x2 - ((up (up S 15 0 j13 y0) 15 0 2 (x2 - ((up S 15 0 j13 y0) 5 c1 6))) 5 c1 2)) / 365)) 15 0 4 ((up (up (up S 15 0 j13 y0) 15 0 2 (x2 - ((up S 15 0 j13 y0) 5 c1 6))) 15 0 3 ((x2 - ((up (up S 15 0 j13 y0) 15 0 2 (x2 - ((up S 15 0 j13 y0) 5 c1 6))) 5 c1 2)) / 365)) 5 c1 5)) 15 0 5 ((up (up (up (up S 15 0 j13 y0) 15 0 2 (x2 - ((up S 15 0 j13 y0) 5 c1 6))) 15 0 3 ((x2 - ((up (up S 15 0 j13 y0) 15 0 2 (x2 - ((up S 15 0 j13 y0) 5 c1 6))) 5 c1 2)) / 365)) 15 0 4 ((up (up (up S 15 0 j13 y0) 15 0 2 (x2 - ((up S 15 0 j13 y0) 5 c1 6))) 15 0 3 ((x2 - ((up (up S 15 0 j13 y0) 15 0 2 (x2 - ((up S 15 0 j13 y0) 5 c1 6))) 5 c1 2)) / 365)) 5 c1 5)) 5 c1 1))
noncomputable def fX0_ageOf (b0 : Nat) (p1 : Int32) (S : Mem) : Option (Int32 × Mem) :=
  (fX0_readerAt (S 5 b0 3) S).bind fun r2 =>
    mt (r2)
      (
        fX0_ageOf_37 b0 p1 0 1 (up S 15 0 0 (S 5 b0 4)))
      fun i3 =>
        fX0_ageOf_37v1 b0 p1 i3 (fX6_yearsOn i3 p1 (up S 15 0 0 (S 5 b0 4))) 1 (up S 15 0 0 (S 5 b0 4))
noncomputable def fX1_hasRoom (S : Mem) : Int32 :=
  if 120 ≤ (S 1 0 1) then
    0
  else
    1
theorem zX1_hasRoom (S : Mem) : (fX1_hasRoom S) = 0 ∨ (fX1_hasRoom S) = 1 := by
  unfold fX1_hasRoom
  (repeat' split) <;> first | exact Or.inl rfl | exact Or.inr rfl
noncomputable def fX5_copyFrom (a0 : Nat) (b0 : Nat) (S : Mem) : Mem :=
  (up (up (up (up (up (up (up (up S 5 a0 0 (S 5 b0 0)) 5 a0 1 ((up S 5 a0 0 (S 5 b0 0)) 5 b0 1)) 5 a0 2 ((up (up S 5 a0 0 (S 5 b0 0)) 5 a0 1 ((up S 5 a0 0 (S 5 b0 0)) 5 b0 1)) 5 b0 2)) 5 a0 3 ((up (up (up S 5 a0 0 (S 5 b0 0)) 5 a0 1 ((up S 5 a0 0 (S 5 b0 0)) 5 b0 1)) 5 a0 2 ((up (up S 5 a0 0 (S 5 b0 0)) 5 a0 1 ((up S 5 a0 0 (S 5 b0 0)) 5 b0 1)) 5 b0 2)) 5 b0 3)) 5 a0 4 ((up (up (up (up S 5 a0 0 (S 5 b0 0)) 5 a0 1 ((up S 5 a0 0 (S 5 b0 0)) 5 b0 1)) 5 a0 2 ((up (up S 5 a0 0 (S 5 b0 0)) 5 a0 1 ((up S 5 a0 0 (S 5 b0 0)) 5 b0 1)) 5 b0 2)) 5 a0 3 ((up (up (up S 5 a0 0 (S 5 b0 0)) 5 a0 1 ((up S 5 a0 0 (S 5 b0 0)) 5 b0 1)) 5 a0 2 ((up (up S 5 a0 0 (S 5 b0 0)) 5 a0 1 ((up S 5 a0 0 (S 5 b0 0)) 5 b0 1)) 5 b0 2)) 5 b0 3)) 5 b0 4)) 5 a0 5 ((up (up (up (up (up S 5 a0 0 (S 5 b0 0)) 5 a0 1 ((up S 5 a0 0 (S 5 b0 0)) 5 b0 1)) 5 a0 2 ((up (up S 5 a0 0 (S 5 b0 0)) 5 a0 1 ((up S 5 a0 0 (S 5 b0 0)) 5 b0 1)) 5 b0 2)) 5 a0 3 ((up (up (up S 5 a0 0 (S 5 b0 0)) 5 a0 1 ((up S 5 a0 0 (S 5 b0 0)) 5 b0 1)) 5 a0 2 ((up (up S 5 a0 0 (S 5 b0 0)) 5 a0 1 ((up S 5 a0 0 (S 5 b0 0)) 5 b0 1)) 5 b0 2)) 5 b0 3)) 5 a0 4 ((up (up (up (up S 5 a0 0 (S 5 b0 0)) 5 a0 1 ((up S 5 a0 0 (S 5 b0 0)) 5 b0 1)) 5 a0 2 ((up (up S 5 a0 0 (S 5 b0 0)) 5 a0 1 ((up S 5 a0 0 (S 5 b0 0)) 5 b0 1)) 5 b0 2)) 5 a0 3 ((up (up (up S 5 a0 0 (S 5 b0 0)) 5 a0 1 ((up S 5 a0 0 (S 5 b0 0)) 5 b0 1)) 5 a0 2 ((up (up S 5 a0 0 (S 5 b0 0)) 5 a0 1 ((up S 5 a0 0 (S 5 b0 0)) 5 b0 1)) 5 b0 2)) 5 b0 3)) 5 b0 4)) 5 b0 5)) 5 a0 6 ((up (up (up (up (up (up S 5 a0 0 (S 5 b0 0)) 5 a0 1 ((up S 5 a0 0 (S 5 b0 0)) 5 b0 1)) 5 a0 2 ((up (up S 5 a0 0 (S 5 b0 0)) 5 a0 1 ((up S 5 a0 0 (S 5 b0 0)) 5 b0 1)) 5 b0 2)) 5 a0 3 ((up (up (up S 5 a0 0 (S 5 b0 0)) 5 a0 1 ((up S 5 a0 0 (S 5 b0 0)) 5 b0 1)) 5 a0 2 ((up (up S 5 a0 0 (S 5 b0 0)) 5 a0 1 ((up S 5 a0 0 (S 5 b0 0)) 5 b0 1)) 5 b0 2)) 5 b0 3)) 5 a0 4 ((up (up (up (up S 5 a0 0 (S 5 b0 0)) 5 a0 1 ((up S 5 a0 0 (S 5 b0 0)) 5 b0 1)) 5 a0 2 ((up (up S 5 a0 0 (S 5 b0 0)) 5 a0 1 ((up S 5 a0 0 (S 5 b0 0)) 5 b0 1)) 5 b0 2)) 5 a0 3 ((up (up (up S 5 a0 0 (S 5 b0 0)) 5 a0 1 ((up S 5 a0 0 (S 5 b0 0)) 5 b0 1)) 5 a0 2 ((up (up S 5 a0 0 (S 5 b0 0)) 5 a0 1 ((up S 5 a0 0 (S 5 b0 0)) 5 b0 1)) 5 b0 2)) 5 b0 3)) 5 b0 4)) 5 a0 5 ((up (up (up (up (up S 5 a0 0 (S 5 b0 0)) 5 a0 1 ((up S 5 a0 0 (S 5 b0 0)) 5 b0 1)) 5 a0 2 ((up (up S 5 a0 0 (S 5 b0 0)) 5 a0 1 ((up S 5 a0 0 (S 5 b0 0)) 5 b0 1)) 5 b0 2)) 5 a0 3 ((up (up (up S 5 a0 0 (S 5 b0 0)) 5 a0 1 ((up S 5 a0 0 (S 5 b0 0)) 5 b0 1)) 5 a0 2 ((up (up S 5 a0 0 (S 5 b0 0)) 5 a0 1 ((up S 5 a0 0 (S 5 b0 0)) 5 b0 1)) 5 b0 2)) 5 b0 3)) 5 a0 4 ((up (up (up (up S 5 a0 0 (S 5 b0 0)) 5 a0 1 ((up S 5 a0 0 (S 5 b0 0)) 5 b0 1)) 5 a0 2 ((up (up S 5 a0 0 (S 5 b0 0)) 5 a0 1 ((up S 5 a0 0 (S 5 b0 0)) 5 b0 1)) 5 b0 2)) 5 a0 3 ((up (up (up S 5 a0 0 (S 5 b0 0)) 5 a0 1 ((up S 5 a0 0 (S 5 b0 0)) 5 b0 1)) 5 a0 2 ((up (up S 5 a0 0 (S 5 b0 0)) 5 a0 1 ((up S 5 a0 0 (S 5 b0 0)) 5 b0 1)) 5 b0 2)) 5 b0 3)) 5 b0 4)) 5 b0 5)) 5 b0 6)) 5 a0 7 ((up (up (up (up (up (up (up S 5 a0 0 (S 5 b0 0)) 5 a0 1 ((up S 5 a0 0 (S 5 b0 0)) 5 b0 1)) 5 a0 2 ((up (up S 5 a0 0 (S 5 b0 0)) 5 a0 1 ((up S 5 a0 0 (S 5 b0 0)) 5 b0 1)) 5 b0 2)) 5 a0 3 ((up (up (up S 5 a0 0 (S 5 b0 0)) 5 a0 1 ((up S 5 a0 0 (S 5 b0 0)) 5 b0 1)) 5 a0 2 ((up (up S 5 a0 0 (S 5 b0 0)) 5 a0 1 ((up S 5 a0 0 (S 5 b0 0)) 5 b0 1)) 5 b0 2)) 5 b0 3)) 5 a0 4 ((up (up (up (up S 5 a0 0 (S 5 b0 0)) 5 a0 1 ((up S 5 a0 0 (S 5 b0 0)) 5 b0 1)) 5 a0 2 ((up (up S 5 a0 0 (S 5 b0 0)) 5 a0 1 ((up S 5 a0 0 (S 5 b0 0)) 5 b0 1)) 5 b0 2)) 5 a0 3 ((up (up (up S 5 a0 0 (S 5 b0 0)) 5 a0 1 ((up S 5 a0 0 (S 5 b0 0)) 5 b0 1)) 5 a0 2 ((up (up S 5 a0 0 (S 5 b0 0)) 5 a0 1 ((up S 5 a0 0 (S 5 b0 0)) 5 b0 1)) 5 b0 2)) 5 b0 3)) 5 b0 4)) 5 a0 5 ((up (up (up (up (up S 5 a0 0 (S 5 b0 0)) 5 a0 1 ((up S 5 a0 0 (S 5 b0 0)) 5 b0 1)) 5 a0 2 ((up (up S 5 a0 0 (S 5 b0 0)) 5 a0 1 ((up S 5 a0 0 (S 5 b0 0)) 5 b0 1)) 5 b0 2)) 5 a0 3 ((up (up (up S 5 a0 0 (S 5 b0 0)) 5 a0 1 ((up S 5 a0 0 (S 5 b0 0)) 5 b0 1)) 5 a0 2 ((up (up S 5 a0 0 (S 5 b0 0)) 5 a0 1 ((up S 5 a0 0 (S 5 b0 0)) 5 b0 1)) 5 b0 2)) 5 b0 3)) 5 a0 4 ((up (up (up (up S 5 a0 0 (S 5 b0 0)) 5 a0 1 ((up S 5 a0 0 (S 5 b0 0)) 5 b0 1)) 5 a0 2 ((up (up S 5 a0 0 (S 5 b0 0)) 5 a0 1 ((up S 5 a0 0 (S 5 b0 0)) 5 b0 1)) 5 b0 2)) 5 a0 3 ((up (up (up S 5 a0 0 (S 5 b0 0)) 5 a0 1 ((up S 5 a0 0 (S 5 b0 0)) 5 b0 1)) 5 a0 2 ((up (up S 5 a0 0 (S 5 b0 0)) 5 a0 1 ((up S 5 a0 0 (S 5 b0 0)) 5 b0 1)) 5 b0 2)) 5 b0 3)) 5 b0 4)) 5 b0 5)) 5 a0 6 ((up (up (up (up (up (up S 5 a0 0 (S 5 b0 0)) 5 a0 1 ((up S 5 a0 0 (S 5 b0 0)) 5 b0 1)) 5 a0 2 ((up (up S 5 a0 0 (S 5 b0 0)) 5 a0 1 ((up S 5 a0 0 (S 5 b0 0)) 5 b0 1)) 5 b0 2)) 5 a0 3 ((up (up (up S 5 a0 0 (S 5 b0 0)) 5 a0 1 ((up S 5 a0 0 (S 5 b0 0)) 5 b0 1)) 5 a0 2 ((up (up S 5 a0 0 (S 5 b0 0)) 5 a0 1 ((up S 5 a0 0 (S 5 b0 0)) 5 b0 1)) 5 b0 2)) 5 b0 3)) 5 a0 4 ((up (up (up (up S 5 a0 0 (S 5 b0 0)) 5 a0 1 ((up S 5 a0 0 (S 5 b0 0)) 5 b0 1)) 5 a0 2 ((up (up S 5 a0 0 (S 5 b0 0)) 5 a0 1 ((up S 5 a0 0 (S 5 b0 0)) 5 b0 1)) 5 b0 2)) 5 a0 3 ((up (up (up S 5 a0 0 (S 5 b0 0)) 5 a0 1 ((up S 5 a0 0 (S 5 b0 0)) 5 b0 1)) 5 a0 2 ((up (up S 5 a0 0 (S 5 b0 0)) 5 a0 1 ((up S 5 a0 0 (S 5 b0 0)) 5 b0 1)) 5 b0 2)) 5 b0 3)) 5 b0 4)) 5 a0 5 ((up (up (up (up (up S 5 a0 0 (S 5 b0 0)) 5 a0 1 ((up S 5 a0 0 (S 5 b0 0)) 5 b0 1)) 5 a0 2 ((up (up S 5 a0 0 (S 5 b0 0)) 5 a0 1 ((up S 5 a0 0 (S 5 b0 0)) 5 b0 1)) 5 b0 2)) 5 a0 3 ((up (up (up S 5 a0 0 (S 5 b0 0)) 5 a0 1 ((up S 5 a0 0 (S 5 b0 0)) 5 b0 1)) 5 a0 2 ((up (up S 5 a0 0 (S 5 b0 0)) 5 a0 1 ((up S 5 a0 0 (S 5 b0 0)) 5 b0 1)) 5 b0 2)) 5 b0 3)) 5 a0 4 ((up (up (up (up S 5 a0 0 (S 5 b0 0)) 5 a0 1 ((up S 5 a0 0 (S 5 b0 0)) 5 b0 1)) 5 a0 2 ((up (up S 5 a0 0 (S 5 b0 0)) 5 a0 1 ((up S 5 a0 0 (S 5 b0 0)) 5 b0 1)) 5 b0 2)) 5 a0 3 ((up (up (up S 5 a0 0 (S 5 b0 0)) 5 a0 1 ((up S 5 a0 0 (S 5 b0 0)) 5 b0 1)) 5 a0 2 ((up (up S 5 a0 0 (S 5 b0 0)) 5 a0 1 ((up S 5 a0 0 (S 5 b0 0)) 5 b0 1)) 5 b0 2)) 5 b0 3)) 5 b0 4)) 5 b0 5)) 5 b0 6)) 5 b0 7))
noncomputable def fX10_keep (b0 : Nat) (p1 : Int32) (S : Mem) : Option (Mem) :=
  (ix ((up S 10 0 2 (((S 10 0 2) + 1) - ((S 10 0 2) + 1) / 10 * 10)) 10 0 2) 10).bind fun j1 =>
    (ix ((fX5_copyFrom (25 + j1) b0 (up S 10 0 2 (((S 10 0 2) + 1) - ((S 10 0 2) + 1) / 10 * 10))) 10 0 2) 10).bind fun j3 =>
      some (up (up (fX5_copyFrom (25 + j1) b0 (up S 10 0 2 (((S 10 0 2) + 1) - ((S 10 0 2) + 1) / 10 * 10))) 30 0 j3 (vp_nar .boolean p1)) 10 0 3 (if (((up (fX5_copyFrom (25 + j1) b0 (up S 10 0 2 (((S 10 0 2) + 1) - ((S 10 0 2) + 1) / 10 * 10))) 30 0 j3 (vp_nar .boolean p1)) 10 0 3) + 1) < 10 then (((up (fX5_copyFrom (25 + j1) b0 (up S 10 0 2 (((S 10 0 2) + 1) - ((S 10 0 2) + 1) / 10 * 10))) 30 0 j3 (vp_nar .boolean p1)) 10 0 3) + 1) else 10))
noncomputable def fX5_takeReading (a0 : Nat) (p0 : Int32) (p1 : Int32) (p2 : Int32) (S : Mem) : Mem :=
  (up (up (up (up S 5 a0 3 p0) 5 a0 4 p1) 5 a0 5 (((up (up S 5 a0 3 p0) 5 a0 4 p1) 5 a0 5) + 1)) 5 a0 6 p2)
noncomputable def fX1_write (p0 : Int32) (p1 : Int32) (p2 : Int32) (p3 : Int32) (p4 : Int32) (S : Mem) : Option (Mem) :=
  if (fX1_hasRoom S) = 0 then
    some S
  else
    (ix ((S 1 0 1) * 5) 600).bind fun j2 =>
      (ix (((S 1 0 1) * 5) + 1) 600).bind fun j4 =>
        (ix (((S 1 0 1) * 5) + 2) 600).bind fun j6 =>
          (ix (((S 1 0 1) * 5) + 3) 600).bind fun j8 =>
            (ix (((S 1 0 1) * 5) + 4) 600).bind fun j10 =>
              some (up (up (up (up (up (up S 16 0 j2 p0) 16 0 j4 p1) 16 0 j6 p2) 16 0 j8 p3) 16 0 j10 p4) 1 0 1 (((up (up (up (up (up S 16 0 j2 p0) 16 0 j4 p1) 16 0 j6 p2) 16 0 j8 p3) 16 0 j10 p4) 1 0 1) + 1))
noncomputable def fX11_read (p0 : Int32) (p1 : Int32) (S : Mem) : Option (Int32 × Mem) :=
  (fX0_paperAt p0 S).bind fun r2 =>
    mt (r2)
      (
        (fX0_readerAt p1 S).bind fun r5 =>
          mt (r5)
            (
              some ((-1), S))
            fun i6 =>
              some ((-1), S))
      fun i3 =>
        (fX0_readerAt p1 S).bind fun r8 =>
          mt (r8)
            (
              some ((-1), S))
            fun i9 =>
              if (fX6_livesOn i9 (S 0 0 8) S) = 0 then
                some ((-1), S)
              else
                bd (fX0_ageOf i3 (S 0 0 8) S) fun r13 S12 =>
                  (fX10_keep i3 (fX1_hasRoom S12) S12).bind fun S15 =>
                    bd (fX0_ageOf i3 (S 0 0 8) (fX5_takeReading i3 p1 (fX6_yearsOn i9 (S 0 0 8) S15) (S 0 0 8) S15)) fun r18 S17 =>
                      (fX1_write p0 p1 (S 0 0 8) r13 r18 S17).bind fun S20 =>
                        some (r18, S20)
noncomputable def fX11_lease_49 (x2 : Int32) (y0 : Int32) (S : Mem) : Option (Int32 × Mem) :=
  some (0, S)
noncomputable def fX11_lease_44 (x2 : Int32) (S : Mem) : Option (Int32 × Mem) :=
  fX11_lease_49 x2 1 S
noncomputable def fX11_lease_48 (x2 : Int32) (S : Mem) : Option (Int32 × Mem) :=
  fX11_lease_49 x2 0 S
noncomputable def fX11_lease_49v1 (x2 : Int32) (c3 : Nat) (y0 : Int32) (S : Mem) : Option (Int32 × Mem) :=
  if y0 = 0 then
    some (0, S)
  else
    some (1, (up (fX10_forget S) 5 c3 7 x2))
noncomputable def fX11_lease_44v1 (x2 : Int32) (c3 : Nat) (S : Mem) : Option (Int32 × Mem) :=
  fX11_lease_49v1 x2 c3 1 S
noncomputable def fX11_lease_48v1 (x2 : Int32) (c3 : Nat) (S : Mem) : Option (Int32 × Mem) :=
  fX11_lease_49v1 x2 c3 0 S
noncomputable def fX11_lease (p0 : Int32) (p1 : Int32) (S : Mem) : Option (Int32 × Mem) :=
  (fX0_paperAt p0 S).bind fun r2 =>
    mt (r2)
      (
        (fX0_readerAt p1 S).bind fun r5 =>
          mt (r5)
            (
              if p1 = (-1) then
                fX11_lease_44 p1 S
              else
                fX11_lease_48 p1 S)
            fun i6 =>
              if p1 = (-1) then
                fX11_lease_44 p1 S
              else
                if (fX6_livesOn i6 (S 0 0 8) S) = 0 then
                  fX11_lease_48 p1 S
                else
                  fX11_lease_44 p1 S)
      fun i3 =>
        (fX0_readerAt p1 S).bind fun r11 =>
          mt (r11)
            (
              if p1 = (-1) then
                fX11_lease_44v1 p1 i3 S
              else
                fX11_lease_48v1 p1 i3 S)
            fun i12 =>
              if p1 = (-1) then
                fX11_lease_44v1 p1 i3 S
              else
                if (fX6_livesOn i12 (S 0 0 8) S) = 0 then
                  fX11_lease_48v1 p1 i3 S
                else
                  fX11_lease_44v1 p1 i3 S
noncomputable def fX0_drawTenThousandth (S : Mem) : Int32 × Mem :=
  (((ushr ((up S 0 0 9 ((1664525 * (S 0 0 9)) + 1013904223)) 0 0 9) 8) - (ushr ((up S 0 0 9 ((1664525 * (S 0 0 9)) + 1013904223)) 0 0 9) 8) / 10000 * 10000), (up S 0 0 9 ((1664525 * (S 0 0 9)) + 1013904223)))
noncomputable def fX0_drawDeaths_4 : Nat → Int32 → Int32 → Mem → Option (Int32 × Mem)
  | 0, _, _, _ => none
  | n + 1, x1, x2, S =>
    if (S 0 0 6) ≤ x2 then
      some (x1, S)
    else
      (ix x2 12).bind fun j2 =>
        if (fX6_livesOn j2 (S 0 0 8) S) = 0 then
          fX0_drawDeaths_4 n x1 (x2 + 1) S
        else
          if (S 6 j2 4) ≤ 0 then
            fX0_drawDeaths_4 n x1 (x2 + 1) S
          else
            if ((fX0_drawTenThousandth S).2 6 j2 4) ≤ (fX0_drawTenThousandth S).1 then
              fX0_drawDeaths_4 n x1 (x2 + 1) ((fX0_drawTenThousandth S).2)
            else
              fX0_drawDeaths_4 n (x1 + 1) (x2 + 1) (up (fX0_drawTenThousandth S).2 6 j2 1 ((fX0_drawTenThousandth S).2 0 0 8))
noncomputable def fX0_drawDeaths (S : Mem) : Option (Int32 × Mem) :=
  fX0_drawDeaths_4 5000 0 0 S
noncomputable def fX0_leasesOf_4 : Nat → Int32 → Int32 → Int32 → Mem → Option (Int32)
  | 0, _, _, _, _ => none
  | n + 1, x1, x2, x3, S =>
    if (S 0 0 7) ≤ x3 then
      some x2
    else
      (ix x3 12).bind fun j2 =>
        if (S 5 j2 7) = x1 then
          fX0_leasesOf_4 n x1 (x2 + 1) (x3 + 1) S
        else
          fX0_leasesOf_4 n x1 x2 (x3 + 1) S
noncomputable def fX0_leasesOf (p0 : Int32) (S : Mem) : Option (Int32) :=
  fX0_leasesOf_4 5000 p0 0 0 S
noncomputable def fX0_nextForLease_6 : Nat → Int32 → Int32 → Int32 → Mem → Option (Int32)
  | 0, _, _, _, _ => none
  | n + 1, x1, x2, x3, S =>
    if (S 0 0 6) ≤ x3 then
      some x1
    else
      (ix x3 12).bind fun j2 =>
        if (fX6_livesOn j2 (S 0 0 8) S) = 0 then
          fX0_nextForLease_6 n x1 x2 (x3 + 1) S
        else
          if (fX6_yearsOn j2 (S 0 0 8) S) ≤ x2 then
            fX0_nextForLease_6 n x1 x2 (x3 + 1) S
          else
            (fX0_leasesOf x3 S).bind fun r7 =>
              if r7 = 0 then
                fX0_nextForLease_6 n x3 (fX6_yearsOn j2 (S 0 0 8) S) (x3 + 1) S
              else
                fX0_nextForLease_6 n x1 x2 (x3 + 1) S
noncomputable def fX0_nextForLease (S : Mem) : Option (Int32) :=
  fX0_nextForLease_6 5000 (-1) (-1) 0 S
noncomputable def fX0_passLeases_2 : Nat → Int32 → Mem → Option (Mem)
  | 0, _, _ => none
  | n + 1, x1, S =>
    if (S 0 0 7) ≤ x1 then
      some S
    else
      (ix x1 12).bind fun j2 =>
        (fX0_readerAt (S 5 j2 7) S).bind fun r5 =>
          mt (r5)
            (
              fX0_passLeases_2 n (x1 + 1) S)
            fun i6 =>
              if (fX6_livesOn i6 (S 0 0 8) S) = 0 then
                (fX0_nextForLease S).bind fun r9 =>
                  fX0_passLeases_2 n (x1 + 1) (up S 5 j2 7 r9)
              else
                fX0_passLeases_2 n (x1 + 1) S
noncomputable def fX0_passLeases (S : Mem) : Option (Mem) :=
  fX0_passLeases_2 5000 0 S
noncomputable def fX0_endDay (S : Mem) : Option (Int32 × Mem) :=
  bd (fX0_drawDeaths (up S 0 0 8 ((S 0 0 8) + 1))) fun r3 S2 =>
    (fX0_passLeases (up S2 0 0 10 ((S2 0 0 10) + r3))).bind fun S5 =>
      some (r3, S5)
noncomputable def fX11_days_39 : Nat → Int32 → Int32 → Int32 → Mem → Option (Int32 × Mem)
  | 0, _, _, _, _ => none
  | n + 1, x1, x2, x3, S =>
    if x1 ≤ x3 then
      some (x2, S)
    else
      bd (fX0_endDay S) fun r6 S5 =>
        fX11_days_39 n x1 (x2 + r6) (x3 + 1) S5
noncomputable def fX11_days (p0 : Int32) (S : Mem) : Option (Int32 × Mem) :=
  if (fX11_within p0 1 400) = 0 then
    some ((-1), S)
  else
    if ((S 0 0 8) + p0) ≤ 9999 then
      fX11_days_39 5000 p0 0 0 (fX10_forget S)
    else
      some ((-1), S)
noncomputable def fX7_hasRoom (p0 : Int32) (S : Mem) : Int32 :=
  if 400 < ((S 7 0 1) + p0) then
    0
  else
    1
theorem zX7_hasRoom (p0 : Int32) (S : Mem) : (fX7_hasRoom p0 S) = 0 ∨ (fX7_hasRoom p0 S) = 1 := by
  unfold fX7_hasRoom
  (repeat' split) <;> first | exact Or.inl rfl | exact Or.inr rfl
noncomputable def fX7_put (p0 : Int32) (S : Mem) : Option (Mem) :=
  if (fX7_hasRoom 4 S) = 0 then
    some S
  else
    (ix (S 7 0 1) 400).bind fun j2 =>
      (ix (((up S 27 0 j2 (vp_nar .byte (p0 >>> (24 &&& 31)).toInt8.toInt32)) 7 0 1) + 1) 400).bind fun j4 =>
        (ix (((up (up S 27 0 j2 (vp_nar .byte (p0 >>> (24 &&& 31)).toInt8.toInt32)) 27 0 j4 (vp_nar .byte (p0 >>> (16 &&& 31)).toInt8.toInt32)) 7 0 1) + 2) 400).bind fun j6 =>
          (ix (((up (up (up S 27 0 j2 (vp_nar .byte (p0 >>> (24 &&& 31)).toInt8.toInt32)) 27 0 j4 (vp_nar .byte (p0 >>> (16 &&& 31)).toInt8.toInt32)) 27 0 j6 (vp_nar .byte (p0 >>> (8 &&& 31)).toInt8.toInt32)) 7 0 1) + 3) 400).bind fun j8 =>
            some (up (up (up (up (up S 27 0 j2 (vp_nar .byte (p0 >>> (24 &&& 31)).toInt8.toInt32)) 27 0 j4 (vp_nar .byte (p0 >>> (16 &&& 31)).toInt8.toInt32)) 27 0 j6 (vp_nar .byte (p0 >>> (8 &&& 31)).toInt8.toInt32)) 27 0 j8 (vp_nar .byte p0.toInt8.toInt32)) 7 0 1 (((up (up (up (up S 27 0 j2 (vp_nar .byte (p0 >>> (24 &&& 31)).toInt8.toInt32)) 27 0 j4 (vp_nar .byte (p0 >>> (16 &&& 31)).toInt8.toInt32)) 27 0 j6 (vp_nar .byte (p0 >>> (8 &&& 31)).toInt8.toInt32)) 27 0 j8 (vp_nar .byte p0.toInt8.toInt32)) 7 0 1) + 4))
noncomputable def fX11_feed (p0 : Int32) (p1 : Int32) (p2 : Int32) (p3 : Int32) (p4 : Int32) (S : Mem) : Option (Int32 × Mem) :=
  if (fX7_hasRoom 20 S) = 0 then
    some ((-1), S)
  else
    (fX7_put p0 S).bind fun S3 =>
      (fX7_put p1 S3).bind fun S5 =>
        (fX7_put p2 S5).bind fun S7 =>
          (fX7_put p3 S7).bind fun S9 =>
            (fX7_put p4 S9).bind fun S11 =>
              some ((S11 7 0 1), S11)
noncomputable def fX11_end (p0 : Int32) (S : Mem) : Int32 × Mem :=
  if (fX11_within p0 0 (S 7 0 1)) = 0 then
    (0, S)
  else
    (1, (up S 7 0 1 p0))
theorem zX11_end (p0 : Int32) (S : Mem) : (fX11_end p0 S).1 = 0 ∨ (fX11_end p0 S).1 = 1 := by
  unfold fX11_end
  (repeat' split) <;> first | exact Or.inl rfl | exact Or.inr rfl | exact zX11_within _ _ _ 
noncomputable def fX3_clear (S : Mem) : Mem :=
  (up (up S 3 2 5 0) 3 2 6 0)
noncomputable def fX9_begin (S : Mem) : Mem :=
  (up S 9 0 1 0)
noncomputable def fX4_begin (S : Mem) : Mem :=
  (up (up (up (up (up (up (fX9_begin (fX3_clear S)) 4 0 3 0) 4 0 4 0) 4 0 5 0) 4 0 6 0) 4 0 7 0) 4 0 8 (-1))
noncomputable def fX7_signAt (p0 : Int32) (S : Mem) : Option (Int32) :=
  if (fX11_within p0 0 ((S 7 0 1) - 1)) = 0 then
    some (-1)
  else
    (ix p0 400).bind fun j2 =>
      some ((S 27 0 j2) &&& 255)
noncomputable def fX9_isLetter (p0 : Int32) : Int32 :=
  if (fX11_within p0 97 122) = 0 then
    if (fX11_within p0 65 90) = 0 then
      0
    else
      1
  else
    1
theorem zX9_isLetter (p0 : Int32) : (fX9_isLetter p0) = 0 ∨ (fX9_isLetter p0) = 1 := by
  unfold fX9_isLetter
  (repeat' split) <;> first | exact Or.inl rfl | exact Or.inr rfl | exact zX11_within _ _ _ 
noncomputable def fX9_isDigit (p0 : Int32) : Int32 :=
  (fX11_within p0 48 57)
theorem zX9_isDigit (p0 : Int32) : (fX9_isDigit p0) = 0 ∨ (fX9_isDigit p0) = 1 := by
  unfold fX9_isDigit
  (repeat' split) <;> first | exact Or.inl rfl | exact Or.inr rfl | exact zX11_within _ _ _ 
noncomputable def fJ0_isLatin1_aae02 (a0 : Nat) : Int32 :=
  1
theorem zJ0_isLatin1_aae02 (a0 : Nat) : (fJ0_isLatin1_aae02 a0) = 0 ∨ (fJ0_isLatin1_aae02 a0) = 1 := by
  unfold fJ0_isLatin1_aae02
  (repeat' split) <;> first | exact Or.inl rfl | exact Or.inr rfl
noncomputable def fJ0_coder_7d493 (a0 : Nat) : Int32 :=
  0
noncomputable def fJ0_length_8abf5 (a0 : Nat) : Int32 :=
  ((Int32.ofNat (sLen.getD a0 0)) >>> (0 &&& 31))
noncomputable def fJ1_canEncode_9a6ad (p0 : Int32) : Int32 :=
  if p0 < 0 then
    0
  else
    if 255 < p0 then
      0
    else
      1
theorem zJ1_canEncode_9a6ad (p0 : Int32) : (fJ1_canEncode_9a6ad p0) = 0 ∨ (fJ1_canEncode_9a6ad p0) = 1 := by
  unfold fJ1_canEncode_9a6ad
  (repeat' split) <;> first | exact Or.inl rfl | exact Or.inr rfl
noncomputable def fJ1_indexOfChar_4cfef_7 : Nat → Nat → Int32 → Int32 → Int32 → Option (Int32)
  | 0, _, _, _, _ => none
  | n + 1, c0, x3, x4, x5 =>
    if x3 ≤ x5 then
      some (-1)
    else
      (ix x5 (sLen.getD c0 0)).bind fun j2 =>
        if ((sByt.getD c0 []).getD j2 0) = x4 then
          some x5
        else
          fJ1_indexOfChar_4cfef_7 n c0 x3 x4 (x5 + 1)
noncomputable def fJ1_indexOfChar_4cfef (b0 : Nat) (p1 : Int32) (p2 : Int32) (p3 : Int32) : Option (Int32) :=
  fJ1_indexOfChar_4cfef_7 5000 b0 p3 p1.toInt8.toInt32 p2
noncomputable def fJ1_indexOf_4cfef (b0 : Nat) (p1 : Int32) (p2 : Int32) (p3 : Int32) : Option (Int32) :=
  if (fJ1_canEncode_9a6ad p1) = 0 then
    some (-1)
  else
    if (if p2 < 0 then 0 else p2) < (if (Int32.ofNat (sLen.getD b0 0)) < p3 then (Int32.ofNat (sLen.getD b0 0)) else p3) then
      (fJ1_indexOfChar_4cfef b0 p1 (if p2 < 0 then 0 else p2) (if (Int32.ofNat (sLen.getD b0 0)) < p3 then (Int32.ofNat (sLen.getD b0 0)) else p3)).bind fun r4 =>
        some r4
    else
      some (-1)
noncomputable def fJ0_indexOf_7cf53 (a0 : Nat) (p0 : Int32) (p1 : Int32) : Option (Int32) :=
  (fJ1_indexOf_4cfef a0 p0 p1 (fJ0_length_8abf5 a0)).bind fun r2 =>
    some r2
noncomputable def fJ0_indexOf_0f7a4 (a0 : Nat) (p0 : Int32) : Option (Int32) :=
  (fJ0_indexOf_7cf53 a0 p0 0).bind fun r2 =>
    some r2
noncomputable def fX9_takeSign_21 (y0 : Int32) (S : Mem) : Option (Mem) :=
  some (up (up S 9 0 2 y0) 9 0 1 (((up S 9 0 2 y0) 9 0 0) + 1))
noncomputable def fX9_takeSign (p0 : Int32) (S : Mem) : Option (Mem) :=
  (fJ0_indexOf_0f7a4 1 (i2c p0)).bind fun r2 =>
    if 0 ≤ r2 then
      fX9_takeSign_21 (17 + r2) S
    else
      fX9_takeSign_21 1 S
noncomputable def fX9_takeNumber_66 (S : Mem) : Option (Mem) :=
  if 4 < ((S 9 0 1) - (S 9 0 0)) then
    some (up S 9 0 2 1)
  else
    some (up S 9 0 2 2)
noncomputable def fX9_takeNumber_5 : Nat → Mem → Option (Mem)
  | 0, _ => none
  | n + 1, S =>
    if (S 7 0 1) ≤ (S 9 0 1) then
      fX9_takeNumber_66 S
    else
      (fX7_signAt (S 9 0 1) S).bind fun r4 =>
        if (fX9_isDigit r4) = 0 then
          fX9_takeNumber_66 S
        else
          (fX7_signAt (S 9 0 1) S).bind fun r7 =>
            fX9_takeNumber_5 n (up (up S 9 0 3 ((((S 9 0 3) * 10) + r7) - 48)) 9 0 1 (((up S 9 0 3 ((((S 9 0 3) * 10) + r7) - 48)) 9 0 1) + 1))
noncomputable def fX9_takeNumber (S : Mem) : Option (Mem) :=
  fX9_takeNumber_5 5000 (up S 9 0 3 0)
noncomputable def fJ3_checkIndex_8e157 (p0 : Int32) (p1 : Int32) : Option (Int32) :=
  if p0 < 0 then
    none
  else
    if p0 < p1 then
      some p0
    else
      none
noncomputable def fJ0_checkIndex_df160 (p0 : Int32) (p1 : Int32) : Option (Unit) :=
  (fJ3_checkIndex_8e157 p0 p1).bind fun r3 =>
    some ()
noncomputable def fJ1_charAt_3b067 (b0 : Nat) (p1 : Int32) : Option (Int32) :=
  (fJ0_checkIndex_df160 p1 (Int32.ofNat (sLen.getD b0 0))).bind fun _ =>
    (ix p1 (sLen.getD b0 0)).bind fun j2 =>
      some (i2c (((sByt.getD b0 []).getD j2 0) &&& 255))
noncomputable def fJ0_charAt_5068e (a0 : Nat) (p0 : Int32) : Option (Int32) :=
  (fJ1_charAt_3b067 a0 p0).bind fun r2 =>
    if narrow .char (.int r2) = .int r2 then
      some r2
    else none
noncomputable def fX9_takeWord_53 : Nat → Int32 → Int32 → Int32 → Int32 → Mem → Option (Mem)
  | 0, _, _, _, _, _ => none
  | n + 1, x2, x3, x4, x5, S =>
    if (fJ0_length_8abf5 0) ≤ x5 then
      some S
    else
      if (S 9 0 2) = 1 then
        (fJ0_charAt_5068e 0 x5).bind fun r5 =>
          if r5 = 32 then
            if x4 = 0 then
              fX9_takeWord_53 n (x2 + 1) 0 1 (x5 + 1) S
            else
              if ((S 9 0 0) + x3) = (S 9 0 1) then
                fX9_takeWord_53 n x2 x3 x4 (x5 + 1) (up S 9 0 2 x2)
              else
                fX9_takeWord_53 n (x2 + 1) 0 1 (x5 + 1) S
          else
            if x4 = 0 then
              fX9_takeWord_53 n x2 (x3 + 1) 0 (x5 + 1) S
            else
              if (S 9 0 1) ≤ ((S 9 0 0) + x3) then
                fX9_takeWord_53 n x2 (x3 + 1) 0 (x5 + 1) S
              else
                (fX7_signAt ((S 9 0 0) + x3) S).bind fun r12 =>
                  if r12 = r5 then
                    fX9_takeWord_53 n x2 (x3 + 1) 1 (x5 + 1) S
                  else
                    fX9_takeWord_53 n x2 (x3 + 1) 0 (x5 + 1) S
      else
        some S
noncomputable def fX9_takeWord_38 (S : Mem) : Option (Mem) :=
  fX9_takeWord_53 5000 3 0 1 0 (up S 9 0 2 1)
noncomputable def fX9_takeWord_0 : Nat → Mem → Option (Mem)
  | 0, _ => none
  | n + 1, S =>
    if (S 7 0 1) ≤ (S 9 0 1) then
      fX9_takeWord_38 S
    else
      (fX7_signAt (S 9 0 1) S).bind fun r15 =>
        if (fX9_isLetter r15) = 0 then
          fX9_takeWord_38 S
        else
          fX9_takeWord_0 n (up S 9 0 1 ((S 9 0 1) + 1))
noncomputable def fX9_takeWord (S : Mem) : Option (Mem) :=
  fX9_takeWord_0 5000 S
noncomputable def fX9_isBlank (p0 : Int32) : Int32 :=
  if p0 = 32 then
    1
  else
    if p0 = 10 then
      1
    else
      0
theorem zX9_isBlank (p0 : Int32) : (fX9_isBlank p0) = 0 ∨ (fX9_isBlank p0) = 1 := by
  unfold fX9_isBlank
  (repeat' split) <;> first | exact Or.inl rfl | exact Or.inr rfl
noncomputable def fX9_advance_46 (S : Mem) : Option (Mem) :=
  (fX7_signAt ((up S 9 0 1 (S 9 0 0)) 9 0 0) (up S 9 0 1 (S 9 0 0))).bind fun r3 =>
    if r3 = (-1) then
      some (up (up S 9 0 1 (S 9 0 0)) 9 0 2 0)
    else
      if (fX9_isLetter r3) = 0 then
        if (fX9_isDigit r3) = 0 then
          (fX9_takeSign r3 (up S 9 0 1 (S 9 0 0))).bind fun S8 =>
            some S8
        else
          (fX9_takeNumber (up S 9 0 1 (S 9 0 0))).bind fun S10 =>
            some S10
      else
        (fX9_takeWord (up S 9 0 1 (S 9 0 0))).bind fun S12 =>
          some S12
noncomputable def fX9_advance_8 : Nat → Mem → Option (Mem)
  | 0, _ => none
  | n + 1, S =>
    if (S 7 0 1) ≤ (S 9 0 0) then
      fX9_advance_46 S
    else
      (fX7_signAt (S 9 0 0) S).bind fun r14 =>
        if (fX9_isBlank r14) = 0 then
          fX9_advance_46 S
        else
          fX9_advance_8 n (up S 9 0 0 ((S 9 0 0) + 1))
noncomputable def fX9_advance (S : Mem) : Option (Mem) :=
  fX9_advance_8 5000 (up S 9 0 0 (S 9 0 1))
noncomputable def fX3_isFull (S : Mem) : Int32 :=
  if (S 3 2 6) < 16 then
    0
  else
    1
theorem zX3_isFull (S : Mem) : (fX3_isFull S) = 0 ∨ (fX3_isFull S) = 1 := by
  unfold fX3_isFull
  (repeat' split) <;> first | exact Or.inl rfl | exact Or.inr rfl
noncomputable def fX3_startLine (S : Mem) : Option (Mem) :=
  if (fX3_isFull S) = 0 then
    (ix (S 3 2 6) 16).bind fun j2 =>
      some (up S 22 2 j2 (S 3 2 5))
  else
    some S
noncomputable def fX4_refuse (p0 : Int32) (S : Mem) : Mem :=
  (up (up (up S 4 0 7 p0) 4 0 8 ((up S 4 0 7 p0) 9 0 0)) 4 0 6 1)
noncomputable def fX4_takeLine (p0 : Int32) (S : Mem) : Option (Mem) :=
  if p0 = 0 then
    some (up S 4 0 6 1)
  else
    if p0 = 3 then
      if (fX3_isFull S) = 0 then
        (fX3_startLine S).bind fun S5 =>
          some (up (up S5 4 0 5 0) 4 0 4 1)
      else
        some (fX4_refuse 3 S)
    else
      some (fX4_refuse 1 S)
noncomputable def fX3_add (p0 : Int32) (S : Mem) : Option (Mem) :=
  if 400 ≤ (S 3 2 5) then
    some S
  else
    (ix (S 3 2 5) 400).bind fun j2 =>
      some (up (up S 21 2 j2 p0) 3 2 5 (((up S 21 2 j2 p0) 3 2 5) + 1))
noncomputable def fX9_isFact (p0 : Int32) : Int32 :=
  (fX11_within p0 8 16)
theorem zX9_isFact (p0 : Int32) : (fX9_isFact p0) = 0 ∨ (fX9_isFact p0) = 1 := by
  unfold fX9_isFact
  (repeat' split) <;> first | exact Or.inl rfl | exact Or.inr rfl | exact zX11_within _ _ _ 
noncomputable def fX3_addFact (p0 : Int32) (S : Mem) : Option (Mem) :=
  (fX3_add ((10000 + p0) - 8) S).bind fun S2 =>
    some S2
noncomputable def fX4_takeUnit (p0 : Int32) (S : Mem) : Option (Mem) :=
  if p0 = 2 then
    (fX3_add ((up S 4 0 4 4) 9 0 3) (up S 4 0 4 4)).bind fun S3 =>
      some S3
  else
    if (fX9_isFact p0) = 0 then
      some (fX4_refuse 1 (up S 4 0 4 4))
    else
      (fX3_addFact p0 (up S 4 0 4 4)).bind fun S6 =>
        some S6
noncomputable def fX4_takeDivisor (p0 : Int32) (S : Mem) : Option (Mem) :=
  if p0 = 2 then
    if (S 9 0 3) = 0 then
      some (fX4_refuse 2 S)
    else
      (fX3_add (S 9 0 3) S).bind fun S4 =>
        some (up S4 4 0 4 4)
  else
    some (fX4_refuse 1 S)
noncomputable def fX4_countWaiting_4 : Nat → Int32 → Int32 → Int32 → Mem → Option (Int32)
  | 0, _, _, _, _ => none
  | n + 1, x1, x2, x3, S =>
    if (S 4 0 3) ≤ x3 then
      some x2
    else
      (ix x3 40).bind fun j2 =>
        if (S 26 0 j2) = x1 then
          fX4_countWaiting_4 n x1 (x2 + 1) (x3 + 1) S
        else
          fX4_countWaiting_4 n x1 x2 (x3 + 1) S
noncomputable def fX4_countWaiting (p0 : Int32) (S : Mem) : Option (Int32) :=
  fX4_countWaiting_4 5000 p0 0 0 S
noncomputable def fX4_putSign (p0 : Int32) (S : Mem) : Option (Mem) :=
  if 40 ≤ (S 4 0 3) then
    some S
  else
    (ix (S 4 0 3) 40).bind fun j2 =>
      some (up (up S 26 0 j2 p0) 4 0 3 (((up S 26 0 j2 p0) 4 0 3) + 1))
noncomputable def fX4_takeTest_25 (x1 : Int32) (S : Mem) : Option (Mem) :=
  (fX4_countWaiting 7 S).bind fun r3 =>
    (fX4_countWaiting 22 S).bind fun r5 =>
      if (r3 + r5) < 8 then
        (fX4_putSign x1 S).bind fun S8 =>
          some S8
      else
        some (fX4_refuse 3 S)
noncomputable def fX4_takeTest (p0 : Int32) (S : Mem) : Option (Mem) :=
  if p0 = 7 then
    fX4_takeTest_25 p0 S
  else
    if p0 = 22 then
      fX4_takeTest_25 p0 S
    else
      (fX4_takeUnit p0 (up S 4 0 5 1)).bind fun S11 =>
        some S11
noncomputable def fX9_isArithmetic (p0 : Int32) : Int32 :=
  (fX11_within p0 18 21)
theorem zX9_isArithmetic (p0 : Int32) : (fX9_isArithmetic p0) = 0 ∨ (fX9_isArithmetic p0) = 1 := by
  unfold fX9_isArithmetic
  (repeat' split) <;> first | exact Or.inl rfl | exact Or.inr rfl | exact zX11_within _ _ _ 
noncomputable def fX9_isComparison (p0 : Int32) : Int32 :=
  (fX11_within p0 24 26)
theorem zX9_isComparison (p0 : Int32) : (fX9_isComparison p0) = 0 ∨ (fX9_isComparison p0) = 1 := by
  unfold fX9_isComparison
  (repeat' split) <;> first | exact Or.inl rfl | exact Or.inr rfl | exact zX11_within _ _ _ 
noncomputable def fX9_bindingOf (p0 : Int32) : Int32 :=
  if p0 = 5 then
    1
  else
    if p0 = 6 then
      2
    else
      if p0 = 7 then
        3
      else
        if p0 = 18 then
          5
        else
          if p0 = 19 then
            5
          else
            if p0 = 20 then
              6
            else
              if p0 = 21 then
                6
              else
                if p0 = 22 then
                  0
                else
                  4
noncomputable def fX4_releaseFrom_0 : Nat → Int32 → Mem → Option (Mem)
  | 0, _, _ => none
  | n + 1, x1, S =>
    if (S 4 0 3) ≤ 0 then
      some S
    else
      (ix ((S 4 0 3) - 1) 40).bind fun j2 =>
        if (fX9_bindingOf (S 26 0 j2)) < x1 then
          some S
        else
          (ix ((up S 4 0 3 ((S 4 0 3) - 1)) 4 0 3) 40).bind fun j5 =>
            (fX3_add (-((up S 4 0 3 ((S 4 0 3) - 1)) 26 0 j5)) (up S 4 0 3 ((S 4 0 3) - 1))).bind fun S8 =>
              fX4_releaseFrom_0 n x1 S8
noncomputable def fX4_releaseFrom (p0 : Int32) (S : Mem) : Option (Mem) :=
  fX4_releaseFrom_0 5000 p0 S
noncomputable def fX3_endAge (S : Mem) : Option (Mem) :=
  if (fX3_isFull S) = 0 then
    (ix (S 3 2 6) 16).bind fun j2 =>
      some (up S 23 2 j2 (S 3 2 5))
  else
    some S
noncomputable def fX4_takeEndOfAge (S : Mem) : Option (Mem) :=
  (fX4_releaseFrom 0 S).bind fun S2 =>
    (fX3_endAge S2).bind fun S4 =>
      some S4
noncomputable def fX3_endLine (S : Mem) : Option (Mem) :=
  if (fX3_isFull S) = 0 then
    (ix (S 3 2 6) 16).bind fun j2 =>
      some (up (up S 24 2 j2 (S 3 2 5)) 3 2 6 (((up S 24 2 j2 (S 3 2 5)) 3 2 6) + 1))
  else
    some S
noncomputable def fX4_takeEndOfLine (S : Mem) : Option (Mem) :=
  (fX4_releaseFrom 0 S).bind fun S2 =>
    (fX3_endLine S2).bind fun S4 =>
      some (up S4 4 0 4 0)
noncomputable def fX4_putBinding (p0 : Int32) (S : Mem) : Option (Mem) :=
  (fX4_releaseFrom (fX9_bindingOf p0) S).bind fun S2 =>
    (fX4_putSign p0 S2).bind fun S4 =>
      some S4
noncomputable def fX4_takeJoint_26 (x1 : Int32) (S : Mem) : Option (Mem) :=
  (fX4_putBinding x1 S).bind fun S6 =>
    some (up S6 4 0 4 3)
noncomputable def fX4_takeJoint_72 (x1 : Int32) (x2 : Int32) (S : Mem) : Option (Mem) :=
  if x1 = 17 then
    if x2 = 0 then
      (fX4_takeEndOfLine S).bind fun S13 =>
        some S13
    else
      some (fX4_refuse 1 S)
  else
    some (fX4_refuse 1 S)
noncomputable def fX4_takeJoint_14 (x1 : Int32) (y0 : Int32) (S : Mem) : Option (Mem) :=
  if x1 = 6 then
    fX4_takeJoint_26 x1 S
  else
    if x1 = 5 then
      fX4_takeJoint_26 x1 S
    else
      if x1 = 23 then
        if y0 = 0 then
          fX4_takeJoint_72 x1 y0 S
        else
          (fX4_releaseFrom 1 S).bind fun S15 =>
            some (up (up S15 4 0 3 ((S15 4 0 3) - 1)) 4 0 4 5)
      else
        fX4_takeJoint_72 x1 y0 S
noncomputable def fX4_takeJoint (p0 : Int32) (S : Mem) : Option (Mem) :=
  (fX4_countWaiting 22 S).bind fun r2 =>
    if r2 ≤ 0 then
      fX4_takeJoint_14 p0 0 S
    else
      fX4_takeJoint_14 p0 1 S
noncomputable def fX4_takeOperator_111 (x1 : Int32) (S : Mem) : Option (Mem) :=
  if (S 4 0 5) = 2 then
    (fX4_takeJoint x1 S).bind fun S16 =>
      some S16
  else
    some (fX4_refuse 1 S)
noncomputable def fX4_takeOperator_87 (x1 : Int32) (S : Mem) : Option (Mem) :=
  if (S 4 0 5) = 0 then
    if x1 = 17 then
      (fX4_takeEndOfAge S).bind fun S11 =>
        (fX4_takeEndOfLine S11).bind fun S13 =>
          some S13
    else
      fX4_takeOperator_111 x1 S
  else
    fX4_takeOperator_111 x1 S
noncomputable def fX4_takeOperator_63 (x1 : Int32) (S : Mem) : Option (Mem) :=
  if (S 4 0 5) = 0 then
    if x1 = 4 then
      (fX4_takeEndOfAge S).bind fun S7 =>
        some (up S7 4 0 4 3)
    else
      fX4_takeOperator_87 x1 S
  else
    fX4_takeOperator_87 x1 S
noncomputable def fX4_takeOperator (p0 : Int32) (S : Mem) : Option (Mem) :=
  if (fX9_isArithmetic p0) = 0 then
    if (S 4 0 5) = 1 then
      if (fX9_isComparison p0) = 0 then
        fX4_takeOperator_63 p0 S
      else
        (fX4_putBinding p0 S).bind fun S18 =>
          some (up (up S18 4 0 5 2) 4 0 4 1)
    else
      fX4_takeOperator_63 p0 S
  else
    (fX4_putBinding p0 S).bind fun S20 =>
      if p0 = 21 then
        some (up S20 4 0 4 2)
      else
        some (up S20 4 0 4 1)
noncomputable def fX4_readAll_155 (S : Mem) : Option (Int32 × Mem) :=
  if (S 4 0 7) = 0 then
    some (1, S)
  else
    some (0, S)
noncomputable def fX4_readAll_6 : Nat → Int32 → Mem → Option (Int32 × Mem)
  | 0, _, _ => none
  | n + 1, x2, S =>
    if 400 < x2 then
      fX4_readAll_155 S
    else
      if (S 4 0 6) = 0 then
        (fX9_advance S).bind fun S5 =>
          if (S5 4 0 4) = 0 then
            (fX4_takeLine (S5 9 0 2) S5).bind fun S8 =>
              fX4_readAll_6 n (x2 + 1) S8
          else
            if (S5 4 0 4) = 1 then
              (fX4_takeUnit (S5 9 0 2) S5).bind fun S11 =>
                fX4_readAll_6 n (x2 + 1) S11
            else
              if (S5 4 0 4) = 2 then
                (fX4_takeDivisor (S5 9 0 2) S5).bind fun S14 =>
                  fX4_readAll_6 n (x2 + 1) S14
              else
                if (S5 4 0 4) = 3 then
                  (fX4_takeTest (S5 9 0 2) S5).bind fun S17 =>
                    fX4_readAll_6 n (x2 + 1) S17
                else
                  if (S5 4 0 4) = 4 then
                    (fX4_takeOperator (S5 9 0 2) S5).bind fun S20 =>
                      fX4_readAll_6 n (x2 + 1) S20
                  else
                    (fX4_takeJoint (S5 9 0 2) S5).bind fun S22 =>
                      fX4_readAll_6 n (x2 + 1) S22
      else
        fX4_readAll_155 S
noncomputable def fX4_readAll (S : Mem) : Option (Int32 × Mem) :=
  fX4_readAll_6 5000 0 (fX4_begin S)
noncomputable def fX3_copyFrom (a0 : Nat) (b0 : Nat) (S : Mem) : Mem :=
  (up (up (upA (upA (upA (upA S 21 a0 (va_cpy (S 21 b0) (S 21 a0) 0 0 400)) 22 a0 (va_cpy ((upA S 21 a0 (va_cpy (S 21 b0) (S 21 a0) 0 0 400)) 22 b0) ((upA S 21 a0 (va_cpy (S 21 b0) (S 21 a0) 0 0 400)) 22 a0) 0 0 16)) 23 a0 (va_cpy ((upA (upA S 21 a0 (va_cpy (S 21 b0) (S 21 a0) 0 0 400)) 22 a0 (va_cpy ((upA S 21 a0 (va_cpy (S 21 b0) (S 21 a0) 0 0 400)) 22 b0) ((upA S 21 a0 (va_cpy (S 21 b0) (S 21 a0) 0 0 400)) 22 a0) 0 0 16)) 23 b0) ((upA (upA S 21 a0 (va_cpy (S 21 b0) (S 21 a0) 0 0 400)) 22 a0 (va_cpy ((upA S 21 a0 (va_cpy (S 21 b0) (S 21 a0) 0 0 400)) 22 b0) ((upA S 21 a0 (va_cpy (S 21 b0) (S 21 a0) 0 0 400)) 22 a0) 0 0 16)) 23 a0) 0 0 16)) 24 a0 (va_cpy ((upA (upA (upA S 21 a0 (va_cpy (S 21 b0) (S 21 a0) 0 0 400)) 22 a0 (va_cpy ((upA S 21 a0 (va_cpy (S 21 b0) (S 21 a0) 0 0 400)) 22 b0) ((upA S 21 a0 (va_cpy (S 21 b0) (S 21 a0) 0 0 400)) 22 a0) 0 0 16)) 23 a0 (va_cpy ((upA (upA S 21 a0 (va_cpy (S 21 b0) (S 21 a0) 0 0 400)) 22 a0 (va_cpy ((upA S 21 a0 (va_cpy (S 21 b0) (S 21 a0) 0 0 400)) 22 b0) ((upA S 21 a0 (va_cpy (S 21 b0) (S 21 a0) 0 0 400)) 22 a0) 0 0 16)) 23 b0) ((upA (upA S 21 a0 (va_cpy (S 21 b0) (S 21 a0) 0 0 400)) 22 a0 (va_cpy ((upA S 21 a0 (va_cpy (S 21 b0) (S 21 a0) 0 0 400)) 22 b0) ((upA S 21 a0 (va_cpy (S 21 b0) (S 21 a0) 0 0 400)) 22 a0) 0 0 16)) 23 a0) 0 0 16)) 24 b0) ((upA (upA (upA S 21 a0 (va_cpy (S 21 b0) (S 21 a0) 0 0 400)) 22 a0 (va_cpy ((upA S 21 a0 (va_cpy (S 21 b0) (S 21 a0) 0 0 400)) 22 b0) ((upA S 21 a0 (va_cpy (S 21 b0) (S 21 a0) 0 0 400)) 22 a0) 0 0 16)) 23 a0 (va_cpy ((upA (upA S 21 a0 (va_cpy (S 21 b0) (S 21 a0) 0 0 400)) 22 a0 (va_cpy ((upA S 21 a0 (va_cpy (S 21 b0) (S 21 a0) 0 0 400)) 22 b0) ((upA S 21 a0 (va_cpy (S 21 b0) (S 21 a0) 0 0 400)) 22 a0) 0 0 16)) 23 b0) ((upA (upA S 21 a0 (va_cpy (S 21 b0) (S 21 a0) 0 0 400)) 22 a0 (va_cpy ((upA S 21 a0 (va_cpy (S 21 b0) (S 21 a0) 0 0 400)) 22 b0) ((upA S 21 a0 (va_cpy (S 21 b0) (S 21 a0) 0 0 400)) 22 a0) 0 0 16)) 23 a0) 0 0 16)) 24 a0) 0 0 16)) 3 a0 5 ((upA (upA (upA (upA S 21 a0 (va_cpy (S 21 b0) (S 21 a0) 0 0 400)) 22 a0 (va_cpy ((upA S 21 a0 (va_cpy (S 21 b0) (S 21 a0) 0 0 400)) 22 b0) ((upA S 21 a0 (va_cpy (S 21 b0) (S 21 a0) 0 0 400)) 22 a0) 0 0 16)) 23 a0 (va_cpy ((upA (upA S 21 a0 (va_cpy (S 21 b0) (S 21 a0) 0 0 400)) 22 a0 (va_cpy ((upA S 21 a0 (va_cpy (S 21 b0) (S 21 a0) 0 0 400)) 22 b0) ((upA S 21 a0 (va_cpy (S 21 b0) (S 21 a0) 0 0 400)) 22 a0) 0 0 16)) 23 b0) ((upA (upA S 21 a0 (va_cpy (S 21 b0) (S 21 a0) 0 0 400)) 22 a0 (va_cpy ((upA S 21 a0 (va_cpy (S 21 b0) (S 21 a0) 0 0 400)) 22 b0) ((upA S 21 a0 (va_cpy (S 21 b0) (S 21 a0) 0 0 400)) 22 a0) 0 0 16)) 23 a0) 0 0 16)) 24 a0 (va_cpy ((upA (upA (upA S 21 a0 (va_cpy (S 21 b0) (S 21 a0) 0 0 400)) 22 a0 (va_cpy ((upA S 21 a0 (va_cpy (S 21 b0) (S 21 a0) 0 0 400)) 22 b0) ((upA S 21 a0 (va_cpy (S 21 b0) (S 21 a0) 0 0 400)) 22 a0) 0 0 16)) 23 a0 (va_cpy ((upA (upA S 21 a0 (va_cpy (S 21 b0) (S 21 a0) 0 0 400)) 22 a0 (va_cpy ((upA S 21 a0 (va_cpy (S 21 b0) (S 21 a0) 0 0 400)) 22 b0) ((upA S 21 a0 (va_cpy (S 21 b0) (S 21 a0) 0 0 400)) 22 a0) 0 0 16)) 23 b0) ((upA (upA S 21 a0 (va_cpy (S 21 b0) (S 21 a0) 0 0 400)) 22 a0 (va_cpy ((upA S 21 a0 (va_cpy (S 21 b0) (S 21 a0) 0 0 400)) 22 b0) ((upA S 21 a0 (va_cpy (S 21 b0) (S 21 a0) 0 0 400)) 22 a0) 0 0 16)) 23 a0) 0 0 16)) 24 b0) ((upA (upA (upA S 21 a0 (va_cpy (S 21 b0) (S 21 a0) 0 0 400)) 22 a0 (va_cpy ((upA S 21 a0 (va_cpy (S 21 b0) (S 21 a0) 0 0 400)) 22 b0) ((upA S 21 a0 (va_cpy (S 21 b0) (S 21 a0) 0 0 400)) 22 a0) 0 0 16)) 23 a0 (va_cpy ((upA (upA S 21 a0 (va_cpy (S 21 b0) (S 21 a0) 0 0 400)) 22 a0 (va_cpy ((upA S 21 a0 (va_cpy (S 21 b0) (S 21 a0) 0 0 400)) 22 b0) ((upA S 21 a0 (va_cpy (S 21 b0) (S 21 a0) 0 0 400)) 22 a0) 0 0 16)) 23 b0) ((upA (upA S 21 a0 (va_cpy (S 21 b0) (S 21 a0) 0 0 400)) 22 a0 (va_cpy ((upA S 21 a0 (va_cpy (S 21 b0) (S 21 a0) 0 0 400)) 22 b0) ((upA S 21 a0 (va_cpy (S 21 b0) (S 21 a0) 0 0 400)) 22 a0) 0 0 16)) 23 a0) 0 0 16)) 24 a0) 0 0 16)) 3 b0 5)) 3 a0 6 ((up (upA (upA (upA (upA S 21 a0 (va_cpy (S 21 b0) (S 21 a0) 0 0 400)) 22 a0 (va_cpy ((upA S 21 a0 (va_cpy (S 21 b0) (S 21 a0) 0 0 400)) 22 b0) ((upA S 21 a0 (va_cpy (S 21 b0) (S 21 a0) 0 0 400)) 22 a0) 0 0 16)) 23 a0 (va_cpy ((upA (upA S 21 a0 (va_cpy (S 21 b0) (S 21 a0) 0 0 400)) 22 a0 (va_cpy ((upA S 21 a0 (va_cpy (S 21 b0) (S 21 a0) 0 0 400)) 22 b0) ((upA S 21 a0 (va_cpy (S 21 b0) (S 21 a0) 0 0 400)) 22 a0) 0 0 16)) 23 b0) ((upA (upA S 21 a0 (va_cpy (S 21 b0) (S 21 a0) 0 0 400)) 22 a0 (va_cpy ((upA S 21 a0 (va_cpy (S 21 b0) (S 21 a0) 0 0 400)) 22 b0) ((upA S 21 a0 (va_cpy (S 21 b0) (S 21 a0) 0 0 400)) 22 a0) 0 0 16)) 23 a0) 0 0 16)) 24 a0 (va_cpy ((upA (upA (upA S 21 a0 (va_cpy (S 21 b0) (S 21 a0) 0 0 400)) 22 a0 (va_cpy ((upA S 21 a0 (va_cpy (S 21 b0) (S 21 a0) 0 0 400)) 22 b0) ((upA S 21 a0 (va_cpy (S 21 b0) (S 21 a0) 0 0 400)) 22 a0) 0 0 16)) 23 a0 (va_cpy ((upA (upA S 21 a0 (va_cpy (S 21 b0) (S 21 a0) 0 0 400)) 22 a0 (va_cpy ((upA S 21 a0 (va_cpy (S 21 b0) (S 21 a0) 0 0 400)) 22 b0) ((upA S 21 a0 (va_cpy (S 21 b0) (S 21 a0) 0 0 400)) 22 a0) 0 0 16)) 23 b0) ((upA (upA S 21 a0 (va_cpy (S 21 b0) (S 21 a0) 0 0 400)) 22 a0 (va_cpy ((upA S 21 a0 (va_cpy (S 21 b0) (S 21 a0) 0 0 400)) 22 b0) ((upA S 21 a0 (va_cpy (S 21 b0) (S 21 a0) 0 0 400)) 22 a0) 0 0 16)) 23 a0) 0 0 16)) 24 b0) ((upA (upA (upA S 21 a0 (va_cpy (S 21 b0) (S 21 a0) 0 0 400)) 22 a0 (va_cpy ((upA S 21 a0 (va_cpy (S 21 b0) (S 21 a0) 0 0 400)) 22 b0) ((upA S 21 a0 (va_cpy (S 21 b0) (S 21 a0) 0 0 400)) 22 a0) 0 0 16)) 23 a0 (va_cpy ((upA (upA S 21 a0 (va_cpy (S 21 b0) (S 21 a0) 0 0 400)) 22 a0 (va_cpy ((upA S 21 a0 (va_cpy (S 21 b0) (S 21 a0) 0 0 400)) 22 b0) ((upA S 21 a0 (va_cpy (S 21 b0) (S 21 a0) 0 0 400)) 22 a0) 0 0 16)) 23 b0) ((upA (upA S 21 a0 (va_cpy (S 21 b0) (S 21 a0) 0 0 400)) 22 a0 (va_cpy ((upA S 21 a0 (va_cpy (S 21 b0) (S 21 a0) 0 0 400)) 22 b0) ((upA S 21 a0 (va_cpy (S 21 b0) (S 21 a0) 0 0 400)) 22 a0) 0 0 16)) 23 a0) 0 0 16)) 24 a0) 0 0 16)) 3 a0 5 ((upA (upA (upA (upA S 21 a0 (va_cpy (S 21 b0) (S 21 a0) 0 0 400)) 22 a0 (va_cpy ((upA S 21 a0 (va_cpy (S 21 b0) (S 21 a0) 0 0 400)) 22 b0) ((upA S 21 a0 (va_cpy (S 21 b0) (S 21 a0) 0 0 400)) 22 a0) 0 0 16)) 23 a0 (va_cpy ((upA (upA S 21 a0 (va_cpy (S 21 b0) (S 21 a0) 0 0 400)) 22 a0 (va_cpy ((upA S 21 a0 (va_cpy (S 21 b0) (S 21 a0) 0 0 400)) 22 b0) ((upA S 21 a0 (va_cpy (S 21 b0) (S 21 a0) 0 0 400)) 22 a0) 0 0 16)) 23 b0) ((upA (upA S 21 a0 (va_cpy (S 21 b0) (S 21 a0) 0 0 400)) 22 a0 (va_cpy ((upA S 21 a0 (va_cpy (S 21 b0) (S 21 a0) 0 0 400)) 22 b0) ((upA S 21 a0 (va_cpy (S 21 b0) (S 21 a0) 0 0 400)) 22 a0) 0 0 16)) 23 a0) 0 0 16)) 24 a0 (va_cpy ((upA (upA (upA S 21 a0 (va_cpy (S 21 b0) (S 21 a0) 0 0 400)) 22 a0 (va_cpy ((upA S 21 a0 (va_cpy (S 21 b0) (S 21 a0) 0 0 400)) 22 b0) ((upA S 21 a0 (va_cpy (S 21 b0) (S 21 a0) 0 0 400)) 22 a0) 0 0 16)) 23 a0 (va_cpy ((upA (upA S 21 a0 (va_cpy (S 21 b0) (S 21 a0) 0 0 400)) 22 a0 (va_cpy ((upA S 21 a0 (va_cpy (S 21 b0) (S 21 a0) 0 0 400)) 22 b0) ((upA S 21 a0 (va_cpy (S 21 b0) (S 21 a0) 0 0 400)) 22 a0) 0 0 16)) 23 b0) ((upA (upA S 21 a0 (va_cpy (S 21 b0) (S 21 a0) 0 0 400)) 22 a0 (va_cpy ((upA S 21 a0 (va_cpy (S 21 b0) (S 21 a0) 0 0 400)) 22 b0) ((upA S 21 a0 (va_cpy (S 21 b0) (S 21 a0) 0 0 400)) 22 a0) 0 0 16)) 23 a0) 0 0 16)) 24 b0) ((upA (upA (upA S 21 a0 (va_cpy (S 21 b0) (S 21 a0) 0 0 400)) 22 a0 (va_cpy ((upA S 21 a0 (va_cpy (S 21 b0) (S 21 a0) 0 0 400)) 22 b0) ((upA S 21 a0 (va_cpy (S 21 b0) (S 21 a0) 0 0 400)) 22 a0) 0 0 16)) 23 a0 (va_cpy ((upA (upA S 21 a0 (va_cpy (S 21 b0) (S 21 a0) 0 0 400)) 22 a0 (va_cpy ((upA S 21 a0 (va_cpy (S 21 b0) (S 21 a0) 0 0 400)) 22 b0) ((upA S 21 a0 (va_cpy (S 21 b0) (S 21 a0) 0 0 400)) 22 a0) 0 0 16)) 23 b0) ((upA (upA S 21 a0 (va_cpy (S 21 b0) (S 21 a0) 0 0 400)) 22 a0 (va_cpy ((upA S 21 a0 (va_cpy (S 21 b0) (S 21 a0) 0 0 400)) 22 b0) ((upA S 21 a0 (va_cpy (S 21 b0) (S 21 a0) 0 0 400)) 22 a0) 0 0 16)) 23 a0) 0 0 16)) 24 a0) 0 0 16)) 3 b0 5)) 3 b0 6))
noncomputable def fX11_text (S : Mem) : Option (Int32 × Mem) :=
  bd (fX4_readAll S) fun r3 S2 =>
    if r3 = 0 then
      some ((-1), (up S2 7 0 1 0))
    else
      some (((fX3_copyFrom 0 2 (up S2 7 0 1 0)) 3 0 6), (fX3_copyFrom 0 2 (up S2 7 0 1 0)))
noncomputable def fX11_fault (p0 : Int32) (S : Mem) : Int32 :=
  if p0 = 0 then
    (S 4 0 7)
  else
    if p0 = 1 then
      (S 4 0 8)
    else
      (-1)
noncomputable def fX11_age (p0 : Int32) (p1 : Int32) (S : Mem) : Option (Int32 × Mem) :=
  (fX0_paperAt p0 S).bind fun r2 =>
    mt (r2)
      (
        some ((-1), S))
      fun i3 =>
        if (fX11_within p1 (S 0 0 8) 9999) = 0 then
          some ((-1), S)
        else
          bd (fX0_ageOf i3 p1 S) fun r7 S6 =>
            some (r7, S6)
noncomputable def fX0_stayOf_12 : Nat → Nat → Int32 → Int32 → Mem → Option (Int32 × Mem)
  | 0, _, _, _, _ => none
  | n + 1, c1, x2, x3, S =>
    if 400 ≤ x3 then
      some (x3, S)
    else
      bd (fX0_ageOf c1 ((S 0 0 8) + x3) S) fun r7 S6 =>
        if r7 = x2 then
          fX0_stayOf_12 n c1 x2 (x3 + 1) S6
        else
          some (x3, S6)
noncomputable def fX0_stayOf (b0 : Nat) (S : Mem) : Option (Int32 × Mem) :=
  bd (fX0_ageOf b0 (S 0 0 8) S) fun r3 S2 =>
    fX0_stayOf_12 5000 b0 r3 1 S2
noncomputable def fX11_of (p0 : Int32) (p1 : Int32) (S : Mem) : Option (Int32 × Mem) :=
  (fX0_paperAt p0 S).bind fun r2 =>
    mt (r2)
      (
        some ((-2), S))
      fun i3 =>
        if p1 = 0 then
          some ((S 5 i3 1), S)
        else
          if p1 = 1 then
            some ((S 5 i3 2), S)
          else
            if p1 = 2 then
              some ((S 5 i3 3), S)
            else
              if p1 = 3 then
                some ((S 5 i3 4), S)
              else
                if p1 = 4 then
                  some ((S 5 i3 5), S)
                else
                  if p1 = 5 then
                    some ((S 5 i3 6), S)
                  else
                    if p1 = 6 then
                      some ((S 5 i3 7), S)
                    else
                      if p1 = 7 then
                        bd (fX0_stayOf i3 S) fun r14 S13 =>
                          some (r14, S13)
                      else
                        some ((-2), S)
noncomputable def fX11_who (p0 : Int32) (p1 : Int32) (S : Mem) : Option (Int32) :=
  (fX0_readerAt p0 S).bind fun r2 =>
    mt (r2)
      (
        some (-100000))
      fun i3 =>
        if p1 = 0 then
          some (S 6 i3 0)
        else
          if p1 = 1 then
            some (S 6 i3 1)
          else
            if p1 = 2 then
              some (S 6 i3 2)
            else
              if p1 = 3 then
                some (S 6 i3 3)
              else
                if p1 = 4 then
                  some (S 6 i3 4)
                else
                  if p1 = 5 then
                    if (fX6_livesOn i3 (S 0 0 8) S) = 0 then
                      some 0
                    else
                      some 1
                  else
                    if p1 = 6 then
                      some (fX6_yearsOn i3 (S 0 0 8) S)
                    else
                      if p1 = 7 then
                        (fX0_leasesOf p0 S).bind fun r14 =>
                          some r14
                      else
                        some (-100000)
noncomputable def fX1_entry_28 (x1 : Int32) (x2 : Int32) (y0 : Int32) (S : Mem) : Option (Int32) :=
  if y0 = 0 then
    some (-1)
  else
    (ix ((x1 * 5) + x2) 600).bind fun j3 =>
      some (S 16 0 j3)
noncomputable def fX1_entry_27 (x1 : Int32) (x2 : Int32) (S : Mem) : Option (Int32) :=
  fX1_entry_28 x1 x2 0 S
noncomputable def fX1_entry (p0 : Int32) (p1 : Int32) (S : Mem) : Option (Int32) :=
  if (fX11_within p0 0 ((S 1 0 1) - 1)) = 0 then
    fX1_entry_27 p0 p1 S
  else
    if (fX11_within p1 0 4) = 0 then
      fX1_entry_27 p0 p1 S
    else
      fX1_entry_28 p0 p1 1 S
noncomputable def fX11_book (p0 : Int32) (p1 : Int32) (S : Mem) : Option (Int32) :=
  (fX1_entry p0 p1 S).bind fun r2 =>
    some r2
noncomputable def fX2_hasRoom (S : Mem) : Int32 :=
  if 6 ≤ (S 2 0 4) then
    0
  else
    1
theorem zX2_hasRoom (S : Mem) : (fX2_hasRoom S) = 0 ∨ (fX2_hasRoom S) = 1 := by
  unfold fX2_hasRoom
  (repeat' split) <;> first | exact Or.inl rfl | exact Or.inr rfl
noncomputable def fX2_add (p0 : Int32) (p1 : Int32) (p2 : Int32) (p3 : Int32) (S : Mem) : Option (Int32 × Mem) :=
  if (fX2_hasRoom S) = 0 then
    some ((-1), S)
  else
    (ix (S 2 0 4) 6).bind fun j2 =>
      (ix ((up S 17 0 j2 p0) 2 0 4) 6).bind fun j4 =>
        (ix ((up (up S 17 0 j2 p0) 18 0 j4 p1) 2 0 4) 6).bind fun j6 =>
          (ix ((up (up (up S 17 0 j2 p0) 18 0 j4 p1) 19 0 j6 p2) 2 0 4) 6).bind fun j8 =>
            some ((((up (up (up (up (up S 17 0 j2 p0) 18 0 j4 p1) 19 0 j6 p2) 20 0 j8 p3) 2 0 4 (((up (up (up (up S 17 0 j2 p0) 18 0 j4 p1) 19 0 j6 p2) 20 0 j8 p3) 2 0 4) + 1)) 2 0 4) - 1), (up (up (up (up (up S 17 0 j2 p0) 18 0 j4 p1) 19 0 j6 p2) 20 0 j8 p3) 2 0 4 (((up (up (up (up S 17 0 j2 p0) 18 0 j4 p1) 19 0 j6 p2) 20 0 j8 p3) 2 0 4) + 1)))
noncomputable def fX11_claim_51 (x1 : Int32) (x2 : Int32) (x3 : Int32) (x4 : Int32) (y0 : Int32) (S : Mem) : Option (Int32 × Mem) :=
  if y0 = 0 then
    some ((-1), S)
  else
    if (fX2_hasRoom S) = 0 then
      some ((-1), S)
    else
      bd (fX2_add x1 x2 x3 x4 S) fun r8 S7 =>
        some (r8, S7)
noncomputable def fX11_claim_50 (x1 : Int32) (x2 : Int32) (x3 : Int32) (x4 : Int32) (S : Mem) : Option (Int32 × Mem) :=
  fX11_claim_51 x1 x2 x3 x4 0 S
noncomputable def fX11_claim (p0 : Int32) (p1 : Int32) (p2 : Int32) (p3 : Int32) (S : Mem) : Option (Int32 × Mem) :=
  (fX0_paperAt p0 S).bind fun r2 =>
    mt (r2)
      (
        fX11_claim_50 p0 p1 p2 p3 S)
      fun i3 =>
        if (fX11_within p1 (S 0 0 8) 9999) = 0 then
          fX11_claim_50 p0 p1 p2 p3 S
        else
          if p2 < 0 then
            fX11_claim_50 p0 p1 p2 p3 S
          else
            if p3 < p2 then
              fX11_claim_50 p0 p1 p2 p3 S
            else
              if 999 < p3 then
                fX11_claim_50 p0 p1 p2 p3 S
              else
                fX11_claim_51 p0 p1 p2 p3 1 S
noncomputable def fX2_anyWentBy_2 : Nat → Int32 → Int32 → Mem → Option (Int32)
  | 0, _, _, _ => none
  | n + 1, x1, x2, S =>
    if (S 2 0 4) ≤ x2 then
      some 0
    else
      (ix x2 6).bind fun j2 =>
        if x1 ≤ (S 18 0 j2) then
          fX2_anyWentBy_2 n x1 (x2 + 1) S
        else
          some 1
noncomputable def fX2_anyWentBy (p0 : Int32) (S : Mem) : Option (Int32) :=
  fX2_anyWentBy_2 5000 p0 0 S
noncomputable def fX8_claimsStand_8 : Nat → Nat → Int32 → Mem → Option (Int32 × Mem)
  | 0, _, _, _ => none
  | n + 1, c2, x4, S =>
    if (S 2 0 4) ≤ x4 then
      some (1, S)
    else
      (ix x4 6).bind fun j2 =>
        if (S 17 0 j2) = (S 5 c2 0) then
          bd (fX0_ageOf c2 (S 18 0 j2) S) fun r7 S6 =>
            if (fX11_within r7 (S6 19 0 j2) (S6 20 0 j2)) = 0 then
              some (0, S6)
            else
              fX8_claimsStand_8 n c2 (x4 + 1) S6
        else
          fX8_claimsStand_8 n c2 (x4 + 1) S
noncomputable def fX8_claimsStand (b1 : Nat) (S : Mem) : Option (Int32 × Mem) :=
  fX8_claimsStand_8 5000 b1 0 S
noncomputable def fX8_imagine (b1 : Nat) (p2 : Int32) (p3 : Int32) (S : Mem) : Option (Option Nat × Mem) :=
  (fX0_readerAt p2 S).bind fun r2 =>
    mt (r2)
      (
        some (none, S))
      fun i3 =>
        if (fX6_livesOn i3 p3 S) = 0 then
          some (none, S)
        else
          some ((some 24), (fX5_takeReading 24 p2 (fX6_yearsOn i3 p3 (fX5_copyFrom 24 b1 S)) p3 (fX5_copyFrom 24 b1 S)))
noncomputable def fX8_weigh_39 : Nat → Int32 → Int32 → Mem → Option (Mem)
  | 0, _, _, _ => none
  | n + 1, x2, x3, S =>
    if (S 0 0 6) ≤ x3 then
      some S
    else
      (ix x2 12).bind fun j9 =>
        if (S 28 0 j9) = 4096 then
          some S
        else
          bd (fX8_imagine j9 x3 (S 0 0 8) S) fun r13 S14 =>
            mt (r13)
              (
                fX8_weigh_39 n x2 (x3 + 1) S14)
              fun i15 =>
                bd (fX8_claimsStand i15 S14) fun r18 S17 =>
                  if r18 = 0 then
                    fX8_weigh_39 n x2 (x3 + 1) S17
                  else
                    fX8_weigh_39 n x2 (x3 + 1) (up S17 28 0 j9 ((S17 28 0 j9) ||| (1 <<< (x3 &&& 31))))
noncomputable def fX8_weigh_2 : Nat → Int32 → Mem → Option (Mem)
  | 0, _, _ => none
  | n + 1, x2, S =>
    if (S 0 0 7) ≤ x2 then
      some S
    else
      (ix x2 12).bind fun j2 =>
        bd (fX8_claimsStand j2 S) fun r6 S5 =>
          if r6 = 0 then
            (fX8_weigh_39 5000 x2 0 (up S5 28 0 j2 0)).bind fun S20 =>
              fX8_weigh_2 n (x2 + 1) S20
          else
            (fX8_weigh_39 5000 x2 0 (up S5 28 0 j2 4096)).bind fun S22 =>
              fX8_weigh_2 n (x2 + 1) S22
noncomputable def fX8_weigh (S : Mem) : Option (Mem) :=
  fX8_weigh_2 5000 0 S
noncomputable def fJ6_bitCount_0f7a4 (p0 : Int32) : Int32 :=
  ((((((((p0 - ((ushr p0 1) &&& 1431655765)) &&& 858993459) + ((ushr (p0 - ((ushr p0 1) &&& 1431655765)) 2) &&& 858993459)) + (ushr (((p0 - ((ushr p0 1) &&& 1431655765)) &&& 858993459) + ((ushr (p0 - ((ushr p0 1) &&& 1431655765)) 2) &&& 858993459)) 4)) &&& 252645135) + (ushr (((((p0 - ((ushr p0 1) &&& 1431655765)) &&& 858993459) + ((ushr (p0 - ((ushr p0 1) &&& 1431655765)) 2) &&& 858993459)) + (ushr (((p0 - ((ushr p0 1) &&& 1431655765)) &&& 858993459) + ((ushr (p0 - ((ushr p0 1) &&& 1431655765)) 2) &&& 858993459)) 4)) &&& 252645135) 8)) + (ushr ((((((p0 - ((ushr p0 1) &&& 1431655765)) &&& 858993459) + ((ushr (p0 - ((ushr p0 1) &&& 1431655765)) 2) &&& 858993459)) + (ushr (((p0 - ((ushr p0 1) &&& 1431655765)) &&& 858993459) + ((ushr (p0 - ((ushr p0 1) &&& 1431655765)) 2) &&& 858993459)) 4)) &&& 252645135) + (ushr (((((p0 - ((ushr p0 1) &&& 1431655765)) &&& 858993459) + ((ushr (p0 - ((ushr p0 1) &&& 1431655765)) 2) &&& 858993459)) + (ushr (((p0 - ((ushr p0 1) &&& 1431655765)) &&& 858993459) + ((ushr (p0 - ((ushr p0 1) &&& 1431655765)) 2) &&& 858993459)) 4)) &&& 252645135) 8)) 16)) &&& 63)
noncomputable def fX8_suffices_2 : Nat → Int32 → Int32 → Mem → Option (Int32)
  | 0, _, _, _ => none
  | n + 1, x2, x3, S =>
    if (S 0 0 7) ≤ x3 then
      some 1
    else
      (ix x3 12).bind fun j2 =>
        if ((S 28 0 j2) &&& (x2 ||| 4096)) = 0 then
          some 0
        else
          fX8_suffices_2 n x2 (x3 + 1) S
noncomputable def fX8_suffices (p1 : Int32) (S : Mem) : Option (Int32) :=
  fX8_suffices_2 5000 p1 0 S
noncomputable def fX8_leastSet_8 : Nat → Int32 → Int32 → Int32 → Mem → Option (Int32)
  | 0, _, _, _, _ => none
  | n + 1, x2, x3, x4, S =>
    if (1 <<< ((S 0 0 6) &&& 31)) ≤ x4 then
      some x2
    else
      if x3 ≤ (fJ6_bitCount_0f7a4 x4) then
        fX8_leastSet_8 n x2 x3 (x4 + 1) S
      else
        (fX8_suffices x4 S).bind fun r4 =>
          if r4 = 0 then
            fX8_leastSet_8 n x2 x3 (x4 + 1) S
          else
            fX8_leastSet_8 n x4 (fJ6_bitCount_0f7a4 x4) (x4 + 1) S
noncomputable def fX8_leastSet (S : Mem) : Option (Int32) :=
  fX8_leastSet_8 5000 (-1) 13 0 S
noncomputable def fJ6_numberOfTrailingZeros_0f7a4_62 (x0 : Int32) (x1 : Int32) : Int32 :=
  if x0 ≤ 4 then
    (x1 + (ushr x0 1))
  else
    ((x1 + 2) + (ushr (ushr x0 2) 1))
noncomputable def fJ6_numberOfTrailingZeros_0f7a4_49 (x0 : Int32) (x1 : Int32) : Int32 :=
  if x0 ≤ 16 then
    fJ6_numberOfTrailingZeros_0f7a4_62 x0 x1
  else
    fJ6_numberOfTrailingZeros_0f7a4_62 (ushr x0 4) (x1 + 4)
noncomputable def fJ6_numberOfTrailingZeros_0f7a4_34 (x0 : Int32) (x1 : Int32) : Int32 :=
  if x0 ≤ 256 then
    fJ6_numberOfTrailingZeros_0f7a4_49 x0 x1
  else
    fJ6_numberOfTrailingZeros_0f7a4_49 (ushr x0 8) (x1 + 8)
noncomputable def fJ6_numberOfTrailingZeros_0f7a4 (p0 : Int32) : Int32 :=
  if 0 < ((p0 ^^^ (-1)) &&& (p0 - 1)) then
    if ((p0 ^^^ (-1)) &&& (p0 - 1)) ≤ 65536 then
      fJ6_numberOfTrailingZeros_0f7a4_34 ((p0 ^^^ (-1)) &&& (p0 - 1)) 1
    else
      fJ6_numberOfTrailingZeros_0f7a4_34 (ushr ((p0 ^^^ (-1)) &&& (p0 - 1)) 16) (1 + 16)
  else
    (((p0 ^^^ (-1)) &&& (p0 - 1)) &&& 32)
noncomputable def fX8_readerOf (p1 : Int32) (p2 : Int32) (S : Mem) : Option (Int32) :=
  if (fX11_within p1 0 ((S 0 0 7) - 1)) = 0 then
    some (-1)
  else
    (ix p1 12).bind fun j2 =>
      if ((S 28 0 j2) &&& 4096) = 0 then
        some (fJ6_numberOfTrailingZeros_0f7a4 ((S 28 0 j2) &&& p2))
      else
        some (-1)
noncomputable def fX11_fewest_17 (x1 : Int32) (S : Mem) : Option (Int32 × Mem) :=
  (fX2_anyWentBy (S 0 0 8) S).bind fun r3 =>
    if r3 = 0 then
      (fX8_weigh S).bind fun S6 =>
        (fX8_leastSet S6).bind fun r8 =>
          if x1 = 0 then
            some (r8, S6)
          else
            if r8 = (-1) then
              some (r8, S6)
            else
              (fX8_readerOf (x1 - 10) r8 S6).bind fun r12 =>
                some (r12, S6)
    else
      some ((-1), S)
noncomputable def fX11_fewest (p0 : Int32) (S : Mem) : Option (Int32 × Mem) :=
  if p0 = 0 then
    fX11_fewest_17 p0 S
  else
    if (fX11_within p0 10 21) = 0 then
      some ((-1), S)
    else
      fX11_fewest_17 p0 S
noncomputable def fX8_countThumb_17 (S : Mem) : Mem :=
  (up S 8 0 2 ((S 8 0 2) + 1))
noncomputable def fX8_countThumb (p0 : Int32) (p1 : Int32) (S : Mem) : Mem :=
  if (S 8 0 2) = 0 then
    fX8_countThumb_17 (up (up S 8 0 3 p0) 8 0 4 p1)
  else
    fX8_countThumb_17 S
noncomputable def fX8_seekThumbs_51 : Nat → Nat → Int32 → Int32 → Int32 → Int32 → Mem → Option (Mem)
  | 0, _, _, _, _, _, _ => none
  | n + 1, c2, x3, x4, x5, x6, S =>
    if (S 0 0 8) < x6 then
      some S
    else
      bd (fX8_imagine c2 x5 x6 S) fun r4 S5 =>
        mt (r4)
          (
            fX8_seekThumbs_51 n c2 x3 x4 x5 (x6 + 1) S5)
          fun i6 =>
            bd (fX0_ageOf i6 (S5 0 0 8) S5) fun r9 S8 =>
              if r9 = x3 then
                fX8_seekThumbs_51 n c2 x3 x4 x5 (x6 + 1) (fX8_countThumb x5 x6 S8)
              else
                fX8_seekThumbs_51 n c2 x3 x4 x5 (x6 + 1) S8
noncomputable def fX8_seekThumbs_38 : Nat → Nat → Int32 → Int32 → Int32 → Mem → Option (Mem)
  | 0, _, _, _, _, _ => none
  | n + 1, c2, x3, x4, x5, S =>
    if (S 0 0 6) ≤ x5 then
      some S
    else
      (fX8_seekThumbs_51 5000 c2 x3 x4 x5 x4 S).bind fun S11 =>
        fX8_seekThumbs_38 n c2 x3 x4 (x5 + 1) S11
noncomputable def fX8_seekThumbs (b1 : Nat) (p2 : Int32) (S : Mem) : Option (Mem) :=
  fX8_seekThumbs_38 5000 b1 p2 (if ((up (up (up S 8 0 2 0) 8 0 3 (-1)) 8 0 4 (-1)) 5 b1 2) < (if 0 < (((up (up (up S 8 0 2 0) 8 0 3 (-1)) 8 0 4 (-1)) 0 0 8) - 99) then (((up (up (up S 8 0 2 0) 8 0 3 (-1)) 8 0 4 (-1)) 0 0 8) - 99) else 0) then (if 0 < (((up (up (up S 8 0 2 0) 8 0 3 (-1)) 8 0 4 (-1)) 0 0 8) - 99) then (((up (up (up S 8 0 2 0) 8 0 3 (-1)) 8 0 4 (-1)) 0 0 8) - 99) else 0) else ((up (up (up S 8 0 2 0) 8 0 3 (-1)) 8 0 4 (-1)) 5 b1 2)) 0 (up (up (up S 8 0 2 0) 8 0 3 (-1)) 8 0 4 (-1))
noncomputable def fX11_thumbs (p0 : Int32) (p1 : Int32) (p2 : Int32) (S : Mem) : Option (Int32 × Mem) :=
  (fX0_paperAt p0 S).bind fun r2 =>
    mt (r2)
      (
        some ((-1), S))
      fun i3 =>
        if (fX11_within p1 0 999) = 0 then
          some ((-1), S)
        else
          if (fX11_within p2 0 2) = 0 then
            some ((-1), S)
          else
            (fX8_seekThumbs i3 p1 S).bind fun S7 =>
              if p2 = 0 then
                some ((S7 8 0 2), S7)
              else
                if p2 = 1 then
                  some ((S7 8 0 3), S7)
                else
                  some ((S7 8 0 4), S7)
noncomputable def fX1_leapOf (p0 : Int32) (S : Mem) : Option (Int32) :=
  (fX1_entry p0 4 S).bind fun r2 =>
    (fX1_entry p0 3 S).bind fun r4 =>
      some (if 0 ≤ (r2 - r4) then (r2 - r4) else 0 - (r2 - r4))
noncomputable def fX0_isLeap (p0 : Int32) (p1 : Int32) (p2 : Int32) (S : Mem) : Option (Int32) :=
  (fX1_entry p0 1 S).bind fun r2 =>
    (fX0_readerAt r2 S).bind fun r4 =>
      mt (r4)
        (
          some 0)
        fun i5 =>
          if (S 6 i5 3) = p1 then
            (fX1_leapOf p0 S).bind fun r8 =>
              if r8 < p2 then
                some 0
              else
                some 1
          else
            some 0
noncomputable def fX0_countLeaps_5 : Nat → Int32 → Int32 → Int32 → Int32 → Mem → Option (Int32)
  | 0, _, _, _, _, _ => none
  | n + 1, x1, x2, x3, x4, S =>
    if (S 1 0 1) ≤ x4 then
      some x3
    else
      (fX0_isLeap x4 x1 x2 S).bind fun r3 =>
        if r3 = 0 then
          fX0_countLeaps_5 n x1 x2 x3 (x4 + 1) S
        else
          fX0_countLeaps_5 n x1 x2 (x3 + 1) (x4 + 1) S
noncomputable def fX0_countLeaps (p0 : Int32) (p1 : Int32) (S : Mem) : Option (Int32) :=
  fX0_countLeaps_5 5000 p0 p1 0 0 S
noncomputable def fX0_firstLeap_2 : Nat → Int32 → Int32 → Int32 → Mem → Option (Int32)
  | 0, _, _, _, _ => none
  | n + 1, x1, x2, x3, S =>
    if (S 1 0 1) ≤ x3 then
      some (-1)
    else
      (fX0_isLeap x3 x1 x2 S).bind fun r3 =>
        if r3 = 0 then
          fX0_firstLeap_2 n x1 x2 (x3 + 1) S
        else
          some x3
noncomputable def fX0_firstLeap (p0 : Int32) (p1 : Int32) (S : Mem) : Option (Int32) :=
  fX0_firstLeap_2 5000 p0 p1 0 S
noncomputable def fX11_leaps (p0 : Int32) (p1 : Int32) (p2 : Int32) (S : Mem) : Option (Int32) :=
  if (fX11_within p0 0 3) = 0 then
    some (-1)
  else
    if (fX11_within p1 0 999) = 0 then
      some (-1)
    else
      if p2 = 0 then
        (fX0_countLeaps p0 p1 S).bind fun r5 =>
          some r5
      else
        if p2 = 1 then
          (fX0_firstLeap p0 p1 S).bind fun r8 =>
            some r8
        else
          some (-1)
noncomputable def fX11_next (S : Mem) : Option (Int32) :=
  (fX0_nextForLease S).bind fun r2 =>
    some r2
noncomputable def fX0_agesOn_4 : Nat → Int32 → Int32 → Int32 → Mem → Option (Int32 × Mem)
  | 0, _, _, _, _ => none
  | n + 1, x1, x2, x3, S =>
    if (S 0 0 7) ≤ x3 then
      some (x2, S)
    else
      (ix x3 12).bind fun j2 =>
        if (S 5 j2 1) = x1 then
          bd (fX0_ageOf j2 (S 0 0 8) S) fun r7 S6 =>
            fX0_agesOn_4 n x1 (x2 + r7) (x3 + 1) S6
        else
          fX0_agesOn_4 n x1 x2 (x3 + 1) S
noncomputable def fX0_agesOn (p0 : Int32) (S : Mem) : Option (Int32 × Mem) :=
  fX0_agesOn_4 5000 p0 0 0 S
noncomputable def fX11_close_6 : Nat → Int32 → Int32 → Int32 → Mem → Option (Int32 × Mem)
  | 0, _, _, _, _ => none
  | n + 1, x1, x2, x3, S =>
    if 5 ≤ x3 then
      some (x1, S)
    else
      bd (fX0_agesOn x3 S) fun r4 S3 =>
        (fX0_papersOn x3 S3).bind fun r6 =>
          if r6 ≤ 0 then
            fX11_close_6 n x1 x2 (x3 + 1) S3
          else
            if r4 ≤ x2 then
              fX11_close_6 n x1 x2 (x3 + 1) S3
            else
              fX11_close_6 n x3 r4 (x3 + 1) S3
noncomputable def fX11_close (S : Mem) : Option (Int32 × Mem) :=
  fX11_close_6 5000 (-1) (-1) 0 S
noncomputable def fX11_mean (p0 : Int32) (S : Mem) : Option (Int32 × Mem) :=
  (fX0_papersOn p0 S).bind fun r2 =>
    if r2 ≤ 0 then
      some ((-1), S)
    else
      bd (fX0_agesOn p0 S) fun r6 S5 =>
        if r2 = 0 then none else
          some ((r6 / r2), S5)
noncomputable def fX10_latestWrote (S : Mem) : Option (Int32) :=
  (ix (S 10 0 2) 10).bind fun j1 =>
    if (S 30 0 j1) = 0 ∨ (S 30 0 j1) = 1 then
      some (S 30 0 j1)
    else none
noncomputable def fX10_takeLatest (S : Mem) : Option (Nat × Mem) :=
  (ix (S 10 0 2) 10).bind fun j1 =>
    some ((25 + j1), (up (up S 10 0 2 ((((S 10 0 2) + 10) - 1) - (((S 10 0 2) + 10) - 1) / 10 * 10)) 10 0 3 (((up S 10 0 2 ((((S 10 0 2) + 10) - 1) - (((S 10 0 2) + 10) - 1) / 10 * 10)) 10 0 3) - 1)))
noncomputable def fX1_dropLast (S : Mem) : Mem :=
  if (S 1 0 1) ≤ 0 then
    S
  else
    (up S 1 0 1 ((S 1 0 1) - 1))
noncomputable def fX11_undo_49 (x1 : Int32) (S : Mem) : Option (Int32 × Mem) :=
  if x1 = 0 then
    some (1, S)
  else
    some (1, (fX1_dropLast S))
noncomputable def fX11_undo (S : Mem) : Option (Int32 × Mem) :=
  if 0 < (S 10 0 3) then
    (fX10_latestWrote S).bind fun r3 =>
      bd (fX10_takeLatest S) fun r6 S5 =>
        (fX0_paperAt (S5 5 r6 0) S5).bind fun r8 =>
          mt (r8)
            (
              fX11_undo_49 r3 S5)
            fun i9 =>
              fX11_undo_49 r3 (fX5_copyFrom i9 r6 S5)
  else
    some (0, S)
noncomputable def fX1_copyFrom (a0 : Nat) (b0 : Nat) (S : Mem) : Mem :=
  (up (upA S 16 a0 (va_cpy (S 16 b0) (S 16 a0) 0 0 600)) 1 a0 1 ((upA S 16 a0 (va_cpy (S 16 b0) (S 16 a0) 0 0 600)) 1 b0 1))
noncomputable def fX2_copyFrom (a0 : Nat) (b0 : Nat) (S : Mem) : Mem :=
  (up (upA (upA (upA (upA S 17 a0 (va_cpy (S 17 b0) (S 17 a0) 0 0 6)) 18 a0 (va_cpy ((upA S 17 a0 (va_cpy (S 17 b0) (S 17 a0) 0 0 6)) 18 b0) ((upA S 17 a0 (va_cpy (S 17 b0) (S 17 a0) 0 0 6)) 18 a0) 0 0 6)) 19 a0 (va_cpy ((upA (upA S 17 a0 (va_cpy (S 17 b0) (S 17 a0) 0 0 6)) 18 a0 (va_cpy ((upA S 17 a0 (va_cpy (S 17 b0) (S 17 a0) 0 0 6)) 18 b0) ((upA S 17 a0 (va_cpy (S 17 b0) (S 17 a0) 0 0 6)) 18 a0) 0 0 6)) 19 b0) ((upA (upA S 17 a0 (va_cpy (S 17 b0) (S 17 a0) 0 0 6)) 18 a0 (va_cpy ((upA S 17 a0 (va_cpy (S 17 b0) (S 17 a0) 0 0 6)) 18 b0) ((upA S 17 a0 (va_cpy (S 17 b0) (S 17 a0) 0 0 6)) 18 a0) 0 0 6)) 19 a0) 0 0 6)) 20 a0 (va_cpy ((upA (upA (upA S 17 a0 (va_cpy (S 17 b0) (S 17 a0) 0 0 6)) 18 a0 (va_cpy ((upA S 17 a0 (va_cpy (S 17 b0) (S 17 a0) 0 0 6)) 18 b0) ((upA S 17 a0 (va_cpy (S 17 b0) (S 17 a0) 0 0 6)) 18 a0) 0 0 6)) 19 a0 (va_cpy ((upA (upA S 17 a0 (va_cpy (S 17 b0) (S 17 a0) 0 0 6)) 18 a0 (va_cpy ((upA S 17 a0 (va_cpy (S 17 b0) (S 17 a0) 0 0 6)) 18 b0) ((upA S 17 a0 (va_cpy (S 17 b0) (S 17 a0) 0 0 6)) 18 a0) 0 0 6)) 19 b0) ((upA (upA S 17 a0 (va_cpy (S 17 b0) (S 17 a0) 0 0 6)) 18 a0 (va_cpy ((upA S 17 a0 (va_cpy (S 17 b0) (S 17 a0) 0 0 6)) 18 b0) ((upA S 17 a0 (va_cpy (S 17 b0) (S 17 a0) 0 0 6)) 18 a0) 0 0 6)) 19 a0) 0 0 6)) 20 b0) ((upA (upA (upA S 17 a0 (va_cpy (S 17 b0) (S 17 a0) 0 0 6)) 18 a0 (va_cpy ((upA S 17 a0 (va_cpy (S 17 b0) (S 17 a0) 0 0 6)) 18 b0) ((upA S 17 a0 (va_cpy (S 17 b0) (S 17 a0) 0 0 6)) 18 a0) 0 0 6)) 19 a0 (va_cpy ((upA (upA S 17 a0 (va_cpy (S 17 b0) (S 17 a0) 0 0 6)) 18 a0 (va_cpy ((upA S 17 a0 (va_cpy (S 17 b0) (S 17 a0) 0 0 6)) 18 b0) ((upA S 17 a0 (va_cpy (S 17 b0) (S 17 a0) 0 0 6)) 18 a0) 0 0 6)) 19 b0) ((upA (upA S 17 a0 (va_cpy (S 17 b0) (S 17 a0) 0 0 6)) 18 a0 (va_cpy ((upA S 17 a0 (va_cpy (S 17 b0) (S 17 a0) 0 0 6)) 18 b0) ((upA S 17 a0 (va_cpy (S 17 b0) (S 17 a0) 0 0 6)) 18 a0) 0 0 6)) 19 a0) 0 0 6)) 20 a0) 0 0 6)) 2 a0 4 ((upA (upA (upA (upA S 17 a0 (va_cpy (S 17 b0) (S 17 a0) 0 0 6)) 18 a0 (va_cpy ((upA S 17 a0 (va_cpy (S 17 b0) (S 17 a0) 0 0 6)) 18 b0) ((upA S 17 a0 (va_cpy (S 17 b0) (S 17 a0) 0 0 6)) 18 a0) 0 0 6)) 19 a0 (va_cpy ((upA (upA S 17 a0 (va_cpy (S 17 b0) (S 17 a0) 0 0 6)) 18 a0 (va_cpy ((upA S 17 a0 (va_cpy (S 17 b0) (S 17 a0) 0 0 6)) 18 b0) ((upA S 17 a0 (va_cpy (S 17 b0) (S 17 a0) 0 0 6)) 18 a0) 0 0 6)) 19 b0) ((upA (upA S 17 a0 (va_cpy (S 17 b0) (S 17 a0) 0 0 6)) 18 a0 (va_cpy ((upA S 17 a0 (va_cpy (S 17 b0) (S 17 a0) 0 0 6)) 18 b0) ((upA S 17 a0 (va_cpy (S 17 b0) (S 17 a0) 0 0 6)) 18 a0) 0 0 6)) 19 a0) 0 0 6)) 20 a0 (va_cpy ((upA (upA (upA S 17 a0 (va_cpy (S 17 b0) (S 17 a0) 0 0 6)) 18 a0 (va_cpy ((upA S 17 a0 (va_cpy (S 17 b0) (S 17 a0) 0 0 6)) 18 b0) ((upA S 17 a0 (va_cpy (S 17 b0) (S 17 a0) 0 0 6)) 18 a0) 0 0 6)) 19 a0 (va_cpy ((upA (upA S 17 a0 (va_cpy (S 17 b0) (S 17 a0) 0 0 6)) 18 a0 (va_cpy ((upA S 17 a0 (va_cpy (S 17 b0) (S 17 a0) 0 0 6)) 18 b0) ((upA S 17 a0 (va_cpy (S 17 b0) (S 17 a0) 0 0 6)) 18 a0) 0 0 6)) 19 b0) ((upA (upA S 17 a0 (va_cpy (S 17 b0) (S 17 a0) 0 0 6)) 18 a0 (va_cpy ((upA S 17 a0 (va_cpy (S 17 b0) (S 17 a0) 0 0 6)) 18 b0) ((upA S 17 a0 (va_cpy (S 17 b0) (S 17 a0) 0 0 6)) 18 a0) 0 0 6)) 19 a0) 0 0 6)) 20 b0) ((upA (upA (upA S 17 a0 (va_cpy (S 17 b0) (S 17 a0) 0 0 6)) 18 a0 (va_cpy ((upA S 17 a0 (va_cpy (S 17 b0) (S 17 a0) 0 0 6)) 18 b0) ((upA S 17 a0 (va_cpy (S 17 b0) (S 17 a0) 0 0 6)) 18 a0) 0 0 6)) 19 a0 (va_cpy ((upA (upA S 17 a0 (va_cpy (S 17 b0) (S 17 a0) 0 0 6)) 18 a0 (va_cpy ((upA S 17 a0 (va_cpy (S 17 b0) (S 17 a0) 0 0 6)) 18 b0) ((upA S 17 a0 (va_cpy (S 17 b0) (S 17 a0) 0 0 6)) 18 a0) 0 0 6)) 19 b0) ((upA (upA S 17 a0 (va_cpy (S 17 b0) (S 17 a0) 0 0 6)) 18 a0 (va_cpy ((upA S 17 a0 (va_cpy (S 17 b0) (S 17 a0) 0 0 6)) 18 b0) ((upA S 17 a0 (va_cpy (S 17 b0) (S 17 a0) 0 0 6)) 18 a0) 0 0 6)) 19 a0) 0 0 6)) 20 a0) 0 0 6)) 2 b0 4))
noncomputable def fX6_copyFrom (a0 : Nat) (b0 : Nat) (S : Mem) : Mem :=
  (up (up (up (up (up S 6 a0 0 (S 6 b0 0)) 6 a0 1 ((up S 6 a0 0 (S 6 b0 0)) 6 b0 1)) 6 a0 2 ((up (up S 6 a0 0 (S 6 b0 0)) 6 a0 1 ((up S 6 a0 0 (S 6 b0 0)) 6 b0 1)) 6 b0 2)) 6 a0 3 ((up (up (up S 6 a0 0 (S 6 b0 0)) 6 a0 1 ((up S 6 a0 0 (S 6 b0 0)) 6 b0 1)) 6 a0 2 ((up (up S 6 a0 0 (S 6 b0 0)) 6 a0 1 ((up S 6 a0 0 (S 6 b0 0)) 6 b0 1)) 6 b0 2)) 6 b0 3)) 6 a0 4 ((up (up (up (up S 6 a0 0 (S 6 b0 0)) 6 a0 1 ((up S 6 a0 0 (S 6 b0 0)) 6 b0 1)) 6 a0 2 ((up (up S 6 a0 0 (S 6 b0 0)) 6 a0 1 ((up S 6 a0 0 (S 6 b0 0)) 6 b0 1)) 6 b0 2)) 6 a0 3 ((up (up (up S 6 a0 0 (S 6 b0 0)) 6 a0 1 ((up S 6 a0 0 (S 6 b0 0)) 6 b0 1)) 6 a0 2 ((up (up S 6 a0 0 (S 6 b0 0)) 6 a0 1 ((up S 6 a0 0 (S 6 b0 0)) 6 b0 1)) 6 b0 2)) 6 b0 3)) 6 b0 4))
noncomputable def fX0_copyFrom_31 : Nat → Nat → Nat → Int32 → Mem → Option (Mem)
  | 0, _, _, _, _ => none
  | n + 1, c0, c1, x2, S =>
    if 12 ≤ x2 then
      some (up (up (up (up (up (fX3_copyFrom c0 c1 (fX2_copyFrom c0 c1 (fX1_copyFrom c0 c1 S))) 0 c0 6 ((fX3_copyFrom c0 c1 (fX2_copyFrom c0 c1 (fX1_copyFrom c0 c1 S))) 0 c1 6)) 0 c0 7 ((up (fX3_copyFrom c0 c1 (fX2_copyFrom c0 c1 (fX1_copyFrom c0 c1 S))) 0 c0 6 ((fX3_copyFrom c0 c1 (fX2_copyFrom c0 c1 (fX1_copyFrom c0 c1 S))) 0 c1 6)) 0 c1 7)) 0 c0 8 ((up (up (fX3_copyFrom c0 c1 (fX2_copyFrom c0 c1 (fX1_copyFrom c0 c1 S))) 0 c0 6 ((fX3_copyFrom c0 c1 (fX2_copyFrom c0 c1 (fX1_copyFrom c0 c1 S))) 0 c1 6)) 0 c0 7 ((up (fX3_copyFrom c0 c1 (fX2_copyFrom c0 c1 (fX1_copyFrom c0 c1 S))) 0 c0 6 ((fX3_copyFrom c0 c1 (fX2_copyFrom c0 c1 (fX1_copyFrom c0 c1 S))) 0 c1 6)) 0 c1 7)) 0 c1 8)) 0 c0 9 ((up (up (up (fX3_copyFrom c0 c1 (fX2_copyFrom c0 c1 (fX1_copyFrom c0 c1 S))) 0 c0 6 ((fX3_copyFrom c0 c1 (fX2_copyFrom c0 c1 (fX1_copyFrom c0 c1 S))) 0 c1 6)) 0 c0 7 ((up (fX3_copyFrom c0 c1 (fX2_copyFrom c0 c1 (fX1_copyFrom c0 c1 S))) 0 c0 6 ((fX3_copyFrom c0 c1 (fX2_copyFrom c0 c1 (fX1_copyFrom c0 c1 S))) 0 c1 6)) 0 c1 7)) 0 c0 8 ((up (up (fX3_copyFrom c0 c1 (fX2_copyFrom c0 c1 (fX1_copyFrom c0 c1 S))) 0 c0 6 ((fX3_copyFrom c0 c1 (fX2_copyFrom c0 c1 (fX1_copyFrom c0 c1 S))) 0 c1 6)) 0 c0 7 ((up (fX3_copyFrom c0 c1 (fX2_copyFrom c0 c1 (fX1_copyFrom c0 c1 S))) 0 c0 6 ((fX3_copyFrom c0 c1 (fX2_copyFrom c0 c1 (fX1_copyFrom c0 c1 S))) 0 c1 6)) 0 c1 7)) 0 c1 8)) 0 c1 9)) 0 c0 10 ((up (up (up (up (fX3_copyFrom c0 c1 (fX2_copyFrom c0 c1 (fX1_copyFrom c0 c1 S))) 0 c0 6 ((fX3_copyFrom c0 c1 (fX2_copyFrom c0 c1 (fX1_copyFrom c0 c1 S))) 0 c1 6)) 0 c0 7 ((up (fX3_copyFrom c0 c1 (fX2_copyFrom c0 c1 (fX1_copyFrom c0 c1 S))) 0 c0 6 ((fX3_copyFrom c0 c1 (fX2_copyFrom c0 c1 (fX1_copyFrom c0 c1 S))) 0 c1 6)) 0 c1 7)) 0 c0 8 ((up (up (fX3_copyFrom c0 c1 (fX2_copyFrom c0 c1 (fX1_copyFrom c0 c1 S))) 0 c0 6 ((fX3_copyFrom c0 c1 (fX2_copyFrom c0 c1 (fX1_copyFrom c0 c1 S))) 0 c1 6)) 0 c0 7 ((up (fX3_copyFrom c0 c1 (fX2_copyFrom c0 c1 (fX1_copyFrom c0 c1 S))) 0 c0 6 ((fX3_copyFrom c0 c1 (fX2_copyFrom c0 c1 (fX1_copyFrom c0 c1 S))) 0 c1 6)) 0 c1 7)) 0 c1 8)) 0 c0 9 ((up (up (up (fX3_copyFrom c0 c1 (fX2_copyFrom c0 c1 (fX1_copyFrom c0 c1 S))) 0 c0 6 ((fX3_copyFrom c0 c1 (fX2_copyFrom c0 c1 (fX1_copyFrom c0 c1 S))) 0 c1 6)) 0 c0 7 ((up (fX3_copyFrom c0 c1 (fX2_copyFrom c0 c1 (fX1_copyFrom c0 c1 S))) 0 c0 6 ((fX3_copyFrom c0 c1 (fX2_copyFrom c0 c1 (fX1_copyFrom c0 c1 S))) 0 c1 6)) 0 c1 7)) 0 c0 8 ((up (up (fX3_copyFrom c0 c1 (fX2_copyFrom c0 c1 (fX1_copyFrom c0 c1 S))) 0 c0 6 ((fX3_copyFrom c0 c1 (fX2_copyFrom c0 c1 (fX1_copyFrom c0 c1 S))) 0 c1 6)) 0 c0 7 ((up (fX3_copyFrom c0 c1 (fX2_copyFrom c0 c1 (fX1_copyFrom c0 c1 S))) 0 c0 6 ((fX3_copyFrom c0 c1 (fX2_copyFrom c0 c1 (fX1_copyFrom c0 c1 S))) 0 c1 6)) 0 c1 7)) 0 c1 8)) 0 c1 9)) 0 c1 10))
    else
      (ix x2 12).bind fun j3 =>
        fX0_copyFrom_31 n c0 c1 (x2 + 1) (fX5_copyFrom (12 * c0 + j3) (12 * c1 + j3) S)
noncomputable def fX0_copyFrom_2 : Nat → Nat → Nat → Int32 → Mem → Option (Mem)
  | 0, _, _, _, _ => none
  | n + 1, c0, c1, x2, S =>
    if 12 ≤ x2 then
      fX0_copyFrom_31 5000 c0 c1 0 S
    else
      (ix x2 12).bind fun j5 =>
        fX0_copyFrom_2 n c0 c1 (x2 + 1) (fX6_copyFrom (12 * c0 + j5) (12 * c1 + j5) S)
noncomputable def fX0_copyFrom (a0 : Nat) (b0 : Nat) (S : Mem) : Option (Mem) :=
  fX0_copyFrom_2 5000 a0 b0 0 S
noncomputable def fX11_image (p0 : Int32) (S : Mem) : Option (Int32 × Mem) :=
  if p0 = 0 then
    if (S 11 0 2) = 0 then
      some (0, S)
    else
      (fX0_copyFrom 0 1 (fX10_forget S)).bind fun S4 =>
        some (1, S4)
  else
    (fX0_copyFrom 1 0 S).bind fun S6 =>
      some (1, (up S6 11 0 2 1))
noncomputable def fX11_look (p0 : Int32) (S : Mem) : Int32 :=
  if p0 = 0 then
    (S 0 0 8)
  else
    if p0 = 1 then
      (S 0 0 6)
    else
      if p0 = 2 then
        (S 0 0 7)
      else
        if p0 = 3 then
          (S 1 0 1)
        else
          if p0 = 4 then
            (S 2 0 4)
          else
            if p0 = 5 then
              (S 0 0 9)
            else
              if p0 = 6 then
                (S 3 0 6)
              else
                if p0 = 7 then
                  (S 10 0 3)
                else
                  if p0 = 8 then
                    (S 0 0 10)
                  else
                    (-1)
noncomputable def fX12_state (p0 : Int32) (S : Mem) : Int32 × Mem :=
  (((up S 12 0 0 0) 12 0 1), (up (up S 12 0 0 0) 12 0 1 p0))
noncomputable def fX12_isIn (p0 : Int32) (p1 : Int32) (p2 : Int32) : Int32 :=
  if p0 < p1 then
    0
  else
    if p2 < p0 then
      0
    else
      1
theorem zX12_isIn (p0 : Int32) (p1 : Int32) (p2 : Int32) : (fX12_isIn p0 p1 p2) = 0 ∨ (fX12_isIn p0 p1 p2) = 1 := by
  unfold fX12_isIn
  (repeat' split) <;> first | exact Or.inl rfl | exact Or.inr rfl
noncomputable def fX12_reader (p0 : Int32) (p1 : Int32) (p2 : Int32) (p3 : Int32) (S : Mem) : Option (Int32 × Mem) :=
  if (fX12_isIn p0 (-36500) 9999) = 0 then
    some ((-1), (up S 12 0 0 0))
  else
    if (fX12_isIn p1 (-1) 9999) = 0 then
      some ((-1), (up S 12 0 0 0))
    else
      if (fX12_isIn p2 0 1) = 0 then
        some ((-1), (up S 12 0 0 0))
      else
        if (fX12_isIn p3 0 3) = 0 then
          some ((-1), (up S 12 0 0 0))
        else
          if ((up S 12 0 0 0) 12 0 3) = 12 then
            some ((-1), (up S 12 0 0 0))
          else
            (ix ((up S 12 0 0 0) 12 0 3) 12).bind fun j6 =>
              (ix ((up (up S 12 0 0 0) 60 0 j6 p0) 12 0 3) 12).bind fun j8 =>
                (ix ((up (up (up S 12 0 0 0) 60 0 j6 p0) 61 0 j8 p1) 12 0 3) 12).bind fun j10 =>
                  (ix ((up (up (up (up S 12 0 0 0) 60 0 j6 p0) 61 0 j8 p1) 62 0 j10 p2) 12 0 3) 12).bind fun j12 =>
                    (ix ((up (up (up (up (up S 12 0 0 0) 60 0 j6 p0) 61 0 j8 p1) 62 0 j10 p2) 63 0 j12 p3) 12 0 3) 12).bind fun j14 =>
                      some ((((up (up (up (up (up (up (up (up S 12 0 0 0) 60 0 j6 p0) 61 0 j8 p1) 62 0 j10 p2) 63 0 j12 p3) 64 0 j14 0) 12 0 3 (((up (up (up (up (up (up S 12 0 0 0) 60 0 j6 p0) 61 0 j8 p1) 62 0 j10 p2) 63 0 j12 p3) 64 0 j14 0) 12 0 3) + 1)) 12 0 44 0) 12 0 3) - 1), (up (up (up (up (up (up (up (up S 12 0 0 0) 60 0 j6 p0) 61 0 j8 p1) 62 0 j10 p2) 63 0 j12 p3) 64 0 j14 0) 12 0 3 (((up (up (up (up (up (up S 12 0 0 0) 60 0 j6 p0) 61 0 j8 p1) 62 0 j10 p2) 63 0 j12 p3) 64 0 j14 0) 12 0 3) + 1)) 12 0 44 0))
noncomputable def fX12_isReader (p0 : Int32) (S : Mem) : Int32 :=
  if p0 < 0 then
    0
  else
    if (S 12 0 3) ≤ p0 then
      0
    else
      1
theorem zX12_isReader (p0 : Int32) (S : Mem) : (fX12_isReader p0 S) = 0 ∨ (fX12_isReader p0 S) = 1 := by
  unfold fX12_isReader
  (repeat' split) <;> first | exact Or.inl rfl | exact Or.inr rfl
noncomputable def fX12_set_101 (x1 : Int32) (x2 : Int32) (x3 : Int32) (S : Mem) : Option (Int32 × Mem) :=
  if x2 = 2 then
    (ix x1 12).bind fun j13 =>
      some (1, (up (up S 64 0 j13 x3) 12 0 44 0))
  else
    some (1, (up S 12 0 44 0))
noncomputable def fX12_set_89 (x1 : Int32) (x2 : Int32) (x3 : Int32) (S : Mem) : Option (Int32 × Mem) :=
  if x2 = 1 then
    (ix x1 12).bind fun j10 =>
      fX12_set_101 x1 x2 x3 (up S 62 0 j10 x3)
  else
    fX12_set_101 x1 x2 x3 S
noncomputable def fX12_set_78 (x1 : Int32) (x2 : Int32) (x3 : Int32) (S : Mem) : Option (Int32 × Mem) :=
  if x2 = 0 then
    (ix x1 12).bind fun j7 =>
      fX12_set_89 x1 x2 x3 (up S 61 0 j7 x3)
  else
    fX12_set_89 x1 x2 x3 S
noncomputable def fX12_set_70 (x1 : Int32) (x2 : Int32) (x3 : Int32) (y0 : Int32) (y1 : Int32) (y2 : Int32) (S : Mem) : Option (Int32 × Mem) :=
  if (fX12_isIn y2 y1 y0) = 0 then
    some (0, S)
  else
    fX12_set_78 x1 x2 x3 S
noncomputable def fX12_set_51 (x1 : Int32) (x2 : Int32) (x3 : Int32) (S : Mem) : Option (Int32 × Mem) :=
  if x2 ≤ 0 then
    fX12_set_78 x1 x2 x3 S
  else
    if x2 = 1 then
      fX12_set_70 x1 x2 x3 1 0 x3 S
    else
      fX12_set_70 x1 x2 x3 9999 0 x3 S
noncomputable def fX12_set (p0 : Int32) (p1 : Int32) (p2 : Int32) (S : Mem) : Option (Int32 × Mem) :=
  if (fX12_isReader p0 (up S 12 0 0 0)) = 0 then
    some (0, (up S 12 0 0 0))
  else
    if (fX12_isIn p1 0 2) = 0 then
      some (0, (up S 12 0 0 0))
    else
      if p1 = 0 then
        if p2 = (-1) then
          fX12_set_51 p0 p1 p2 (up S 12 0 0 0)
        else
          if (fX12_isIn p2 ((up S 12 0 0 0) 12 0 2) 9999) = 0 then
            some (0, (up S 12 0 0 0))
          else
            fX12_set_51 p0 p1 p2 (up S 12 0 0 0)
      else
        fX12_set_51 p0 p1 p2 (up S 12 0 0 0)
noncomputable def fX12_isShelf (p0 : Int32) : Int32 :=
  if p0 < 0 then
    0
  else
    if 5 ≤ p0 then
      0
    else
      1
theorem zX12_isShelf (p0 : Int32) : (fX12_isShelf p0) = 0 ∨ (fX12_isShelf p0) = 1 := by
  unfold fX12_isShelf
  (repeat' split) <;> first | exact Or.inl rfl | exact Or.inr rfl
noncomputable def fX12_isUnread (p0 : Int32) (S : Mem) : Option (Mem) :=
  (ix p0 13).bind fun j1 =>
    some (up (up (up (up S 67 0 j1 0) 68 0 j1 0) 69 0 j1 0) 70 0 j1 ((up (up (up S 67 0 j1 0) 68 0 j1 0) 69 0 j1 0) 12 0 2))
noncomputable def fX12_paper (p0 : Int32) (S : Mem) : Option (Int32 × Mem) :=
  if (fX12_isShelf p0) = 0 then
    some ((-1), (up S 12 0 0 0))
  else
    if ((up S 12 0 0 0) 12 0 10) = 12 then
      some ((-1), (up S 12 0 0 0))
    else
      (ix ((up S 12 0 0 0) 12 0 10) 13).bind fun j3 =>
        (ix ((up (up S 12 0 0 0) 65 0 j3 p0) 12 0 10) 13).bind fun j5 =>
          (fX12_isUnread ((up (up (up S 12 0 0 0) 65 0 j3 p0) 66 0 j5 ((up (up S 12 0 0 0) 65 0 j3 p0) 12 0 2)) 12 0 10) (up (up (up S 12 0 0 0) 65 0 j3 p0) 66 0 j5 ((up (up S 12 0 0 0) 65 0 j3 p0) 12 0 2))).bind fun S8 =>
            (ix (S8 12 0 10) 12).bind fun j9 =>
              some ((((up (up (up S8 71 0 j9 (-1)) 12 0 10 (((up S8 71 0 j9 (-1)) 12 0 10) + 1)) 12 0 44 0) 12 0 10) - 1), (up (up (up S8 71 0 j9 (-1)) 12 0 10 (((up S8 71 0 j9 (-1)) 12 0 10) + 1)) 12 0 44 0))
noncomputable def fX12_isPaper (p0 : Int32) (S : Mem) : Int32 :=
  if p0 < 0 then
    0
  else
    if (S 12 0 10) ≤ p0 then
      0
    else
      1
theorem zX12_isPaper (p0 : Int32) (S : Mem) : (fX12_isPaper p0 S) = 0 ∨ (fX12_isPaper p0 S) = 1 := by
  unfold fX12_isPaper
  (repeat' split) <;> first | exact Or.inl rfl | exact Or.inr rfl
noncomputable def fX12_move (p0 : Int32) (p1 : Int32) (S : Mem) : Option (Int32 × Mem) :=
  if (fX12_isPaper p0 (up S 12 0 0 0)) = 0 then
    some (0, (up S 12 0 0 0))
  else
    if (fX12_isShelf p1) = 0 then
      some (0, (up S 12 0 0 0))
    else
      (ix p0 13).bind fun j3 =>
        some (1, (up (up (up S 12 0 0 0) 65 0 j3 p1) 12 0 44 0))
noncomputable def fX12_swap_30 : Nat → Int32 → Int32 → Int32 → Mem → Option (Int32 × Mem)
  | 0, _, _, _, _ => none
  | n + 1, x1, x2, x3, S =>
    if (S 12 0 10) ≤ x3 then
      some (1, (up S 12 0 44 0))
    else
      (ix x3 13).bind fun j5 =>
        if (S 65 0 j5) = x1 then
          fX12_swap_30 n x1 x2 (x3 + 1) (up S 65 0 j5 x2)
        else
          if (S 65 0 j5) = x2 then
            fX12_swap_30 n x1 x2 (x3 + 1) (up S 65 0 j5 x1)
          else
            fX12_swap_30 n x1 x2 (x3 + 1) (up S 65 0 j5 (S 65 0 j5))
noncomputable def fX12_swap (p0 : Int32) (p1 : Int32) (S : Mem) : Option (Int32 × Mem) :=
  if (fX12_isShelf p0) = 0 then
    some (0, (up S 12 0 0 0))
  else
    if (fX12_isShelf p1) = 0 then
      some (0, (up S 12 0 0 0))
    else
      if p0 = p1 then
        some (0, (up S 12 0 0 0))
      else
        fX12_swap_30 5000 p0 p1 0 (up S 12 0 0 0)
noncomputable def fX12_fire_19 : Nat → Int32 → Int32 → Int32 → Mem → Option (Int32 × Mem)
  | 0, _, _, _, _ => none
  | n + 1, x1, x2, x3, S =>
    if (S 12 0 10) ≤ x3 then
      some (x2, (up S 12 0 44 0))
    else
      (ix x3 13).bind fun j3 =>
        if (S 65 0 j3) = x1 then
          (fX12_isUnread x3 S).bind fun S7 =>
            fX12_fire_19 n x1 (x2 + 1) (x3 + 1) S7
        else
          fX12_fire_19 n x1 x2 (x3 + 1) S
noncomputable def fX12_fire (p0 : Int32) (S : Mem) : Option (Int32 × Mem) :=
  if (fX12_isShelf p0) = 0 then
    some ((-1), (up S 12 0 0 0))
  else
    fX12_fire_19 5000 p0 0 0 (up S 12 0 0 0)
noncomputable def fX12_doesLive (p0 : Int32) (p1 : Int32) (S : Mem) : Option (Int32) :=
  (ix p0 12).bind fun j1 =>
    if p1 < (S 60 0 j1) then
      some 0
    else
      if (S 61 0 j1) = (-1) then
        some 1
      else
        if (S 61 0 j1) ≤ p1 then
          some 0
        else
          some 1
noncomputable def fX12_keepsAhead_53 (x1 : Int32) (S : Mem) : Option (Mem) :=
  (ix (6 * (S 12 0 44)) 60).bind fun j3 =>
    (ix x1 13).bind fun j5 =>
      (ix ((6 * (S 12 0 44)) + 1) 60).bind fun j7 =>
        (ix ((6 * (S 12 0 44)) + 2) 60).bind fun j9 =>
          (ix ((6 * (S 12 0 44)) + 3) 60).bind fun j11 =>
            (ix ((6 * (S 12 0 44)) + 4) 60).bind fun j13 =>
              (ix ((6 * (S 12 0 44)) + 5) 60).bind fun j15 =>
                some (up (up (up (up (up (up (up S 83 0 j3 x1) 83 0 j7 ((up S 83 0 j3 x1) 67 0 j5)) 83 0 j9 ((up (up S 83 0 j3 x1) 83 0 j7 ((up S 83 0 j3 x1) 67 0 j5)) 68 0 j5)) 83 0 j11 ((up (up (up S 83 0 j3 x1) 83 0 j7 ((up S 83 0 j3 x1) 67 0 j5)) 83 0 j9 ((up (up S 83 0 j3 x1) 83 0 j7 ((up S 83 0 j3 x1) 67 0 j5)) 68 0 j5)) 69 0 j5)) 83 0 j13 ((up (up (up (up S 83 0 j3 x1) 83 0 j7 ((up S 83 0 j3 x1) 67 0 j5)) 83 0 j9 ((up (up S 83 0 j3 x1) 83 0 j7 ((up S 83 0 j3 x1) 67 0 j5)) 68 0 j5)) 83 0 j11 ((up (up (up S 83 0 j3 x1) 83 0 j7 ((up S 83 0 j3 x1) 67 0 j5)) 83 0 j9 ((up (up S 83 0 j3 x1) 83 0 j7 ((up S 83 0 j3 x1) 67 0 j5)) 68 0 j5)) 69 0 j5)) 70 0 j5)) 83 0 j15 ((up (up (up (up (up S 83 0 j3 x1) 83 0 j7 ((up S 83 0 j3 x1) 67 0 j5)) 83 0 j9 ((up (up S 83 0 j3 x1) 83 0 j7 ((up S 83 0 j3 x1) 67 0 j5)) 68 0 j5)) 83 0 j11 ((up (up (up S 83 0 j3 x1) 83 0 j7 ((up S 83 0 j3 x1) 67 0 j5)) 83 0 j9 ((up (up S 83 0 j3 x1) 83 0 j7 ((up S 83 0 j3 x1) 67 0 j5)) 68 0 j5)) 69 0 j5)) 83 0 j13 ((up (up (up (up S 83 0 j3 x1) 83 0 j7 ((up S 83 0 j3 x1) 67 0 j5)) 83 0 j9 ((up (up S 83 0 j3 x1) 83 0 j7 ((up S 83 0 j3 x1) 67 0 j5)) 68 0 j5)) 83 0 j11 ((up (up (up S 83 0 j3 x1) 83 0 j7 ((up S 83 0 j3 x1) 67 0 j5)) 83 0 j9 ((up (up S 83 0 j3 x1) 83 0 j7 ((up S 83 0 j3 x1) 67 0 j5)) 68 0 j5)) 69 0 j5)) 70 0 j5)) 12 0 18)) 12 0 44 (((up (up (up (up (up (up S 83 0 j3 x1) 83 0 j7 ((up S 83 0 j3 x1) 67 0 j5)) 83 0 j9 ((up (up S 83 0 j3 x1) 83 0 j7 ((up S 83 0 j3 x1) 67 0 j5)) 68 0 j5)) 83 0 j11 ((up (up (up S 83 0 j3 x1) 83 0 j7 ((up S 83 0 j3 x1) 67 0 j5)) 83 0 j9 ((up (up S 83 0 j3 x1) 83 0 j7 ((up S 83 0 j3 x1) 67 0 j5)) 68 0 j5)) 69 0 j5)) 83 0 j13 ((up (up (up (up S 83 0 j3 x1) 83 0 j7 ((up S 83 0 j3 x1) 67 0 j5)) 83 0 j9 ((up (up S 83 0 j3 x1) 83 0 j7 ((up S 83 0 j3 x1) 67 0 j5)) 68 0 j5)) 83 0 j11 ((up (up (up S 83 0 j3 x1) 83 0 j7 ((up S 83 0 j3 x1) 67 0 j5)) 83 0 j9 ((up (up S 83 0 j3 x1) 83 0 j7 ((up S 83 0 j3 x1) 67 0 j5)) 68 0 j5)) 69 0 j5)) 70 0 j5)) 83 0 j15 ((up (up (up (up (up S 83 0 j3 x1) 83 0 j7 ((up S 83 0 j3 x1) 67 0 j5)) 83 0 j9 ((up (up S 83 0 j3 x1) 83 0 j7 ((up S 83 0 j3 x1) 67 0 j5)) 68 0 j5)) 83 0 j11 ((up (up (up S 83 0 j3 x1) 83 0 j7 ((up S 83 0 j3 x1) 67 0 j5)) 83 0 j9 ((up (up S 83 0 j3 x1) 83 0 j7 ((up S 83 0 j3 x1) 67 0 j5)) 68 0 j5)) 69 0 j5)) 83 0 j13 ((up (up (up (up S 83 0 j3 x1) 83 0 j7 ((up S 83 0 j3 x1) 67 0 j5)) 83 0 j9 ((up (up S 83 0 j3 x1) 83 0 j7 ((up S 83 0 j3 x1) 67 0 j5)) 68 0 j5)) 83 0 j11 ((up (up (up S 83 0 j3 x1) 83 0 j7 ((up S 83 0 j3 x1) 67 0 j5)) 83 0 j9 ((up (up S 83 0 j3 x1) 83 0 j7 ((up S 83 0 j3 x1) 67 0 j5)) 68 0 j5)) 69 0 j5)) 70 0 j5)) 12 0 18)) 12 0 44) + 1))
noncomputable def fX12_keepsAhead_21 : Nat → Int32 → Int32 → Mem → Option (Mem)
  | 0, _, _, _ => none
  | n + 1, x1, x2, S =>
    if (6 * (S 12 0 44)) ≤ x2 then
      fX12_keepsAhead_53 x1 S
    else
      (ix (x2 + 6) 60).bind fun j17 =>
        (ix x2 60).bind fun j19 =>
          fX12_keepsAhead_21 n x1 (x2 + 1) (up S 83 0 j19 (S 83 0 j17))
noncomputable def fX12_keepsAhead (p0 : Int32) (S : Mem) : Option (Mem) :=
  if (S 12 0 44) = 10 then
    fX12_keepsAhead_21 5000 p0 0 (up S 12 0 44 ((S 12 0 44) - 1))
  else
    fX12_keepsAhead_53 p0 S
noncomputable def fX12_twoOf (p0 : Int32) (p1 : Int32) (p2 : Int32) : Option (Int32) :=
  if p0 = 2 then
    some (p1 + p2)
  else
    if p0 = 3 then
      some (p1 - p2)
    else
      if p0 = 4 then
        some (p1 * p2)
      else
        if p0 = 5 then
          if p2 = 0 then none else
            some (p1 / p2)
        else
          if p0 = 6 then
            if p2 ≤ p1 then
              some 0
            else
              some 1
          else
            if p0 = 7 then
              if p1 = p2 then
                some 1
              else
                some 0
            else
              if p0 = 8 then
                if p1 ≤ p2 then
                  some 0
                else
                  some 1
              else
                if p0 = 10 then
                  some (p1 * p2)
                else
                  if (p1 + p2) ≤ 0 then
                    some 0
                  else
                    some 1
noncomputable def fX12_runs_5 : Nat → Int32 → Int32 → Int32 → Mem → Option (Int32 × Mem)
  | 0, _, _, _, _ => none
  | n + 1, x2, x3, x4, S =>
    if x2 ≤ x4 then
      some ((S 82 0 0), S)
    else
      (ix x4 800).bind fun j2 =>
        if (S 78 0 j2) = 0 then
          (ix x3 420).bind fun j5 =>
            fX12_runs_5 n x2 (x3 + 1) (x4 + 1) (up S 82 0 j5 (S 79 0 j2))
        else
          if (S 78 0 j2) = 1 then
            (ix (S 79 0 j2) 9).bind fun j8 =>
              (ix x3 420).bind fun j10 =>
                fX12_runs_5 n x2 (x3 + 1) (x4 + 1) (up S 82 0 j10 (S 81 0 j8))
          else
            if (S 78 0 j2) = 9 then
              (ix (x3 - 1) 420).bind fun j13 =>
                fX12_runs_5 n x2 x3 (x4 + 1) (up S 82 0 j13 (1 - (S 82 0 j13)))
            else
              (ix ((x3 - 1) - 1) 420).bind fun j15 =>
                (ix (x3 - 1) 420).bind fun j17 =>
                  (fX12_twoOf (S 78 0 j2) (S 82 0 j15) (S 82 0 j17)).bind fun r20 =>
                    fX12_runs_5 n x2 (x3 - 1) (x4 + 1) (up S 82 0 j15 r20)
noncomputable def fX12_runs (p0 : Int32) (p1 : Int32) (S : Mem) : Option (Int32 × Mem) :=
  fX12_runs_5 5000 p1 0 p0 S
noncomputable def fX12_isSo (p0 : Int32) (S : Mem) : Option (Int32 × Mem) :=
  (ix p0 32).bind fun j1 =>
    if (S 75 0 j1) = (S 77 0 j1) then
      some (1, S)
    else
      bd (fX12_runs (S 75 0 j1) (S 77 0 j1) S) fun r6 S5 =>
        if r6 = 0 then
          some (0, S5)
        else
          some (1, S5)
noncomputable def fX12_yearsOf_26 (x1 : Int32) (y0 : Int32) (S : Mem) : Option (Int32) :=
  (ix x1 12).bind fun j4 =>
    some (y0 + (10 * (S 62 0 j4)))
noncomputable def fX12_yearsOf (p0 : Int32) (p1 : Int32) (S : Mem) : Option (Int32) :=
  (ix p0 12).bind fun j1 =>
    if p1 ≤ (S 60 0 j1) then
      fX12_yearsOf_26 p0 0 S
    else
      fX12_yearsOf_26 p0 ((p1 - (S 60 0 j1)) / 365) S
noncomputable def fX12_ageOf_178 : Nat → Int32 → Int32 → Mem → Option (Int32 × Mem)
  | 0, _, _, _ => none
  | n + 1, x5, x6, S =>
    if x6 < 0 then
      if 0 ≤ x5 then
        if x5 ≤ 999 then
          some (x5, S)
        else
          some (999, S)
      else
        some (0, S)
    else
      bd (fX12_isSo x6 S) fun r21 S20 =>
        if r21 = 0 then
          fX12_ageOf_178 n x5 (x6 + (-1)) S20
        else
          (ix x6 32).bind fun j23 =>
            bd (fX12_runs (S20 76 0 j23) (S20 75 0 j23) S20) fun r27 S26 =>
              fX12_ageOf_178 n r27 (x6 + (-1)) S26
noncomputable def fX12_ageOf_153 (x1 : Int32) (x2 : Int32) (y0 : Int32) (y1 : Int32) (S : Mem) : Option (Int32 × Mem) :=
  (ix y1 9).bind fun j12 =>
    (ix x1 13).bind fun j14 =>
      fX12_ageOf_178 5000 ((up (up S 81 0 j12 y0) 81 0 8 x2) 68 0 j14) (((up (up S 81 0 j12 y0) 81 0 8 x2) 12 0 27) - 1) (up (up S 81 0 j12 y0) 81 0 8 x2)
noncomputable def fX12_ageOf_152 (x1 : Int32) (x2 : Int32) (y0 : Int32) (S : Mem) : Option (Int32 × Mem) :=
  fX12_ageOf_153 x1 x2 0 y0 S
noncomputable def fX12_ageOf_125 (x1 : Int32) (x2 : Int32) (x3 : Int32) (x4 : Int32) (y0 : Int32) (y1 : Int32) (S : Mem) : Option (Int32 × Mem) :=
  (ix y1 9).bind fun j9 =>
    if x4 = (-1) then
      fX12_ageOf_152 x1 x2 7 (up S 81 0 j9 y0)
    else
      (fX12_doesLive x4 x3 (up S 81 0 j9 y0)).bind fun r29 =>
        if r29 = 0 then
          fX12_ageOf_152 x1 x2 7 (up S 81 0 j9 y0)
        else
          fX12_ageOf_153 x1 x2 1 7 (up S 81 0 j9 y0)
noncomputable def fX12_ageOf_44 (x1 : Int32) (x2 : Int32) (x3 : Int32) (x4 : Int32) (y0 : Int32) (y1 : Int32) (S : Mem) : Option (Int32 × Mem) :=
  (ix y1 9).bind fun j4 =>
    (ix x1 13).bind fun j6 =>
      if x4 = (-1) then
        fX12_ageOf_125 x1 x2 x3 x4 9 6 (up (up (up (up (up S 81 0 j4 y0) 81 0 2 (x3 - ((up S 81 0 j4 y0) 70 0 j6))) 81 0 3 ((x3 - ((up (up S 81 0 j4 y0) 81 0 2 (x3 - ((up S 81 0 j4 y0) 70 0 j6))) 66 0 j6)) / 365)) 81 0 4 ((up (up (up S 81 0 j4 y0) 81 0 2 (x3 - ((up S 81 0 j4 y0) 70 0 j6))) 81 0 3 ((x3 - ((up (up S 81 0 j4 y0) 81 0 2 (x3 - ((up S 81 0 j4 y0) 70 0 j6))) 66 0 j6)) / 365)) 69 0 j6)) 81 0 5 ((up (up (up (up S 81 0 j4 y0) 81 0 2 (x3 - ((up S 81 0 j4 y0) 70 0 j6))) 81 0 3 ((x3 - ((up (up S 81 0 j4 y0) 81 0 2 (x3 - ((up S 81 0 j4 y0) 70 0 j6))) 66 0 j6)) / 365)) 81 0 4 ((up (up (up S 81 0 j4 y0) 81 0 2 (x3 - ((up S 81 0 j4 y0) 70 0 j6))) 81 0 3 ((x3 - ((up (up S 81 0 j4 y0) 81 0 2 (x3 - ((up S 81 0 j4 y0) 70 0 j6))) 66 0 j6)) / 365)) 69 0 j6)) 65 0 j6))
      else
        (ix x4 12).bind fun j31 =>
          fX12_ageOf_125 x1 x2 x3 x4 ((up (up (up (up (up S 81 0 j4 y0) 81 0 2 (x3 - ((up S 81 0 j4 y0) 70 0 j6))) 81 0 3 ((x3 - ((up (up S 81 0 j4 y0) 81 0 2 (x3 - ((up S 81 0 j4 y0) 70 0 j6))) 66 0 j6)) / 365)) 81 0 4 ((up (up (up S 81 0 j4 y0) 81 0 2 (x3 - ((up S 81 0 j4 y0) 70 0 j6))) 81 0 3 ((x3 - ((up (up S 81 0 j4 y0) 81 0 2 (x3 - ((up S 81 0 j4 y0) 70 0 j6))) 66 0 j6)) / 365)) 69 0 j6)) 81 0 5 ((up (up (up (up S 81 0 j4 y0) 81 0 2 (x3 - ((up S 81 0 j4 y0) 70 0 j6))) 81 0 3 ((x3 - ((up (up S 81 0 j4 y0) 81 0 2 (x3 - ((up S 81 0 j4 y0) 70 0 j6))) 66 0 j6)) / 365)) 81 0 4 ((up (up (up S 81 0 j4 y0) 81 0 2 (x3 - ((up S 81 0 j4 y0) 70 0 j6))) 81 0 3 ((x3 - ((up (up S 81 0 j4 y0) 81 0 2 (x3 - ((up S 81 0 j4 y0) 70 0 j6))) 66 0 j6)) / 365)) 69 0 j6)) 65 0 j6)) 63 0 j31) 6 (up (up (up (up (up S 81 0 j4 y0) 81 0 2 (x3 - ((up S 81 0 j4 y0) 70 0 j6))) 81 0 3 ((x3 - ((up (up S 81 0 j4 y0) 81 0 2 (x3 - ((up S 81 0 j4 y0) 70 0 j6))) 66 0 j6)) / 365)) 81 0 4 ((up (up (up S 81 0 j4 y0) 81 0 2 (x3 - ((up S 81 0 j4 y0) 70 0 j6))) 81 0 3 ((x3 - ((up (up S 81 0 j4 y0) 81 0 2 (x3 - ((up S 81 0 j4 y0) 70 0 j6))) 66 0 j6)) / 365)) 69 0 j6)) 81 0 5 ((up (up (up (up S 81 0 j4 y0) 81 0 2 (x3 - ((up S 81 0 j4 y0) 70 0 j6))) 81 0 3 ((x3 - ((up (up S 81 0 j4 y0) 81 0 2 (x3 - ((up S 81 0 j4 y0) 70 0 j6))) 66 0 j6)) / 365)) 81 0 4 ((up (up (up S 81 0 j4 y0) 81 0 2 (x3 - ((up S 81 0 j4 y0) 70 0 j6))) 81 0 3 ((x3 - ((up (up S 81 0 j4 y0) 81 0 2 (x3 - ((up S 81 0 j4 y0) 70 0 j6))) 66 0 j6)) / 365)) 69 0 j6)) 65 0 j6))
noncomputable def fX12_ageOf (p0 : Int32) (p1 : Int32) (p2 : Int32) (S : Mem) : Option (Int32 × Mem) :=
  (ix p0 13).bind fun j1 =>
    if ((S 67 0 j1) - 1) = (-1) then
      fX12_ageOf_44 p0 p1 p2 ((S 67 0 j1) - 1) 0 1 (up S 81 0 0 (S 68 0 j1))
    else
      (fX12_yearsOf ((S 67 0 j1) - 1) p2 (up S 81 0 0 (S 68 0 j1))).bind fun r34 =>
        fX12_ageOf_44 p0 p1 p2 ((S 67 0 j1) - 1) r34 1 (up S 81 0 0 (S 68 0 j1))
noncomputable def fX12_isRead (p0 : Int32) (p1 : Int32) (p2 : Int32) (S : Mem) : Option (Mem) :=
  (ix p0 13).bind fun j1 =>
    (fX12_yearsOf p1 p2 (up S 67 0 j1 (p1 + 1))).bind fun r4 =>
      some (up (up (up (up S 67 0 j1 (p1 + 1)) 68 0 j1 r4) 69 0 j1 (((up (up S 67 0 j1 (p1 + 1)) 68 0 j1 r4) 69 0 j1) + 1)) 70 0 j1 p2)
noncomputable def fX12_read (p0 : Int32) (p1 : Int32) (S : Mem) : Option (Int32 × Mem) :=
  if (fX12_isPaper p0 (up S 12 0 0 0)) = 0 then
    some ((-1), (up S 12 0 0 0))
  else
    if (fX12_isReader p1 (up S 12 0 0 0)) = 0 then
      some ((-1), (up S 12 0 0 0))
    else
      (fX12_doesLive p1 ((up S 12 0 0 0) 12 0 2) (up S 12 0 0 0)).bind fun r4 =>
        if r4 = 0 then
          some ((-1), (up S 12 0 0 0))
        else
          (fX12_keepsAhead p0 (up S 12 0 0 0)).bind fun S7 =>
            bd (fX12_ageOf p0 p0 (S7 12 0 2) S7) fun r10 S9 =>
              (fX12_isRead p0 p1 (S9 12 0 2) S9).bind fun S12 =>
                bd (fX12_ageOf p0 p0 (S12 12 0 2) S12) fun r15 S14 =>
                  if 120 ≤ (S14 12 0 18) then
                    some (r15, S14)
                  else
                    (ix (5 * (S14 12 0 18)) 600).bind fun j17 =>
                      (ix ((5 * ((up S14 72 0 j17 p0) 12 0 18)) + 1) 600).bind fun j19 =>
                        (ix ((5 * ((up (up S14 72 0 j17 p0) 72 0 j19 p1) 12 0 18)) + 2) 600).bind fun j21 =>
                          (ix ((5 * ((up (up (up S14 72 0 j17 p0) 72 0 j19 p1) 72 0 j21 ((up (up S14 72 0 j17 p0) 72 0 j19 p1) 12 0 2)) 12 0 18)) + 3) 600).bind fun j23 =>
                            (ix ((5 * ((up (up (up (up S14 72 0 j17 p0) 72 0 j19 p1) 72 0 j21 ((up (up S14 72 0 j17 p0) 72 0 j19 p1) 12 0 2)) 72 0 j23 r10) 12 0 18)) + 4) 600).bind fun j25 =>
                              some (r15, (up (up (up (up (up (up S14 72 0 j17 p0) 72 0 j19 p1) 72 0 j21 ((up (up S14 72 0 j17 p0) 72 0 j19 p1) 12 0 2)) 72 0 j23 r10) 72 0 j25 r15) 12 0 18 (((up (up (up (up (up S14 72 0 j17 p0) 72 0 j19 p1) 72 0 j21 ((up (up S14 72 0 j17 p0) 72 0 j19 p1) 12 0 2)) 72 0 j23 r10) 72 0 j25 r15) 12 0 18) + 1)))
noncomputable def fX12_lease_40 (x1 : Int32) (x2 : Int32) (S : Mem) : Option (Int32 × Mem) :=
  (ix x1 12).bind fun j3 =>
    some (1, (up (up S 71 0 j3 x2) 12 0 44 0))
noncomputable def fX12_lease (p0 : Int32) (p1 : Int32) (S : Mem) : Option (Int32 × Mem) :=
  if (fX12_isPaper p0 (up S 12 0 0 0)) = 0 then
    some (0, (up S 12 0 0 0))
  else
    if p1 = (-1) then
      fX12_lease_40 p0 p1 (up S 12 0 0 0)
    else
      if (fX12_isReader p1 (up S 12 0 0 0)) = 0 then
        some (0, (up S 12 0 0 0))
      else
        (fX12_doesLive p1 ((up S 12 0 0 0) 12 0 2) (up S 12 0 0 0)).bind fun r7 =>
          if r7 = 0 then
            some (0, (up S 12 0 0 0))
          else
            fX12_lease_40 p0 p1 (up S 12 0 0 0)
noncomputable def fX12_leasesOf_4 : Nat → Int32 → Int32 → Int32 → Mem → Option (Int32)
  | 0, _, _, _, _ => none
  | n + 1, x1, x2, x3, S =>
    if (S 12 0 10) ≤ x3 then
      some x2
    else
      (ix x3 12).bind fun j2 =>
        if (S 71 0 j2) = x1 then
          fX12_leasesOf_4 n x1 (x2 + 1) (x3 + 1) S
        else
          fX12_leasesOf_4 n x1 x2 (x3 + 1) S
noncomputable def fX12_leasesOf (p0 : Int32) (S : Mem) : Option (Int32) :=
  fX12_leasesOf_4 5000 p0 0 0 S
noncomputable def fX12_nextOne_4 : Nat → Int32 → Int32 → Mem → Option (Int32)
  | 0, _, _, _ => none
  | n + 1, x1, x2, S =>
    if (S 12 0 3) ≤ x2 then
      some x1
    else
      (fX12_doesLive x2 (S 12 0 2) S).bind fun r3 =>
        if r3 = 0 then
          fX12_nextOne_4 n x1 (x2 + 1) S
        else
          (fX12_leasesOf x2 S).bind fun r6 =>
            if r6 = 0 then
              if x1 = (-1) then
                fX12_nextOne_4 n x2 (x2 + 1) S
              else
                (fX12_yearsOf x2 (S 12 0 2) S).bind fun r10 =>
                  (fX12_yearsOf x1 (S 12 0 2) S).bind fun r12 =>
                    if r10 ≤ r12 then
                      fX12_nextOne_4 n x1 (x2 + 1) S
                    else
                      fX12_nextOne_4 n x2 (x2 + 1) S
            else
              fX12_nextOne_4 n x1 (x2 + 1) S
noncomputable def fX12_nextOne (S : Mem) : Option (Int32) :=
  fX12_nextOne_4 5000 (-1) 0 S
noncomputable def fX12_draw (p0 : Int32) (S : Mem) : Option (Int32 × Mem) :=
  if p0 = 0 then none else
    some (((ushr ((up S 12 0 1 ((1664525 * (S 12 0 1)) + 1013904223)) 12 0 1) 8) - (ushr ((up S 12 0 1 ((1664525 * (S 12 0 1)) + 1013904223)) 12 0 1) 8) / p0 * p0), (up S 12 0 1 ((1664525 * (S 12 0 1)) + 1013904223)))
noncomputable def fX12_ends_88 : Nat → Int32 → Mem → Option (Mem)
  | 0, _, _ => none
  | n + 1, x1, S =>
    if (S 12 0 10) ≤ x1 then
      some S
    else
      (ix x1 12).bind fun j3 =>
        if (S 71 0 j3) = (-1) then
          fX12_ends_88 n (x1 + 1) S
        else
          (fX12_doesLive (S 71 0 j3) (S 12 0 2) S).bind fun r7 =>
            if r7 = 0 then
              (fX12_nextOne S).bind fun r10 =>
                fX12_ends_88 n (x1 + 1) (up S 71 0 j3 r10)
            else
              fX12_ends_88 n (x1 + 1) S
noncomputable def fX12_ends_12 : Nat → Int32 → Mem → Option (Mem)
  | 0, _, _ => none
  | n + 1, x1, S =>
    if (S 12 0 3) ≤ x1 then
      fX12_ends_88 5000 0 S
    else
      (ix x1 12).bind fun j11 =>
        if (S 64 0 j11) = 0 then
          fX12_ends_12 n (x1 + 1) S
        else
          (fX12_doesLive x1 (S 12 0 2) S).bind fun r15 =>
            if r15 = 0 then
              fX12_ends_12 n (x1 + 1) S
            else
              bd (fX12_draw 10000 S) fun r19 S18 =>
                if r19 < (S18 64 0 j11) then
                  fX12_ends_12 n (x1 + 1) (up (up S18 61 0 j11 (S18 12 0 2)) 12 0 9 (((up S18 61 0 j11 (S18 12 0 2)) 12 0 9) + 1))
                else
                  fX12_ends_12 n (x1 + 1) S18
noncomputable def fX12_ends (S : Mem) : Option (Mem) :=
  fX12_ends_12 5000 0 (up S 12 0 2 ((S 12 0 2) + 1))
noncomputable def fX12_days_38 : Nat → Int32 → Int32 → Int32 → Mem → Option (Int32 × Mem)
  | 0, _, _, _, _ => none
  | n + 1, x1, x2, x3, S =>
    if x1 ≤ x3 then
      some ((((up S 12 0 44 0) 12 0 9) - x2), (up S 12 0 44 0))
    else
      (fX12_ends S).bind fun S5 =>
        fX12_days_38 n x1 x2 (x3 + 1) S5
noncomputable def fX12_days (p0 : Int32) (S : Mem) : Option (Int32 × Mem) :=
  if (fX12_isIn p0 1 400) = 0 then
    some ((-1), (up S 12 0 0 0))
  else
    if (((up S 12 0 0 0) 12 0 2) + p0) ≤ 9999 then
      fX12_days_38 5000 p0 ((up S 12 0 0 0) 12 0 9) 0 (up S 12 0 0 0)
    else
      some ((-1), (up S 12 0 0 0))
noncomputable def fX12_types_3 : Nat → Int32 → Int32 → Mem → Option (Mem)
  | 0, _, _, _ => none
  | n + 1, x1, x2, S =>
    if x2 < 0 then
      some S
    else
      (ix (S 12 0 21) 400).bind fun j2 =>
        fX12_types_3 n x1 (x2 + (-8)) (up (up S 73 0 j2 ((x1 >>> (x2 &&& 31)) &&& 255)) 12 0 21 (((up S 73 0 j2 ((x1 >>> (x2 &&& 31)) &&& 255)) 12 0 21) + 1))
noncomputable def fX12_types (p0 : Int32) (S : Mem) : Option (Mem) :=
  fX12_types_3 5000 p0 24 S
noncomputable def fX12_feed (p0 : Int32) (p1 : Int32) (p2 : Int32) (p3 : Int32) (p4 : Int32) (S : Mem) : Option (Int32 × Mem) :=
  if ((up S 12 0 0 0) 12 0 21) ≤ 380 then
    (fX12_types p0 (up S 12 0 0 0)).bind fun S3 =>
      (fX12_types p1 S3).bind fun S5 =>
        (fX12_types p2 S5).bind fun S7 =>
          (fX12_types p3 S7).bind fun S9 =>
            (fX12_types p4 S9).bind fun S11 =>
              some ((S11 12 0 21), S11)
  else
    some ((-1), (up S 12 0 0 0))
noncomputable def fX12_end (p0 : Int32) (S : Mem) : Int32 × Mem :=
  if (fX12_isIn p0 0 ((up S 12 0 0 0) 12 0 21)) = 0 then
    (0, (up S 12 0 0 0))
  else
    (1, (up (up S 12 0 0 0) 12 0 21 p0))
theorem zX12_end (p0 : Int32) (S : Mem) : (fX12_end p0 S).1 = 0 ∨ (fX12_end p0 S).1 = 1 := by
  unfold fX12_end
  (repeat' split) <;> first | exact Or.inl rfl | exact Or.inr rfl | exact zX12_isIn _ _ _ 
noncomputable def fX12_raw (p0 : Int32) (S : Mem) : Option (Int32) :=
  if (S 12 0 21) ≤ p0 then
    some (-1)
  else
    (ix p0 400).bind fun j2 =>
      some (S 73 0 j2)
noncomputable def fX12_isLetter (p0 : Int32) : Int32 :=
  if (fX12_isIn p0 97 122) = 0 then
    if (fX12_isIn p0 65 90) = 0 then
      0
    else
      1
  else
    1
theorem zX12_isLetter (p0 : Int32) : (fX12_isLetter p0) = 0 ∨ (fX12_isLetter p0) = 1 := by
  unfold fX12_isLetter
  (repeat' split) <;> first | exact Or.inl rfl | exact Or.inr rfl | exact zX12_isIn _ _ _ 
noncomputable def fX12_isDigit (p0 : Int32) : Int32 :=
  (fX12_isIn p0 48 57)
theorem zX12_isDigit (p0 : Int32) : (fX12_isDigit p0) = 0 ∨ (fX12_isDigit p0) = 1 := by
  unfold fX12_isDigit
  (repeat' split) <;> first | exact Or.inl rfl | exact Or.inr rfl | exact zX12_isIn _ _ _ 
noncomputable def fX12_isMarkSign (p0 : Int32) : Int32 :=
  if p0 = 59 then
    1
  else
    if p0 = 43 then
      1
    else
      if p0 = 45 then
        1
      else
        if p0 = 42 then
          1
        else
          if p0 = 47 then
            1
          else
            if p0 = 40 then
              1
            else
              if p0 = 41 then
                1
              else
                if p0 = 60 then
                  1
                else
                  if p0 = 61 then
                    1
                  else
                    if p0 = 62 then
                      1
                    else
                      0
theorem zX12_isMarkSign (p0 : Int32) : (fX12_isMarkSign p0) = 0 ∨ (fX12_isMarkSign p0) = 1 := by
  unfold fX12_isMarkSign
  (repeat' split) <;> first | exact Or.inl rfl | exact Or.inr rfl
noncomputable def fX12_wordAt_19 : Nat → Int32 → Int32 → Int32 → Int32 → Int32 → Mem → Option (Int32)
  | 0, _, _, _, _, _, _ => none
  | n + 1, x1, x2, x3, x4, x5, S =>
    if x2 ≤ (x1 + x5) then
      some x5
    else
      (ix ((x4 + 1) + x5) 67).bind fun j3 =>
        (ix (x1 + x5) 400).bind fun j5 =>
          if (S 74 0 j3) = (S 73 0 j5) then
            fX12_wordAt_19 n x1 x2 x3 x4 (x5 + 1) S
          else
            some x5
noncomputable def fX12_wordAt_93 : Nat → Int32 → Int32 → Int32 → Int32 → Mem → Option (Int32)
  | 0, _, _, _, _, _ => none
  | n + 1, x1, x2, x3, x4, S =>
    (ix x4 67).bind fun j13 =>
      if (S 74 0 j13) = 32 then
        some x4
      else
        fX12_wordAt_93 n x1 x2 x3 (x4 + 1) S
noncomputable def fX12_wordAt_5 : Nat → Int32 → Int32 → Int32 → Int32 → Mem → Option (Int32)
  | 0, _, _, _, _, _ => none
  | n + 1, x1, x2, x3, x4, S =>
    if 66 ≤ x4 then
      some (-1)
    else
      (fX12_wordAt_19 5000 x1 x2 (x3 + 1) x4 0 S).bind fun v8 =>
        if (x1 + v8) = x2 then
          (ix ((x4 + 1) + v8) 67).bind fun j10 =>
            if (S 74 0 j10) = 32 then
              some (x3 + 1)
            else
              (fX12_wordAt_93 5000 x1 x2 (x3 + 1) (x4 + 1) S).bind fun v16 =>
                fX12_wordAt_5 n x1 x2 (x3 + 1) v16 S
        else
          (fX12_wordAt_93 5000 x1 x2 (x3 + 1) (x4 + 1) S).bind fun v18 =>
            fX12_wordAt_5 n x1 x2 (x3 + 1) v18 S
noncomputable def fX12_wordAt (p0 : Int32) (p1 : Int32) (S : Mem) : Option (Int32) :=
  fX12_wordAt_5 5000 p0 p1 (-1) 0 S
noncomputable def fX12_reads_171 : Nat → Mem → Option (Mem)
  | 0, _ => none
  | n + 1, S =>
    (fX12_raw (S 12 0 22) S).bind fun r14 =>
      if (fX12_isDigit r14) = 0 then
        if 5 ≤ ((S 12 0 22) - (S 12 0 23)) then
          some S
        else
          some (up S 12 0 24 3)
      else
        if 10000 ≤ (S 12 0 25) then
          fX12_reads_171 n (up (up S 12 0 25 (S 12 0 25)) 12 0 22 (((up S 12 0 25 (S 12 0 25)) 12 0 22) + 1))
        else
          (fX12_raw (S 12 0 22) S).bind fun r19 =>
            fX12_reads_171 n (up (up S 12 0 25 (((10 * (S 12 0 25)) + r19) - 48)) 12 0 22 (((up S 12 0 25 (((10 * (S 12 0 25)) + r19) - 48)) 12 0 22) + 1))
noncomputable def fX12_reads_95 : Nat → Mem → Option (Mem)
  | 0, _ => none
  | n + 1, S =>
    (fX12_raw (S 12 0 22) S).bind fun r21 =>
      if (fX12_isLetter r21) = 0 then
        (fX12_wordAt (S 12 0 23) (S 12 0 22) S).bind fun r24 =>
          if ((up S 12 0 25 r24) 12 0 25) = (-1) then
            some (up S 12 0 25 r24)
          else
            some (up (up S 12 0 25 r24) 12 0 24 2)
      else
        fX12_reads_95 n (up S 12 0 22 ((S 12 0 22) + 1))
noncomputable def fX12_reads_0 : Nat → Mem → Option (Mem)
  | 0, _ => none
  | n + 1, S =>
    (fX12_raw (S 12 0 22) S).bind fun r2 =>
      if r2 = 32 then
        fX12_reads_0 n (up S 12 0 22 ((S 12 0 22) + 1))
      else
        (fX12_raw (S 12 0 22) S).bind fun r5 =>
          if r5 = 10 then
            fX12_reads_0 n (up S 12 0 22 ((S 12 0 22) + 1))
          else
            (fX12_raw ((up (up S 12 0 23 (S 12 0 22)) 12 0 24 1) 12 0 22) (up (up S 12 0 23 (S 12 0 22)) 12 0 24 1)).bind fun r8 =>
              if r8 = (-1) then
                some (up (up (up S 12 0 23 (S 12 0 22)) 12 0 24 1) 12 0 24 0)
              else
                if (fX12_isLetter r8) = 0 then
                  if (fX12_isDigit r8) = 0 then
                    if (fX12_isMarkSign r8) = 0 then
                      some (up (up (up (up S 12 0 23 (S 12 0 22)) 12 0 24 1) 12 0 22 (((up (up S 12 0 23 (S 12 0 22)) 12 0 24 1) 12 0 22) + 1)) 12 0 25 r8)
                    else
                      some (up (up (up (up (up S 12 0 23 (S 12 0 22)) 12 0 24 1) 12 0 22 (((up (up S 12 0 23 (S 12 0 22)) 12 0 24 1) 12 0 22) + 1)) 12 0 25 r8) 12 0 24 4)
                  else
                    fX12_reads_171 5000 (up (up (up (up (up S 12 0 23 (S 12 0 22)) 12 0 24 1) 12 0 22 (((up (up S 12 0 23 (S 12 0 22)) 12 0 24 1) 12 0 22) + 1)) 12 0 25 r8) 12 0 25 (r8 - 48))
                else
                  fX12_reads_95 5000 (up (up (up (up S 12 0 23 (S 12 0 22)) 12 0 24 1) 12 0 22 (((up (up S 12 0 23 (S 12 0 22)) 12 0 24 1) 12 0 22) + 1)) 12 0 25 r8)
noncomputable def fX12_reads (S : Mem) : Option (Mem) :=
  fX12_reads_0 5000 S
noncomputable def fX12_isWord (p0 : Int32) (S : Mem) : Int32 :=
  if (S 12 0 24) = 2 then
    if (S 12 0 25) = p0 then
      1
    else
      0
  else
    0
theorem zX12_isWord (p0 : Int32) (S : Mem) : (fX12_isWord p0 S) = 0 ∨ (fX12_isWord p0 S) = 1 := by
  unfold fX12_isWord
  (repeat' split) <;> first | exact Or.inl rfl | exact Or.inr rfl
noncomputable def fX12_errs (p0 : Int32) (S : Mem) : Int32 × Mem :=
  ((-1), (up (up S 12 0 37 p0) 12 0 38 ((up S 12 0 37 p0) 12 0 23)))
noncomputable def fX12_emits (p0 : Int32) (p1 : Int32) (S : Mem) : Option (Mem) :=
  (ix (400 + (S 12 0 33)) 800).bind fun j1 =>
    (ix (400 + ((up S 78 0 j1 p0) 12 0 33)) 800).bind fun j3 =>
      some (up (up (up S 78 0 j1 p0) 79 0 j3 p1) 12 0 33 (((up (up S 78 0 j1 p0) 79 0 j3 p1) 12 0 33) + 1))
noncomputable def fX12_readUnit_50 (x1 : Int32) (y0 : Int32) (S : Mem) : Option (Int32 × Mem) :=
  if x1 = 0 then
    (fX12_emits y0 (S 12 0 25) S).bind fun S8 =>
      (fX12_reads S8).bind fun S10 =>
        some (0, S10)
  else
    (fX12_emits y0 ((S 12 0 25) - 5) S).bind fun S12 =>
      (fX12_reads S12).bind fun S14 =>
        some (0, S14)
noncomputable def fX12_readUnit_40 (x1 : Int32) (S : Mem) : Option (Int32 × Mem) :=
  if x1 = 0 then
    fX12_readUnit_50 x1 0 S
  else
    fX12_readUnit_50 x1 1 S
noncomputable def fX12_readUnit_21 (y0 : Int32) (S : Mem) : Option (Int32 × Mem) :=
  if y0 = 0 then
    if (S 12 0 24) = 3 then
      fX12_readUnit_40 y0 S
    else
      some ((fX12_errs 1 S).1, (fX12_errs 1 S).2)
  else
    fX12_readUnit_40 y0 S
noncomputable def fX12_readUnit_20 (S : Mem) : Option (Int32 × Mem) :=
  fX12_readUnit_21 0 S
noncomputable def fX12_readUnit (S : Mem) : Option (Int32 × Mem) :=
  if (S 12 0 24) = 2 then
    if (S 12 0 25) < 5 then
      fX12_readUnit_20 S
    else
      fX12_readUnit_21 1 S
  else
    fX12_readUnit_20 S
noncomputable def fX12_isSign (p0 : Int32) (S : Mem) : Int32 :=
  if (S 12 0 24) = 4 then
    if (S 12 0 25) = p0 then
      1
    else
      0
  else
    0
theorem zX12_isSign (p0 : Int32) (S : Mem) : (fX12_isSign p0 S) = 0 ∨ (fX12_isSign p0 S) = 1 := by
  unfold fX12_isSign
  (repeat' split) <;> first | exact Or.inl rfl | exact Or.inr rfl
noncomputable def fX12_readProduct_10 : Nat → Mem → Option (Int32 × Mem)
  | 0, _ => none
  | n + 1, S =>
    if (fX12_isSign 42 S) = 0 then
      if (fX12_isSign 47 S) = 0 then
        some (0, S)
      else
        (fX12_reads S).bind fun S8 =>
          if (S8 12 0 24) = 3 then
            if (S8 12 0 25) = 0 then
              some ((fX12_errs 2 S8).1, (fX12_errs 2 S8).2)
            else
              bd (fX12_readUnit S8) fun r13 S12 =>
                if r13 = (-1) then
                  some ((-1), S12)
                else
                  (fX12_emits 5 0 S12).bind fun S16 =>
                    fX12_readProduct_10 n S16
          else
            some ((fX12_errs 1 S8).1, (fX12_errs 1 S8).2)
    else
      (fX12_reads S).bind fun S18 =>
        bd (fX12_readUnit S18) fun r21 S20 =>
          if r21 = (-1) then
            some ((-1), S20)
          else
            (fX12_emits 4 0 S20).bind fun S24 =>
              fX12_readProduct_10 n S24
noncomputable def fX12_readProduct (S : Mem) : Option (Int32 × Mem) :=
  bd (fX12_readUnit S) fun r3 S2 =>
    if r3 = (-1) then
      some ((-1), S2)
    else
      fX12_readProduct_10 5000 S2
noncomputable def fX12_readSum_10 : Nat → Mem → Option (Int32 × Mem)
  | 0, _ => none
  | n + 1, S =>
    if (fX12_isSign 43 S) = 0 then
      if (fX12_isSign 45 S) = 0 then
        some (0, S)
      else
        if (S 12 0 25) = 43 then
          (fX12_reads S).bind fun S9 =>
            bd (fX12_readProduct S9) fun r12 S11 =>
              if r12 = (-1) then
                some ((-1), S11)
              else
                (fX12_emits 2 0 S11).bind fun S15 =>
                  fX12_readSum_10 n S15
        else
          (fX12_reads S).bind fun S17 =>
            bd (fX12_readProduct S17) fun r20 S19 =>
              if r20 = (-1) then
                some ((-1), S19)
              else
                (fX12_emits 3 0 S19).bind fun S23 =>
                  fX12_readSum_10 n S23
    else
      if (S 12 0 25) = 43 then
        (fX12_reads S).bind fun S26 =>
          bd (fX12_readProduct S26) fun r29 S28 =>
            if r29 = (-1) then
              some ((-1), S28)
            else
              (fX12_emits 2 0 S28).bind fun S32 =>
                fX12_readSum_10 n S32
      else
        (fX12_reads S).bind fun S34 =>
          bd (fX12_readProduct S34) fun r37 S36 =>
            if r37 = (-1) then
              some ((-1), S36)
            else
              (fX12_emits 3 0 S36).bind fun S40 =>
                fX12_readSum_10 n S40
noncomputable def fX12_readSum (S : Mem) : Option (Int32 × Mem) :=
  bd (fX12_readProduct S) fun r3 S2 =>
    if r3 = (-1) then
      some ((-1), S2)
    else
      fX12_readSum_10 5000 S2
noncomputable def fX12_settles_0 : Nat → Int32 → Mem → Option (Mem)
  | 0, _, _ => none
  | n + 1, x1, S =>
    if (S 12 0 36) ≤ 0 then
      some S
    else
      (ix ((S 12 0 36) - 1) 40).bind fun j2 =>
        if (S 80 0 j2) = x1 then
          (fX12_emits x1 0 (up S 12 0 36 ((S 12 0 36) - 1))).bind fun S6 =>
            if x1 = 9 then
              fX12_settles_0 n x1 (up S6 12 0 34 ((S6 12 0 34) - 1))
            else
              fX12_settles_0 n x1 S6
        else
          some S
noncomputable def fX12_settles (p0 : Int32) (S : Mem) : Option (Mem) :=
  fX12_settles_0 5000 p0 S
noncomputable def fX12_waits (p0 : Int32) (S : Mem) : Option (Mem) :=
  (ix (S 12 0 36) 40).bind fun j1 =>
    some (up (up S 80 0 j1 p0) 12 0 36 (((up S 80 0 j1 p0) 12 0 36) + 1))
noncomputable def fX12_readCompared_73 (y0 : Int32) (S : Mem) : Option (Int32 × Mem) :=
  (fX12_reads S).bind fun S10 =>
    bd (fX12_readSum S10) fun r13 S12 =>
      if r13 = (-1) then
        some ((-1), S12)
      else
        (fX12_emits y0 0 S12).bind fun S16 =>
          some (0, S16)
noncomputable def fX12_readCompared_43 (S : Mem) : Option (Int32 × Mem) :=
  if (S 12 0 25) = 60 then
    fX12_readCompared_73 6 S
  else
    if (S 12 0 25) = 61 then
      fX12_readCompared_73 7 S
    else
      fX12_readCompared_73 8 S
noncomputable def fX12_readCompared (S : Mem) : Option (Int32 × Mem) :=
  bd (fX12_readSum S) fun r3 S2 =>
    if r3 = (-1) then
      some ((-1), S2)
    else
      if (fX12_isSign 60 S2) = 0 then
        if (fX12_isSign 61 S2) = 0 then
          if (fX12_isSign 62 S2) = 0 then
            some ((fX12_errs 1 S2).1, (fX12_errs 1 S2).2)
          else
            fX12_readCompared_43 S2
        else
          fX12_readCompared_43 S2
      else
        fX12_readCompared_43 S2
noncomputable def fX12_readAny_9 : Nat → Int32 → Int32 → Mem → Option (Int32 × Mem)
  | 0, _, _, _ => none
  | n + 1, x1, x2, S =>
    if x2 = 0 then
      if (fX12_isWord 3 S) = 0 then
        if (fX12_isWord 2 S) = 0 then
          (fX12_settles 10 S).bind fun S5 =>
            (fX12_settles 11 S5).bind fun S7 =>
              if x1 = 0 then
                some (0, S7)
              else
                if (fX12_isSign 41 S7) = 0 then
                  some ((fX12_errs 1 S7).1, (fX12_errs 1 S7).2)
                else
                  (fX12_settles 9 (up (up S7 12 0 36 ((S7 12 0 36) - 1)) 12 0 34 (((up S7 12 0 36 ((S7 12 0 36) - 1)) 12 0 34) - 1))).bind fun S11 =>
                    (fX12_reads S11).bind fun S13 =>
                      fX12_readAny_9 n (x1 - 1) x2 S13
        else
          (fX12_settles 10 S).bind fun S15 =>
            (fX12_settles 11 S15).bind fun S17 =>
              (fX12_waits 11 S17).bind fun S19 =>
                (fX12_reads S19).bind fun S21 =>
                  fX12_readAny_9 n x1 1 S21
      else
        (fX12_settles 10 S).bind fun S23 =>
          (fX12_waits 10 S23).bind fun S25 =>
            (fX12_reads S25).bind fun S27 =>
              fX12_readAny_9 n x1 1 S27
    else
      if (fX12_isWord 4 S) = 0 then
        if (fX12_isSign 40 S) = 0 then
          bd (fX12_readCompared S) fun r32 S31 =>
            if r32 = (-1) then
              some ((-1), S31)
            else
              (fX12_settles 9 S31).bind fun S35 =>
                fX12_readAny_9 n x1 0 S35
        else
          if (S 12 0 34) = 8 then
            some ((fX12_errs 3 S).1, (fX12_errs 3 S).2)
          else
            (fX12_waits 12 (up S 12 0 34 ((S 12 0 34) + 1))).bind fun S38 =>
              (fX12_reads S38).bind fun S40 =>
                fX12_readAny_9 n (x1 + 1) x2 S40
      else
        if (S 12 0 34) = 8 then
          some ((fX12_errs 3 S).1, (fX12_errs 3 S).2)
        else
          (fX12_waits 9 (up S 12 0 34 ((S 12 0 34) + 1))).bind fun S43 =>
            (fX12_reads S43).bind fun S45 =>
              fX12_readAny_9 n x1 x2 S45
noncomputable def fX12_readAny (S : Mem) : Option (Int32 × Mem) :=
  fX12_readAny_9 5000 0 1 (up S 12 0 36 0)
noncomputable def fX12_readText_2 : Nat → Int32 → Mem → Option (Int32 × Mem)
  | 0, _, _ => none
  | n + 1, x1, S =>
    if (fX12_isWord 0 S) = 0 then
      if (S 12 0 24) = 0 then
        some (x1, S)
      else
        some ((fX12_errs 1 S).1, (fX12_errs 1 S).2)
    else
      if x1 = 16 then
        some ((fX12_errs 3 S).1, (fX12_errs 3 S).2)
      else
        (fX12_reads S).bind fun S5 =>
          (ix (16 + x1) 32).bind fun j6 =>
            bd (fX12_readSum (up S5 76 0 j6 (S5 12 0 33))) fun r10 S9 =>
              if r10 = (-1) then
                some ((-1), S9)
              else
                if (fX12_isWord 1 (up S9 75 0 j6 (S9 12 0 33))) = 0 then
                  if (fX12_isSign 59 (up (up S9 75 0 j6 (S9 12 0 33)) 77 0 j6 ((up S9 75 0 j6 (S9 12 0 33)) 12 0 33))) = 0 then
                    some ((fX12_errs 1 (up (up S9 75 0 j6 (S9 12 0 33)) 77 0 j6 ((up S9 75 0 j6 (S9 12 0 33)) 12 0 33))).1, (fX12_errs 1 (up (up S9 75 0 j6 (S9 12 0 33)) 77 0 j6 ((up S9 75 0 j6 (S9 12 0 33)) 12 0 33))).2)
                  else
                    (fX12_reads (up (up S9 75 0 j6 (S9 12 0 33)) 77 0 j6 ((up S9 75 0 j6 (S9 12 0 33)) 12 0 33))).bind fun S15 =>
                      fX12_readText_2 n (x1 + 1) S15
                else
                  (fX12_reads (up S9 75 0 j6 (S9 12 0 33))).bind fun S17 =>
                    bd (fX12_readAny S17) fun r20 S19 =>
                      if r20 = (-1) then
                        some ((-1), S19)
                      else
                        if (fX12_isSign 59 (up S19 77 0 j6 (S19 12 0 33))) = 0 then
                          some ((fX12_errs 1 (up S19 77 0 j6 (S19 12 0 33))).1, (fX12_errs 1 (up S19 77 0 j6 (S19 12 0 33))).2)
                        else
                          (fX12_reads (up S19 77 0 j6 (S19 12 0 33))).bind fun S24 =>
                            fX12_readText_2 n (x1 + 1) S24
noncomputable def fX12_readText (S : Mem) : Option (Int32 × Mem) :=
  fX12_readText_2 5000 0 S
noncomputable def fX12_text_127 : Nat → Int32 → Int32 → Mem → Option (Int32 × Mem)
  | 0, _, _, _ => none
  | n + 1, x1, x2, S =>
    if (S 12 0 33) ≤ x2 then
      some (x1, (up S 12 0 27 x1))
    else
      (ix (400 + x2) 800).bind fun j9 =>
        (ix x2 800).bind fun j11 =>
          fX12_text_127 n x1 (x2 + 1) (up (up S 78 0 j11 (S 78 0 j9)) 79 0 j11 ((up S 78 0 j11 (S 78 0 j9)) 79 0 j9))
noncomputable def fX12_text_69 : Nat → Int32 → Int32 → Mem → Option (Int32 × Mem)
  | 0, _, _, _ => none
  | n + 1, x1, x2, S =>
    if x1 ≤ x2 then
      fX12_text_127 5000 x1 0 S
    else
      (ix (16 + x2) 32).bind fun j13 =>
        (ix x2 32).bind fun j15 =>
          fX12_text_69 n x1 (x2 + 1) (up (up (up S 75 0 j15 (S 75 0 j13)) 76 0 j15 ((up S 75 0 j15 (S 75 0 j13)) 76 0 j13)) 77 0 j15 ((up (up S 75 0 j15 (S 75 0 j13)) 76 0 j15 ((up S 75 0 j15 (S 75 0 j13)) 76 0 j13)) 77 0 j13))
noncomputable def fX12_text (S : Mem) : Option (Int32 × Mem) :=
  (fX12_reads (up (up (up (up (up (up S 12 0 0 0) 12 0 39 0) 12 0 40 (-1)) 12 0 22 0) 12 0 33 0) 12 0 34 0)).bind fun S2 =>
    bd (fX12_readText S2) fun r5 S4 =>
      if r5 = (-1) then
        some ((-1), (up (up (up S4 12 0 21 0) 12 0 39 ((up S4 12 0 21 0) 12 0 37)) 12 0 40 ((up (up S4 12 0 21 0) 12 0 39 ((up S4 12 0 21 0) 12 0 37)) 12 0 38)))
      else
        fX12_text_69 5000 r5 0 (up S4 12 0 21 0)
noncomputable def fX12_fault (p0 : Int32) (S : Mem) : Int32 × Mem :=
  if p0 = 0 then
    (((up S 12 0 0 0) 12 0 39), (up S 12 0 0 0))
  else
    if p0 = 1 then
      (((up S 12 0 0 0) 12 0 40), (up S 12 0 0 0))
    else
      ((-1), (up S 12 0 0 0))
noncomputable def fX12_age (p0 : Int32) (p1 : Int32) (S : Mem) : Option (Int32 × Mem) :=
  if (fX12_isPaper p0 (up S 12 0 0 0)) = 0 then
    some ((-1), (up S 12 0 0 0))
  else
    if (fX12_isIn p1 ((up S 12 0 0 0) 12 0 2) 9999) = 0 then
      some ((-1), (up S 12 0 0 0))
    else
      bd (fX12_ageOf p0 p0 p1 (up S 12 0 0 0)) fun r5 S4 =>
        some (r5, S4)
noncomputable def fX12_staysFor_13 : Nat → Int32 → Int32 → Int32 → Mem → Option (Int32 × Mem)
  | 0, _, _, _, _ => none
  | n + 1, x1, x2, x3, S =>
    if 400 ≤ x3 then
      some (x3, S)
    else
      bd (fX12_ageOf x1 x1 ((S 12 0 2) + x3) S) fun r7 S6 =>
        if r7 = x2 then
          fX12_staysFor_13 n x1 x2 (x3 + 1) S6
        else
          some (x3, S6)
noncomputable def fX12_staysFor (p0 : Int32) (S : Mem) : Option (Int32 × Mem) :=
  bd (fX12_ageOf p0 p0 (S 12 0 2) S) fun r3 S2 =>
    fX12_staysFor_13 5000 p0 r3 1 S2
noncomputable def fX12_of (p0 : Int32) (p1 : Int32) (S : Mem) : Option (Int32 × Mem) :=
  if (fX12_isPaper p0 (up S 12 0 0 0)) = 0 then
    some ((-2), (up S 12 0 0 0))
  else
    if p1 = 0 then
      (ix p0 13).bind fun j3 =>
        some (((up S 12 0 0 0) 65 0 j3), (up S 12 0 0 0))
    else
      if p1 = 1 then
        (ix p0 13).bind fun j6 =>
          some (((up S 12 0 0 0) 66 0 j6), (up S 12 0 0 0))
      else
        if p1 = 2 then
          (ix p0 13).bind fun j9 =>
            some ((((up S 12 0 0 0) 67 0 j9) - 1), (up S 12 0 0 0))
        else
          if p1 = 3 then
            (ix p0 13).bind fun j12 =>
              some (((up S 12 0 0 0) 68 0 j12), (up S 12 0 0 0))
          else
            if p1 = 4 then
              (ix p0 13).bind fun j15 =>
                some (((up S 12 0 0 0) 69 0 j15), (up S 12 0 0 0))
            else
              if p1 = 5 then
                (ix p0 13).bind fun j18 =>
                  some (((up S 12 0 0 0) 70 0 j18), (up S 12 0 0 0))
              else
                if p1 = 6 then
                  (ix p0 12).bind fun j21 =>
                    some (((up S 12 0 0 0) 71 0 j21), (up S 12 0 0 0))
                else
                  if p1 = 7 then
                    bd (fX12_staysFor p0 (up S 12 0 0 0)) fun r26 S25 =>
                      some (r26, S25)
                  else
                    some ((-2), (up S 12 0 0 0))
noncomputable def fX12_who (p0 : Int32) (p1 : Int32) (S : Mem) : Option (Int32 × Mem) :=
  if (fX12_isReader p0 (up S 12 0 0 0)) = 0 then
    some ((-100000), (up S 12 0 0 0))
  else
    if p1 = 0 then
      (ix p0 12).bind fun j3 =>
        some (((up S 12 0 0 0) 60 0 j3), (up S 12 0 0 0))
    else
      if p1 = 1 then
        (ix p0 12).bind fun j6 =>
          some (((up S 12 0 0 0) 61 0 j6), (up S 12 0 0 0))
      else
        if p1 = 2 then
          (ix p0 12).bind fun j9 =>
            some (((up S 12 0 0 0) 62 0 j9), (up S 12 0 0 0))
        else
          if p1 = 3 then
            (ix p0 12).bind fun j12 =>
              some (((up S 12 0 0 0) 63 0 j12), (up S 12 0 0 0))
          else
            if p1 = 4 then
              (ix p0 12).bind fun j15 =>
                some (((up S 12 0 0 0) 64 0 j15), (up S 12 0 0 0))
            else
              if p1 = 5 then
                (fX12_doesLive p0 ((up S 12 0 0 0) 12 0 2) (up S 12 0 0 0)).bind fun r19 =>
                  if r19 = 0 then
                    some (0, (up S 12 0 0 0))
                  else
                    some (1, (up S 12 0 0 0))
              else
                if p1 = 6 then
                  (fX12_yearsOf p0 ((up S 12 0 0 0) 12 0 2) (up S 12 0 0 0)).bind fun r23 =>
                    some (r23, (up S 12 0 0 0))
                else
                  if p1 = 7 then
                    (fX12_leasesOf p0 (up S 12 0 0 0)).bind fun r26 =>
                      some (r26, (up S 12 0 0 0))
                  else
                    some ((-100000), (up S 12 0 0 0))
noncomputable def fX12_book (p0 : Int32) (p1 : Int32) (S : Mem) : Option (Int32 × Mem) :=
  if (fX12_isIn p0 0 (((up S 12 0 0 0) 12 0 18) - 1)) = 0 then
    some ((-1), (up S 12 0 0 0))
  else
    if (fX12_isIn p1 0 4) = 0 then
      some ((-1), (up S 12 0 0 0))
    else
      (ix ((5 * p0) + p1) 600).bind fun j3 =>
        some (((up S 12 0 0 0) 72 0 j3), (up S 12 0 0 0))
noncomputable def fX12_claim (p0 : Int32) (p1 : Int32) (p2 : Int32) (p3 : Int32) (S : Mem) : Option (Int32 × Mem) :=
  if (fX12_isPaper p0 (up S 12 0 0 0)) = 0 then
    some ((-1), (up S 12 0 0 0))
  else
    if (fX12_isIn p1 ((up S 12 0 0 0) 12 0 2) 9999) = 0 then
      some ((-1), (up S 12 0 0 0))
    else
      if p2 < 0 then
        some ((-1), (up S 12 0 0 0))
      else
        if 999 < p3 then
          some ((-1), (up S 12 0 0 0))
        else
          if p3 < p2 then
            some ((-1), (up S 12 0 0 0))
          else
            if ((up S 12 0 0 0) 12 0 45) = 6 then
              some ((-1), (up S 12 0 0 0))
            else
              (ix ((up S 12 0 0 0) 12 0 45) 6).bind fun j7 =>
                (ix ((up (up S 12 0 0 0) 84 0 j7 p0) 12 0 45) 6).bind fun j9 =>
                  (ix ((up (up (up S 12 0 0 0) 84 0 j7 p0) 85 0 j9 p1) 12 0 45) 6).bind fun j11 =>
                    (ix ((up (up (up (up S 12 0 0 0) 84 0 j7 p0) 85 0 j9 p1) 86 0 j11 p2) 12 0 45) 6).bind fun j13 =>
                      some ((((up (up (up (up (up (up S 12 0 0 0) 84 0 j7 p0) 85 0 j9 p1) 86 0 j11 p2) 87 0 j13 p3) 12 0 45 (((up (up (up (up (up S 12 0 0 0) 84 0 j7 p0) 85 0 j9 p1) 86 0 j11 p2) 87 0 j13 p3) 12 0 45) + 1)) 12 0 45) - 1), (up (up (up (up (up (up S 12 0 0 0) 84 0 j7 p0) 85 0 j9 p1) 86 0 j11 p2) 87 0 j13 p3) 12 0 45 (((up (up (up (up (up S 12 0 0 0) 84 0 j7 p0) 85 0 j9 p1) 86 0 j11 p2) 87 0 j13 p3) 12 0 45) + 1)))
noncomputable def fX12_livingNow_4 : Nat → Int32 → Int32 → Mem → Option (Int32)
  | 0, _, _, _ => none
  | n + 1, x1, x2, S =>
    if (S 12 0 3) ≤ x2 then
      some x1
    else
      (fX12_doesLive x2 (S 12 0 2) S).bind fun r3 =>
        if r3 = 0 then
          fX12_livingNow_4 n x1 (x2 + 1) S
        else
          fX12_livingNow_4 n (x1 ||| (1 <<< (x2 &&& 31))) (x2 + 1) S
noncomputable def fX12_livingNow (S : Mem) : Option (Int32) :=
  fX12_livingNow_4 5000 0 0 S
noncomputable def fX12_claimed_4 : Nat → Int32 → Int32 → Mem → Option (Int32)
  | 0, _, _, _ => none
  | n + 1, x1, x2, S =>
    if (S 12 0 45) ≤ x2 then
      some x1
    else
      (ix x2 6).bind fun j2 =>
        fX12_claimed_4 n (x1 ||| (1 <<< ((S 84 0 j2) &&& 31))) (x2 + 1) S
noncomputable def fX12_claimed (S : Mem) : Option (Int32) :=
  fX12_claimed_4 5000 0 0 S
noncomputable def fX12_areEnough_2 : Nat → Int32 → Int32 → Mem → Option (Int32)
  | 0, _, _, _ => none
  | n + 1, x1, x2, S =>
    if (S 12 0 10) ≤ x2 then
      some 1
    else
      (fX12_claimed S).bind fun r3 =>
        if ((r3 >>> (x2 &&& 31)) &&& 1) = 1 then
          (ix x2 12).bind fun j5 =>
            if ((S 88 0 j5) &&& (x1 ||| 4096)) = 0 then
              some 0
            else
              fX12_areEnough_2 n x1 (x2 + 1) S
        else
          fX12_areEnough_2 n x1 (x2 + 1) S
noncomputable def fX12_areEnough (p0 : Int32) (S : Mem) : Option (Int32) :=
  fX12_areEnough_2 5000 p0 0 S
noncomputable def fX12_ones_4 : Nat → Int32 → Int32 → Option (Int32)
  | 0, _, _ => none
  | n + 1, x2, x3 =>
    if x3 = 0 then
      some x2
    else
      fX12_ones_4 n (x2 + 1) (x3 &&& (x3 - 1))
noncomputable def fX12_ones (p0 : Int32) : Option (Int32) :=
  fX12_ones_4 5000 0 p0
noncomputable def fX12_thinksOf (p0 : Int32) (S : Mem) : Option (Mem) :=
  (ix p0 13).bind fun j1 =>
    some (up (up (up (up (up (up S 65 0 12 (S 65 0 j1)) 66 0 12 ((up S 65 0 12 (S 65 0 j1)) 66 0 j1)) 67 0 12 ((up (up S 65 0 12 (S 65 0 j1)) 66 0 12 ((up S 65 0 12 (S 65 0 j1)) 66 0 j1)) 67 0 j1)) 68 0 12 ((up (up (up S 65 0 12 (S 65 0 j1)) 66 0 12 ((up S 65 0 12 (S 65 0 j1)) 66 0 j1)) 67 0 12 ((up (up S 65 0 12 (S 65 0 j1)) 66 0 12 ((up S 65 0 12 (S 65 0 j1)) 66 0 j1)) 67 0 j1)) 68 0 j1)) 69 0 12 ((up (up (up (up S 65 0 12 (S 65 0 j1)) 66 0 12 ((up S 65 0 12 (S 65 0 j1)) 66 0 j1)) 67 0 12 ((up (up S 65 0 12 (S 65 0 j1)) 66 0 12 ((up S 65 0 12 (S 65 0 j1)) 66 0 j1)) 67 0 j1)) 68 0 12 ((up (up (up S 65 0 12 (S 65 0 j1)) 66 0 12 ((up S 65 0 12 (S 65 0 j1)) 66 0 j1)) 67 0 12 ((up (up S 65 0 12 (S 65 0 j1)) 66 0 12 ((up S 65 0 12 (S 65 0 j1)) 66 0 j1)) 67 0 j1)) 68 0 j1)) 69 0 j1)) 70 0 12 ((up (up (up (up (up S 65 0 12 (S 65 0 j1)) 66 0 12 ((up S 65 0 12 (S 65 0 j1)) 66 0 j1)) 67 0 12 ((up (up S 65 0 12 (S 65 0 j1)) 66 0 12 ((up S 65 0 12 (S 65 0 j1)) 66 0 j1)) 67 0 j1)) 68 0 12 ((up (up (up S 65 0 12 (S 65 0 j1)) 66 0 12 ((up S 65 0 12 (S 65 0 j1)) 66 0 j1)) 67 0 12 ((up (up S 65 0 12 (S 65 0 j1)) 66 0 12 ((up S 65 0 12 (S 65 0 j1)) 66 0 j1)) 67 0 j1)) 68 0 j1)) 69 0 12 ((up (up (up (up S 65 0 12 (S 65 0 j1)) 66 0 12 ((up S 65 0 12 (S 65 0 j1)) 66 0 j1)) 67 0 12 ((up (up S 65 0 12 (S 65 0 j1)) 66 0 12 ((up S 65 0 12 (S 65 0 j1)) 66 0 j1)) 67 0 j1)) 68 0 12 ((up (up (up S 65 0 12 (S 65 0 j1)) 66 0 12 ((up S 65 0 12 (S 65 0 j1)) 66 0 j1)) 67 0 12 ((up (up S 65 0 12 (S 65 0 j1)) 66 0 12 ((up S 65 0 12 (S 65 0 j1)) 66 0 j1)) 67 0 j1)) 68 0 j1)) 69 0 j1)) 70 0 j1))
noncomputable def fX12_doStand_2 : Nat → Int32 → Int32 → Mem → Option (Int32 × Mem)
  | 0, _, _, _ => none
  | n + 1, x1, x2, S =>
    if (S 12 0 45) ≤ x2 then
      some (1, S)
    else
      (ix x2 6).bind fun j2 =>
        if (S 84 0 j2) = x1 then
          bd (fX12_ageOf 12 x1 (S 85 0 j2) S) fun r7 S6 =>
            if (fX12_isIn r7 (S6 86 0 j2) (S6 87 0 j2)) = 0 then
              some (0, S6)
            else
              fX12_doStand_2 n x1 (x2 + 1) S6
        else
          fX12_doStand_2 n x1 (x2 + 1) S
noncomputable def fX12_doStand (p0 : Int32) (S : Mem) : Option (Int32 × Mem) :=
  fX12_doStand_2 5000 p0 0 S
noncomputable def fX12_findsStanding_23 : Nat → Int32 → Int32 → Int32 → Mem → Option (Int32 × Mem)
  | 0, _, _, _, _ => none
  | n + 1, x1, x2, x3, S =>
    if (S 12 0 3) ≤ x3 then
      some (x2, S)
    else
      (fX12_doesLive x3 (S 12 0 2) S).bind fun r9 =>
        if r9 = 0 then
          fX12_findsStanding_23 n x1 x2 (x3 + 1) S
        else
          (fX12_thinksOf x1 S).bind fun S12 =>
            (fX12_isRead 12 x3 (S12 12 0 2) S12).bind fun S14 =>
              bd (fX12_doStand x1 S14) fun r17 S16 =>
                if r17 = 0 then
                  fX12_findsStanding_23 n x1 x2 (x3 + 1) S16
                else
                  fX12_findsStanding_23 n x1 (x2 ||| (1 <<< (x3 &&& 31))) (x3 + 1) S16
noncomputable def fX12_findsStanding_20 (x1 : Int32) (y0 : Int32) (S : Mem) : Option (Int32 × Mem) :=
  fX12_findsStanding_23 5000 x1 y0 0 S
noncomputable def fX12_findsStanding (p0 : Int32) (S : Mem) : Option (Int32 × Mem) :=
  (fX12_thinksOf p0 S).bind fun S2 =>
    bd (fX12_doStand p0 S2) fun r5 S4 =>
      if r5 = 0 then
        fX12_findsStanding_20 p0 0 S4
      else
        fX12_findsStanding_20 p0 4096 S4
noncomputable def fX12_fewest_194 : Nat → Int32 → Int32 → Int32 → Mem → Option (Int32 × Mem)
  | 0, _, _, _, _ => none
  | n + 1, x2, x3, x4, S =>
    (ix x2 12).bind fun j10 =>
      if (((S 88 0 j10) &&& x3) &&& (1 <<< (x4 &&& 31))) = 0 then
        fX12_fewest_194 n x2 x3 (x4 + 1) S
      else
        some (x4, S)
noncomputable def fX12_fewest_105 : Nat → Int32 → Int32 → Int32 → Int32 → Mem → Option (Int32 × Mem)
  | 0, _, _, _, _, _ => none
  | n + 1, x1, x2, x3, x4, S =>
    if (1 <<< ((S 12 0 3) &&& 31)) ≤ x4 then
      if x1 = 0 then
        some (x3, S)
      else
        if x3 = (-1) then
          some (x3, S)
        else
          (ix x2 12).bind fun j7 =>
            if ((S 88 0 j7) &&& 4096) = 0 then
              fX12_fewest_194 5000 x2 x3 0 S
            else
              some ((-1), S)
    else
      (fX12_livingNow S).bind fun r14 =>
        if (x4 &&& (r14 ^^^ (-1))) = 0 then
          if x3 = (-1) then
            (fX12_areEnough x4 S).bind fun r18 =>
              if r18 = 0 then
                fX12_fewest_105 n x1 x2 x3 (x4 + 1) S
              else
                fX12_fewest_105 n x1 x2 x4 (x4 + 1) S
          else
            (fX12_ones x4).bind fun r21 =>
              (fX12_ones x3).bind fun r23 =>
                if r23 ≤ r21 then
                  fX12_fewest_105 n x1 x2 x3 (x4 + 1) S
                else
                  (fX12_areEnough x4 S).bind fun r26 =>
                    if r26 = 0 then
                      fX12_fewest_105 n x1 x2 x3 (x4 + 1) S
                    else
                      fX12_fewest_105 n x1 x2 x4 (x4 + 1) S
        else
          fX12_fewest_105 n x1 x2 x3 (x4 + 1) S
noncomputable def fX12_fewest_57 : Nat → Int32 → Int32 → Int32 → Mem → Option (Int32 × Mem)
  | 0, _, _, _, _ => none
  | n + 1, x1, x2, x3, S =>
    if (S 12 0 10) ≤ x3 then
      fX12_fewest_105 5000 x1 x2 (-1) 0 S
    else
      (fX12_claimed S).bind fun r29 =>
        if ((r29 >>> (x3 &&& 31)) &&& 1) = 1 then
          bd (fX12_findsStanding x3 S) fun r33 S32 =>
            (ix x3 12).bind fun j34 =>
              fX12_fewest_57 n x1 x2 (x3 + 1) (up S32 88 0 j34 r33)
        else
          (ix x3 12).bind fun j36 =>
            fX12_fewest_57 n x1 x2 (x3 + 1) (up S 88 0 j36 4096)
noncomputable def fX12_fewest_26 : Nat → Int32 → Int32 → Int32 → Mem → Option (Int32 × Mem)
  | 0, _, _, _, _ => none
  | n + 1, x1, x2, x3, S =>
    if (S 12 0 45) ≤ x3 then
      fX12_fewest_57 5000 x1 x2 0 S
    else
      (ix x3 6).bind fun j38 =>
        if (S 12 0 2) ≤ (S 85 0 j38) then
          fX12_fewest_26 n x1 x2 (x3 + 1) S
        else
          some ((-1), S)
noncomputable def fX12_fewest_24 (x1 : Int32) (x2 : Int32) (S : Mem) : Option (Int32 × Mem) :=
  fX12_fewest_26 5000 x1 x2 0 S
noncomputable def fX12_fewest (p0 : Int32) (S : Mem) : Option (Int32 × Mem) :=
  if p0 = 0 then
    fX12_fewest_24 p0 (p0 - 10) (up S 12 0 0 0)
  else
    if (fX12_isPaper (p0 - 10) (up S 12 0 0 0)) = 0 then
      some ((-1), (up S 12 0 0 0))
    else
      fX12_fewest_24 p0 (p0 - 10) (up S 12 0 0 0)
noncomputable def fX12_thumbs_96 : Nat → Int32 → Int32 → Int32 → Int32 → Int32 → Int32 → Int32 → Int32 → Int32 → Mem → Option (Int32 × Int32 × Int32 × Mem)
  | 0, _, _, _, _, _, _, _, _, _, _ => none
  | n + 1, x1, x2, x3, x4, x5, x6, x7, x8, x9, S =>
    if (S 12 0 2) < x9 then
      some (x5, x6, x7, S)
    else
      (fX12_doesLive x8 x9 S).bind fun r12 =>
        if r12 = 0 then
          fX12_thumbs_96 n x1 x2 x3 x4 x5 x6 x7 x8 (x9 + 1) S
        else
          (fX12_thinksOf x1 S).bind fun S15 =>
            (fX12_isRead 12 x8 x9 S15).bind fun S17 =>
              bd (fX12_ageOf 12 x1 (S17 12 0 2) S17) fun r20 S19 =>
                if r20 = x2 then
                  if x5 = 0 then
                    fX12_thumbs_96 n x1 x2 x3 x4 (x5 + 1) x8 x9 x8 (x9 + 1) S19
                  else
                    fX12_thumbs_96 n x1 x2 x3 x4 (x5 + 1) x6 x7 x8 (x9 + 1) S19
                else
                  fX12_thumbs_96 n x1 x2 x3 x4 x5 x6 x7 x8 (x9 + 1) S19
noncomputable def fX12_thumbs_83 : Nat → Int32 → Int32 → Int32 → Int32 → Int32 → Int32 → Int32 → Int32 → Mem → Option (Int32 × Mem)
  | 0, _, _, _, _, _, _, _, _, _ => none
  | n + 1, x1, x2, x3, x4, x5, x6, x7, x8, S =>
    if (S 12 0 3) ≤ x8 then
      if x3 = 0 then
        some (x5, S)
      else
        if x3 = 1 then
          some (x6, S)
        else
          some (x7, S)
    else
      bd4 (fX12_thumbs_96 5000 x1 x2 x3 x4 x5 x6 x7 x8 x4 S) fun v23 v24 v25 S26 =>
        fX12_thumbs_83 n x1 x2 x3 x4 v23 v24 v25 (x8 + 1) S26
noncomputable def fX12_thumbs_69 (x1 : Int32) (x2 : Int32) (x3 : Int32) (y0 : Int32) (S : Mem) : Option (Int32 × Mem) :=
  fX12_thumbs_83 5000 x1 x2 x3 y0 0 (-1) (-1) 0 S
noncomputable def fX12_thumbs (p0 : Int32) (p1 : Int32) (p2 : Int32) (S : Mem) : Option (Int32 × Mem) :=
  if (fX12_isPaper p0 (up S 12 0 0 0)) = 0 then
    some ((-1), (up S 12 0 0 0))
  else
    if (fX12_isIn p1 0 999) = 0 then
      some ((-1), (up S 12 0 0 0))
    else
      if (fX12_isIn p2 0 2) = 0 then
        some ((-1), (up S 12 0 0 0))
      else
        (ix p0 13).bind fun j4 =>
          if (((up S 12 0 0 0) 12 0 2) - 99) ≤ ((up S 12 0 0 0) 66 0 j4) then
            fX12_thumbs_69 p0 p1 p2 ((up S 12 0 0 0) 66 0 j4) (up S 12 0 0 0)
          else
            fX12_thumbs_69 p0 p1 p2 (((up S 12 0 0 0) 12 0 2) - 99) (up S 12 0 0 0)
noncomputable def fX12_without (p0 : Int32) : Int32 :=
  if 0 ≤ p0 then
    p0
  else
    (-p0)
noncomputable def fX12_leaps_48 : Nat → Int32 → Int32 → Int32 → Int32 → Int32 → Int32 → Mem → Option (Int32 × Mem)
  | 0, _, _, _, _, _, _, _ => none
  | n + 1, x1, x2, x3, x4, x5, x6, S =>
    if (S 12 0 18) ≤ x6 then
      if x3 = 0 then
        some (x4, S)
      else
        some (x5, S)
    else
      (ix ((5 * x6) + 1) 600).bind fun j6 =>
        (ix (S 72 0 j6) 12).bind fun j8 =>
          if (S 63 0 j8) = x1 then
            (ix ((5 * x6) + 3) 600).bind fun j11 =>
              (ix ((5 * x6) + 4) 600).bind fun j13 =>
                if x2 ≤ (fX12_without ((S 72 0 j11) - (S 72 0 j13))) then
                  if x4 = 0 then
                    fX12_leaps_48 n x1 x2 x3 (x4 + 1) x6 (x6 + 1) S
                  else
                    fX12_leaps_48 n x1 x2 x3 (x4 + 1) x5 (x6 + 1) S
                else
                  fX12_leaps_48 n x1 x2 x3 x4 x5 (x6 + 1) S
          else
            fX12_leaps_48 n x1 x2 x3 x4 x5 (x6 + 1) S
noncomputable def fX12_leaps (p0 : Int32) (p1 : Int32) (p2 : Int32) (S : Mem) : Option (Int32 × Mem) :=
  if (fX12_isIn p0 0 3) = 0 then
    some ((-1), (up S 12 0 0 0))
  else
    if (fX12_isIn p1 0 999) = 0 then
      some ((-1), (up S 12 0 0 0))
    else
      if (fX12_isIn p2 0 1) = 0 then
        some ((-1), (up S 12 0 0 0))
      else
        fX12_leaps_48 5000 p0 p1 p2 0 (-1) 0 (up S 12 0 0 0)
noncomputable def fX12_next (S : Mem) : Option (Int32 × Mem) :=
  (fX12_nextOne (up S 12 0 0 0)).bind fun r2 =>
    some (r2, (up S 12 0 0 0))
noncomputable def fX12_papersOn_4 : Nat → Int32 → Int32 → Int32 → Mem → Option (Int32)
  | 0, _, _, _, _ => none
  | n + 1, x1, x2, x3, S =>
    if (S 12 0 10) ≤ x3 then
      some x2
    else
      (ix x3 13).bind fun j2 =>
        if (S 65 0 j2) = x1 then
          fX12_papersOn_4 n x1 (x2 + 1) (x3 + 1) S
        else
          fX12_papersOn_4 n x1 x2 (x3 + 1) S
noncomputable def fX12_papersOn (p0 : Int32) (S : Mem) : Option (Int32) :=
  fX12_papersOn_4 5000 p0 0 0 S
noncomputable def fX12_agesOn_4 : Nat → Int32 → Int32 → Int32 → Mem → Option (Int32 × Mem)
  | 0, _, _, _, _ => none
  | n + 1, x1, x2, x3, S =>
    if (S 12 0 10) ≤ x3 then
      some (x2, S)
    else
      (ix x3 13).bind fun j2 =>
        if (S 65 0 j2) = x1 then
          bd (fX12_ageOf x3 x3 (S 12 0 2) S) fun r7 S6 =>
            fX12_agesOn_4 n x1 (x2 + r7) (x3 + 1) S6
        else
          fX12_agesOn_4 n x1 x2 (x3 + 1) S
noncomputable def fX12_agesOn (p0 : Int32) (S : Mem) : Option (Int32 × Mem) :=
  fX12_agesOn_4 5000 p0 0 0 S
noncomputable def fX12_close_9 : Nat → Int32 → Int32 → Mem → Option (Int32 × Mem)
  | 0, _, _, _ => none
  | n + 1, x1, x2, S =>
    if 5 ≤ x2 then
      some (x1, S)
    else
      (fX12_papersOn x2 S).bind fun r3 =>
        if r3 ≤ 0 then
          fX12_close_9 n x1 (x2 + 1) S
        else
          if x1 = (-1) then
            fX12_close_9 n x2 (x2 + 1) S
          else
            bd (fX12_agesOn x2 S) fun r8 S7 =>
              bd (fX12_agesOn x1 S7) fun r11 S10 =>
                if r8 ≤ r11 then
                  fX12_close_9 n x1 (x2 + 1) S10
                else
                  fX12_close_9 n x2 (x2 + 1) S10
noncomputable def fX12_close (S : Mem) : Option (Int32 × Mem) :=
  fX12_close_9 5000 (-1) 0 (up S 12 0 0 0)
noncomputable def fX12_mean (p0 : Int32) (S : Mem) : Option (Int32 × Mem) :=
  if (fX12_isShelf p0) = 0 then
    some ((-1), (up S 12 0 0 0))
  else
    (fX12_papersOn p0 (up S 12 0 0 0)).bind fun r3 =>
      if r3 ≤ 0 then
        some ((-1), (up S 12 0 0 0))
      else
        bd (fX12_agesOn p0 (up S 12 0 0 0)) fun r7 S6 =>
          (fX12_papersOn p0 S6).bind fun r9 =>
            if r9 = 0 then none else
              some ((r7 / r9), S6)
noncomputable def fX12_undo (S : Mem) : Option (Int32 × Mem) :=
  if ((up S 12 0 0 0) 12 0 44) = 0 then
    some (0, (up S 12 0 0 0))
  else
    (ix (6 * ((up (up S 12 0 0 0) 12 0 44 (((up S 12 0 0 0) 12 0 44) - 1)) 12 0 44)) 60).bind fun j2 =>
      (ix ((6 * ((up (up S 12 0 0 0) 12 0 44 (((up S 12 0 0 0) 12 0 44) - 1)) 12 0 44)) + 1) 60).bind fun j4 =>
        (ix ((up (up S 12 0 0 0) 12 0 44 (((up S 12 0 0 0) 12 0 44) - 1)) 83 0 j2) 13).bind fun j6 =>
          (ix ((6 * ((up (up S 12 0 0 0) 12 0 44 (((up S 12 0 0 0) 12 0 44) - 1)) 12 0 44)) + 2) 60).bind fun j8 =>
            (ix ((6 * ((up (up S 12 0 0 0) 12 0 44 (((up S 12 0 0 0) 12 0 44) - 1)) 12 0 44)) + 3) 60).bind fun j10 =>
              (ix ((6 * ((up (up S 12 0 0 0) 12 0 44 (((up S 12 0 0 0) 12 0 44) - 1)) 12 0 44)) + 4) 60).bind fun j12 =>
                (ix ((6 * ((up (up S 12 0 0 0) 12 0 44 (((up S 12 0 0 0) 12 0 44) - 1)) 12 0 44)) + 5) 60).bind fun j14 =>
                  some (1, (up (up (up (up (up (up (up S 12 0 0 0) 12 0 44 (((up S 12 0 0 0) 12 0 44) - 1)) 67 0 j6 ((up (up S 12 0 0 0) 12 0 44 (((up S 12 0 0 0) 12 0 44) - 1)) 83 0 j4)) 68 0 j6 ((up (up (up S 12 0 0 0) 12 0 44 (((up S 12 0 0 0) 12 0 44) - 1)) 67 0 j6 ((up (up S 12 0 0 0) 12 0 44 (((up S 12 0 0 0) 12 0 44) - 1)) 83 0 j4)) 83 0 j8)) 69 0 j6 ((up (up (up (up S 12 0 0 0) 12 0 44 (((up S 12 0 0 0) 12 0 44) - 1)) 67 0 j6 ((up (up S 12 0 0 0) 12 0 44 (((up S 12 0 0 0) 12 0 44) - 1)) 83 0 j4)) 68 0 j6 ((up (up (up S 12 0 0 0) 12 0 44 (((up S 12 0 0 0) 12 0 44) - 1)) 67 0 j6 ((up (up S 12 0 0 0) 12 0 44 (((up S 12 0 0 0) 12 0 44) - 1)) 83 0 j4)) 83 0 j8)) 83 0 j10)) 70 0 j6 ((up (up (up (up (up S 12 0 0 0) 12 0 44 (((up S 12 0 0 0) 12 0 44) - 1)) 67 0 j6 ((up (up S 12 0 0 0) 12 0 44 (((up S 12 0 0 0) 12 0 44) - 1)) 83 0 j4)) 68 0 j6 ((up (up (up S 12 0 0 0) 12 0 44 (((up S 12 0 0 0) 12 0 44) - 1)) 67 0 j6 ((up (up S 12 0 0 0) 12 0 44 (((up S 12 0 0 0) 12 0 44) - 1)) 83 0 j4)) 83 0 j8)) 69 0 j6 ((up (up (up (up S 12 0 0 0) 12 0 44 (((up S 12 0 0 0) 12 0 44) - 1)) 67 0 j6 ((up (up S 12 0 0 0) 12 0 44 (((up S 12 0 0 0) 12 0 44) - 1)) 83 0 j4)) 68 0 j6 ((up (up (up S 12 0 0 0) 12 0 44 (((up S 12 0 0 0) 12 0 44) - 1)) 67 0 j6 ((up (up S 12 0 0 0) 12 0 44 (((up S 12 0 0 0) 12 0 44) - 1)) 83 0 j4)) 83 0 j8)) 83 0 j10)) 83 0 j12)) 12 0 18 ((up (up (up (up (up (up S 12 0 0 0) 12 0 44 (((up S 12 0 0 0) 12 0 44) - 1)) 67 0 j6 ((up (up S 12 0 0 0) 12 0 44 (((up S 12 0 0 0) 12 0 44) - 1)) 83 0 j4)) 68 0 j6 ((up (up (up S 12 0 0 0) 12 0 44 (((up S 12 0 0 0) 12 0 44) - 1)) 67 0 j6 ((up (up S 12 0 0 0) 12 0 44 (((up S 12 0 0 0) 12 0 44) - 1)) 83 0 j4)) 83 0 j8)) 69 0 j6 ((up (up (up (up S 12 0 0 0) 12 0 44 (((up S 12 0 0 0) 12 0 44) - 1)) 67 0 j6 ((up (up S 12 0 0 0) 12 0 44 (((up S 12 0 0 0) 12 0 44) - 1)) 83 0 j4)) 68 0 j6 ((up (up (up S 12 0 0 0) 12 0 44 (((up S 12 0 0 0) 12 0 44) - 1)) 67 0 j6 ((up (up S 12 0 0 0) 12 0 44 (((up S 12 0 0 0) 12 0 44) - 1)) 83 0 j4)) 83 0 j8)) 83 0 j10)) 70 0 j6 ((up (up (up (up (up S 12 0 0 0) 12 0 44 (((up S 12 0 0 0) 12 0 44) - 1)) 67 0 j6 ((up (up S 12 0 0 0) 12 0 44 (((up S 12 0 0 0) 12 0 44) - 1)) 83 0 j4)) 68 0 j6 ((up (up (up S 12 0 0 0) 12 0 44 (((up S 12 0 0 0) 12 0 44) - 1)) 67 0 j6 ((up (up S 12 0 0 0) 12 0 44 (((up S 12 0 0 0) 12 0 44) - 1)) 83 0 j4)) 83 0 j8)) 69 0 j6 ((up (up (up (up S 12 0 0 0) 12 0 44 (((up S 12 0 0 0) 12 0 44) - 1)) 67 0 j6 ((up (up S 12 0 0 0) 12 0 44 (((up S 12 0 0 0) 12 0 44) - 1)) 83 0 j4)) 68 0 j6 ((up (up (up S 12 0 0 0) 12 0 44 (((up S 12 0 0 0) 12 0 44) - 1)) 67 0 j6 ((up (up S 12 0 0 0) 12 0 44 (((up S 12 0 0 0) 12 0 44) - 1)) 83 0 j4)) 83 0 j8)) 83 0 j10)) 83 0 j12)) 83 0 j14)))
noncomputable def fX12_kept (p0 : Int32) (S : Mem) : Option (Int32 × Mem) :=
  if ((up S 12 0 53 ((S 12 0 53) + 1)) 12 0 51) = 0 then
    (ix (((up S 12 0 53 ((S 12 0 53) + 1)) 12 0 53) - 1) 1900).bind fun j2 =>
      some (((up S 12 0 53 ((S 12 0 53) + 1)) 89 0 j2), (up S 12 0 53 ((S 12 0 53) + 1)))
  else
    (ix (((up S 12 0 53 ((S 12 0 53) + 1)) 12 0 53) - 1) 1900).bind fun j4 =>
      some (p0, (up (up S 12 0 53 ((S 12 0 53) + 1)) 89 0 j4 p0))
noncomputable def fX12_keepsPapers_195 : Nat → Int32 → Mem → Option (Mem)
  | 0, _, _ => none
  | n + 1, x1, S =>
    if 6 ≤ x1 then
      some S
    else
      (ix x1 6).bind fun j13 =>
        bd (fX12_kept (S 84 0 j13) S) fun r17 S16 =>
          bd (fX12_kept ((up S16 84 0 j13 r17) 85 0 j13) (up S16 84 0 j13 r17)) fun r20 S19 =>
            bd (fX12_kept ((up S19 85 0 j13 r20) 86 0 j13) (up S19 85 0 j13 r20)) fun r23 S22 =>
              bd (fX12_kept ((up S22 86 0 j13 r23) 87 0 j13) (up S22 86 0 j13 r23)) fun r26 S25 =>
                fX12_keepsPapers_195 n (x1 + 1) (up S25 87 0 j13 r26)
noncomputable def fX12_keepsPapers_152 : Nat → Int32 → Mem → Option (Mem)
  | 0, _, _ => none
  | n + 1, x1, S =>
    if 600 ≤ x1 then
      bd (fX12_kept (S 12 0 45) S) fun r11 S10 =>
        fX12_keepsPapers_195 5000 0 (up S10 12 0 45 r11)
    else
      (ix x1 600).bind fun j27 =>
        bd (fX12_kept (S 72 0 j27) S) fun r31 S30 =>
          fX12_keepsPapers_152 n (x1 + 1) (up S30 72 0 j27 r31)
noncomputable def fX12_keepsPapers_14 : Nat → Int32 → Mem → Option (Mem)
  | 0, _, _ => none
  | n + 1, x1, S =>
    if 12 ≤ x1 then
      bd (fX12_kept (S 12 0 18) S) fun r7 S6 =>
        fX12_keepsPapers_152 5000 0 (up S6 12 0 18 r7)
    else
      (ix x1 13).bind fun j32 =>
        bd (fX12_kept (S 65 0 j32) S) fun r36 S35 =>
          bd (fX12_kept ((up S35 65 0 j32 r36) 66 0 j32) (up S35 65 0 j32 r36)) fun r39 S38 =>
            bd (fX12_kept ((up S38 66 0 j32 r39) 67 0 j32) (up S38 66 0 j32 r39)) fun r42 S41 =>
              bd (fX12_kept ((up S41 67 0 j32 r42) 68 0 j32) (up S41 67 0 j32 r42)) fun r45 S44 =>
                bd (fX12_kept ((up S44 68 0 j32 r45) 69 0 j32) (up S44 68 0 j32 r45)) fun r48 S47 =>
                  bd (fX12_kept ((up S47 69 0 j32 r48) 70 0 j32) (up S47 69 0 j32 r48)) fun r51 S50 =>
                    (ix x1 12).bind fun j52 =>
                      bd (fX12_kept ((up S50 70 0 j32 r51) 71 0 j52) (up S50 70 0 j32 r51)) fun r56 S55 =>
                        fX12_keepsPapers_14 n (x1 + 1) (up S55 71 0 j52 r56)
noncomputable def fX12_keepsPapers (S : Mem) : Option (Mem) :=
  bd (fX12_kept (S 12 0 10) S) fun r3 S2 =>
    fX12_keepsPapers_14 5000 0 (up S2 12 0 10 r3)
noncomputable def fX12_keepsLaw_76 : Nat → Int32 → Mem → Option (Mem)
  | 0, _, _ => none
  | n + 1, x1, S =>
    if 400 ≤ x1 then
      some S
    else
      (ix x1 800).bind fun j6 =>
        bd (fX12_kept (S 78 0 j6) S) fun r10 S9 =>
          bd (fX12_kept ((up S9 78 0 j6 r10) 79 0 j6) (up S9 78 0 j6 r10)) fun r13 S12 =>
            fX12_keepsLaw_76 n (x1 + 1) (up S12 79 0 j6 r13)
noncomputable def fX12_keepsLaw_14 : Nat → Int32 → Mem → Option (Mem)
  | 0, _, _ => none
  | n + 1, x1, S =>
    if 16 ≤ x1 then
      fX12_keepsLaw_76 5000 0 S
    else
      (ix x1 32).bind fun j14 =>
        bd (fX12_kept (S 75 0 j14) S) fun r18 S17 =>
          bd (fX12_kept ((up S17 75 0 j14 r18) 76 0 j14) (up S17 75 0 j14 r18)) fun r21 S20 =>
            bd (fX12_kept ((up S20 76 0 j14 r21) 77 0 j14) (up S20 76 0 j14 r21)) fun r24 S23 =>
              fX12_keepsLaw_14 n (x1 + 1) (up S23 77 0 j14 r24)
noncomputable def fX12_keepsLaw (S : Mem) : Option (Mem) :=
  bd (fX12_kept (S 12 0 27) S) fun r3 S2 =>
    fX12_keepsLaw_14 5000 0 (up S2 12 0 27 r3)
noncomputable def fX12_image_83 : Nat → Int32 → Int32 → Mem → Option (Int32 × Mem)
  | 0, _, _, _ => none
  | n + 1, x1, x2, S =>
    if 12 ≤ x2 then
      (fX12_keepsPapers S).bind fun S18 =>
        (fX12_keepsLaw S18).bind fun S20 =>
          if x1 = 0 then
            some (1, (up S20 12 0 44 0))
          else
            some (1, S20)
    else
      (ix x2 12).bind fun j22 =>
        bd (fX12_kept (S 60 0 j22) S) fun r26 S25 =>
          bd (fX12_kept ((up S25 60 0 j22 r26) 61 0 j22) (up S25 60 0 j22 r26)) fun r29 S28 =>
            bd (fX12_kept ((up S28 61 0 j22 r29) 62 0 j22) (up S28 61 0 j22 r29)) fun r32 S31 =>
              bd (fX12_kept ((up S31 62 0 j22 r32) 63 0 j22) (up S31 62 0 j22 r32)) fun r35 S34 =>
                bd (fX12_kept ((up S34 63 0 j22 r35) 64 0 j22) (up S34 63 0 j22 r35)) fun r38 S37 =>
                  fX12_image_83 n x1 (x2 + 1) (up S37 64 0 j22 r38)
noncomputable def fX12_image_18 (x1 : Int32) (S : Mem) : Option (Int32 × Mem) :=
  if x1 = 0 ∨ x1 = 1 then
    bd (fX12_kept ((up (up (up S 12 0 51 x1) 12 0 52 1) 12 0 53 0) 12 0 1) (up (up (up S 12 0 51 x1) 12 0 52 1) 12 0 53 0)) fun r6 S5 =>
      bd (fX12_kept ((up S5 12 0 1 r6) 12 0 2) (up S5 12 0 1 r6)) fun r9 S8 =>
        bd (fX12_kept ((up S8 12 0 2 r9) 12 0 9) (up S8 12 0 2 r9)) fun r12 S11 =>
          bd (fX12_kept ((up S11 12 0 9 r12) 12 0 3) (up S11 12 0 9 r12)) fun r15 S14 =>
            fX12_image_83 5000 x1 0 (up S14 12 0 3 r15)
  else none
noncomputable def fX12_image (p0 : Int32) (S : Mem) : Option (Int32 × Mem) :=
  if p0 = 0 then
    if ((up S 12 0 0 0) 12 0 52) = 0 then
      some (0, (up S 12 0 0 0))
    else
      fX12_image_18 p0 (up S 12 0 0 0)
  else
    fX12_image_18 p0 (up S 12 0 0 0)
noncomputable def fX12_look (p0 : Int32) (S : Mem) : Int32 × Mem :=
  if p0 = 0 then
    (((up S 12 0 0 0) 12 0 2), (up S 12 0 0 0))
  else
    if p0 = 1 then
      (((up S 12 0 0 0) 12 0 3), (up S 12 0 0 0))
    else
      if p0 = 2 then
        (((up S 12 0 0 0) 12 0 10), (up S 12 0 0 0))
      else
        if p0 = 3 then
          (((up S 12 0 0 0) 12 0 18), (up S 12 0 0 0))
        else
          if p0 = 4 then
            (((up S 12 0 0 0) 12 0 45), (up S 12 0 0 0))
          else
            if p0 = 5 then
              (((up S 12 0 0 0) 12 0 1), (up S 12 0 0 0))
            else
              if p0 = 6 then
                (((up S 12 0 0 0) 12 0 27), (up S 12 0 0 0))
              else
                if p0 = 7 then
                  (((up S 12 0 0 0) 12 0 44), (up S 12 0 0 0))
                else
                  if p0 = 8 then
                    (((up S 12 0 0 0) 12 0 9), (up S 12 0 0 0))
                  else
                    ((-1), (up S 12 0 0 0))
