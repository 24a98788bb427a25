theorem tb1 {w : Cond} (h : w ∈ tables_1_1) : w ∈ lw_tbl := List.mem_append_right _ (List.mem_append_left _ h)
theorem tb2 {w : Cond} (h : w ∈ tables_1_2) : w ∈ lw_tbl := List.mem_append_right _ (List.mem_append_right _ (List.mem_append_left _ h))
theorem tb3 {w : Cond} (h : w ∈ tables_1_3) : w ∈ lw_tbl := List.mem_append_right _ (List.mem_append_right _ (List.mem_append_right _ (List.mem_append_left _ h)))
theorem tb4 {w : Cond} (h : w ∈ tables_1_4) : w ∈ lw_tbl := List.mem_append_right _ (List.mem_append_right _ (List.mem_append_right _ (List.mem_append_right _ (List.mem_append_left _ h))))
theorem tb5 {w : Cond} (h : w ∈ tables_1_5) : w ∈ lw_tbl := List.mem_append_right _ (List.mem_append_right _ (List.mem_append_right _ (List.mem_append_right _ (List.mem_append_right _ (List.mem_append_left _ h)))))
theorem tb6 {w : Cond} (h : w ∈ tables_1_6) : w ∈ lw_tbl := List.mem_append_right _ (List.mem_append_right _ (List.mem_append_right _ (List.mem_append_right _ (List.mem_append_right _ (List.mem_append_right _ (h))))))
theorem vi_0 : ∀ w ∈ u_ws RX0 TX0 4, w ∈ gT := fun w h => gT_in ((by decide +kernel : ∀ w ∈ u_ws RX0 TX0 4, w ∈ lw_tbl) w h) ((by decide +kernel : ∀ w ∈ u_ws RX0 TX0 4, goodWord w = true) w h)
theorem vi_1 : ∀ w ∈ u_ws RX1 TX1 15, w ∈ gT := fun w h => gT_in ((by decide +kernel : ∀ w ∈ u_ws RX1 TX1 15, w ∈ lw_tbl) w h) ((by decide +kernel : ∀ w ∈ u_ws RX1 TX1 15, goodWord w = true) w h)
theorem vi_2 : ∀ w ∈ u_ws RX3 TX3 7, w ∈ gT := fun w h => gT_in ((by decide +kernel : ∀ w ∈ u_ws RX3 TX3 7, w ∈ lw_tbl) w h) ((by decide +kernel : ∀ w ∈ u_ws RX3 TX3 7, goodWord w = true) w h)
theorem vi_3 : ∀ w ∈ u_ws RX4 TX4 3, w ∈ gT := fun w h => gT_in ((by decide +kernel : ∀ w ∈ u_ws RX4 TX4 3, w ∈ lw_tbl) w h) ((by decide +kernel : ∀ w ∈ u_ws RX4 TX4 3, goodWord w = true) w h)
theorem vi_4 : ∀ w ∈ u_ws RX5 TX5 2, w ∈ gT := fun w h => gT_in ((by decide +kernel : ∀ w ∈ u_ws RX5 TX5 2, w ∈ lw_tbl) w h) ((by decide +kernel : ∀ w ∈ u_ws RX5 TX5 2, goodWord w = true) w h)
theorem vi_5 : ∀ w ∈ u_ws RX6 TX6 2, w ∈ gT := fun w h => gT_in ((by decide +kernel : ∀ w ∈ u_ws RX6 TX6 2, w ∈ lw_tbl) w h) ((by decide +kernel : ∀ w ∈ u_ws RX6 TX6 2, goodWord w = true) w h)
theorem vi_6 : ∀ w ∈ u_ws RX7 TX7 10, w ∈ gT := fun w h => gT_in ((by decide +kernel : ∀ w ∈ u_ws RX7 TX7 10, w ∈ lw_tbl) w h) ((by decide +kernel : ∀ w ∈ u_ws RX7 TX7 10, goodWord w = true) w h)
theorem vi_7 : ∀ w ∈ u_ws RX8 TX8 24, w ∈ gT := fun w h => gT_in ((by decide +kernel : ∀ w ∈ u_ws RX8 TX8 24, w ∈ lw_tbl) w h) ((by decide +kernel : ∀ w ∈ u_ws RX8 TX8 24, goodWord w = true) w h)
def shA (g : Gl) : Nat → Option Nat := fun j => some (g.2.1 (([47, 49, 51, 53] : List Nat).getD j 0))
def stA (g : Gl) : Nat → Option Nat := fun j => some (g.2.2.2.2.1 j)
def cwX (g : Gl) (h : Hp) : va_W := [(g.2.1 0, .inr (6, [rf g 1, rf g 12, rf g 23, rf g 34, rf g 37, rf g 40, rf g 42, rf g 46, rf g 55, .int (h 0 9)])),
  (g.2.1 1, .inr (1, [rf g 2, rf g 3, rf g 4, rf g 5, rf g 6, rf g 7, rf g 8, rf g 9, rf g 10, rf g 11, .int (h 1 10), .int (h 1 11), .int (h 1 12), .int (h 1 13), .int (h 1 14)])),
  (g.2.1 2, .inl (g.2.2.1 0, 10, .inl (h 2))),
  (g.2.1 3, .inl (g.2.2.1 0, 10, .inl (h 3))),
  (g.2.1 4, .inl (g.2.2.1 0, 10, .inl (h 4))),
  (g.2.1 5, .inl (g.2.2.1 0, 10, .inl (h 5))),
  (g.2.1 6, .inl (g.2.2.1 0, 6, .inl (h 6))),
  (g.2.1 7, .inl (g.2.2.1 0, 6, .inl (h 7))),
  (g.2.1 8, .inl (g.2.2.1 0, 6, .inl (h 8))),
  (g.2.1 9, .inl (g.2.2.1 0, 4, .inl (h 9))),
  (g.2.1 10, .inl (g.2.2.1 0, 40, .inl (h 10))),
  (g.2.1 11, .inl (g.2.2.1 0, 10, .inl (h 11))),
  (g.2.1 12, .inr (1, [rf g 13, rf g 14, rf g 15, rf g 16, rf g 17, rf g 18, rf g 19, rf g 20, rf g 21, rf g 22, .int (h 12 10), .int (h 12 11), .int (h 12 12), .int (h 12 13), .int (h 12 14)])),
  (g.2.1 13, .inl (g.2.2.1 0, 10, .inl (h 13))),
  (g.2.1 14, .inl (g.2.2.1 0, 10, .inl (h 14))),
  (g.2.1 15, .inl (g.2.2.1 0, 10, .inl (h 15))),
  (g.2.1 16, .inl (g.2.2.1 0, 10, .inl (h 16))),
  (g.2.1 17, .inl (g.2.2.1 0, 6, .inl (h 17))),
  (g.2.1 18, .inl (g.2.2.1 0, 6, .inl (h 18))),
  (g.2.1 19, .inl (g.2.2.1 0, 6, .inl (h 19))),
  (g.2.1 20, .inl (g.2.2.1 0, 4, .inl (h 20))),
  (g.2.1 21, .inl (g.2.2.1 0, 40, .inl (h 21))),
  (g.2.1 22, .inl (g.2.2.1 0, 10, .inl (h 22))),
  (g.2.1 23, .inr (1, [rf g 24, rf g 25, rf g 26, rf g 27, rf g 28, rf g 29, rf g 30, rf g 31, rf g 32, rf g 33, .int (h 23 10), .int (h 23 11), .int (h 23 12), .int (h 23 13), .int (h 23 14)])),
  (g.2.1 24, .inl (g.2.2.1 0, 10, .inl (h 24))),
  (g.2.1 25, .inl (g.2.2.1 0, 10, .inl (h 25))),
  (g.2.1 26, .inl (g.2.2.1 0, 10, .inl (h 26))),
  (g.2.1 27, .inl (g.2.2.1 0, 10, .inl (h 27))),
  (g.2.1 28, .inl (g.2.2.1 0, 6, .inl (h 28))),
  (g.2.1 29, .inl (g.2.2.1 0, 6, .inl (h 29))),
  (g.2.1 30, .inl (g.2.2.1 0, 6, .inl (h 30))),
  (g.2.1 31, .inl (g.2.2.1 0, 4, .inl (h 31))),
  (g.2.1 32, .inl (g.2.2.1 0, 40, .inl (h 32))),
  (g.2.1 33, .inl (g.2.2.1 0, 10, .inl (h 33))),
  (g.2.1 34, .inr (0, [rf g 35, rf g 36, .int (h 34 2), .int (h 34 3)])),
  (g.2.1 35, .inl (g.2.2.1 0, 60, .inl (h 35))),
  (g.2.1 36, .inl (g.2.2.1 0, 64, .inl (h 36))),
  (g.2.1 37, .inr (5, [rf g 38, rf g 39])),
  (g.2.1 38, .inl (g.2.2.1 0, 10, .inl (h 38))),
  (g.2.1 39, .inl (g.2.2.1 0, 64, .inl (h 39))),
  (g.2.1 40, .inr (4, [rf g 41, .int (h 40 1)])),
  (g.2.1 41, .inl (g.2.2.1 1, 120, .inl (h 41))),
  (g.2.1 42, .inr (2, [rf g 40, rf g 23, rf g 43, rf g 44, rf g 45, .int (h 42 5), .int (h 42 6)])),
  (g.2.1 43, .inl (g.2.2.1 0, 121, .inl (h 43))),
  (g.2.1 44, .inl (g.2.2.1 0, 121, .inl (h 44))),
  (g.2.1 45, .inl (g.2.2.1 0, 121, .inl (h 45))),
  (g.2.1 46, .inl (g.2.2.1 2, 4, .inr (.inr (.inr (.inr (shA g)))))),
  (g.2.1 47, .inr (3, [rf g 48, .int (h 47 1), .int (h 47 2)])),
  (g.2.1 48, .inl (g.2.2.1 0, 40, .inl (h 48))),
  (g.2.1 49, .inr (3, [rf g 50, .int (h 49 1), .int (h 49 2)])),
  (g.2.1 50, .inl (g.2.2.1 0, 40, .inl (h 50))),
  (g.2.1 51, .inr (3, [rf g 52, .int (h 51 1), .int (h 51 2)])),
  (g.2.1 52, .inl (g.2.2.1 0, 40, .inl (h 52))),
  (g.2.1 53, .inr (3, [rf g 54, .int (h 53 1), .int (h 53 2)])),
  (g.2.1 54, .inl (g.2.2.1 0, 40, .inl (h 54))),
  (g.2.1 55, .inl (g.2.2.1 0, 7, .inl (h 55)))]
theorem cX_0 (g : Gl) (h : Hp) : (cwX g h)[0]? = some (g.2.1 0, .inr (6, [rf g 1, rf g 12, rf g 23, rf g 34, rf g 37, rf g 40, rf g 42, rf g 46, rf g 55, .int (h 0 9)])) := rfl
theorem cX_1 (g : Gl) (h : Hp) : (cwX g h)[1]? = some (g.2.1 1, .inr (1, [rf g 2, rf g 3, rf g 4, rf g 5, rf g 6, rf g 7, rf g 8, rf g 9, rf g 10, rf g 11, .int (h 1 10), .int (h 1 11), .int (h 1 12), .int (h 1 13), .int (h 1 14)])) := rfl
theorem cX_2 (g : Gl) (h : Hp) : (cwX g h)[2]? = some (g.2.1 2, .inl (g.2.2.1 0, 10, .inl (h 2))) := rfl
theorem cX_3 (g : Gl) (h : Hp) : (cwX g h)[3]? = some (g.2.1 3, .inl (g.2.2.1 0, 10, .inl (h 3))) := rfl
theorem cX_4 (g : Gl) (h : Hp) : (cwX g h)[4]? = some (g.2.1 4, .inl (g.2.2.1 0, 10, .inl (h 4))) := rfl
theorem cX_5 (g : Gl) (h : Hp) : (cwX g h)[5]? = some (g.2.1 5, .inl (g.2.2.1 0, 10, .inl (h 5))) := rfl
theorem cX_6 (g : Gl) (h : Hp) : (cwX g h)[6]? = some (g.2.1 6, .inl (g.2.2.1 0, 6, .inl (h 6))) := rfl
theorem cX_7 (g : Gl) (h : Hp) : (cwX g h)[7]? = some (g.2.1 7, .inl (g.2.2.1 0, 6, .inl (h 7))) := rfl
theorem cX_8 (g : Gl) (h : Hp) : (cwX g h)[8]? = some (g.2.1 8, .inl (g.2.2.1 0, 6, .inl (h 8))) := rfl
theorem cX_9 (g : Gl) (h : Hp) : (cwX g h)[9]? = some (g.2.1 9, .inl (g.2.2.1 0, 4, .inl (h 9))) := rfl
theorem cX_10 (g : Gl) (h : Hp) : (cwX g h)[10]? = some (g.2.1 10, .inl (g.2.2.1 0, 40, .inl (h 10))) := rfl
theorem cX_11 (g : Gl) (h : Hp) : (cwX g h)[11]? = some (g.2.1 11, .inl (g.2.2.1 0, 10, .inl (h 11))) := rfl
theorem cX_12 (g : Gl) (h : Hp) : (cwX g h)[12]? = some (g.2.1 12, .inr (1, [rf g 13, rf g 14, rf g 15, rf g 16, rf g 17, rf g 18, rf g 19, rf g 20, rf g 21, rf g 22, .int (h 12 10), .int (h 12 11), .int (h 12 12), .int (h 12 13), .int (h 12 14)])) := rfl
theorem cX_13 (g : Gl) (h : Hp) : (cwX g h)[13]? = some (g.2.1 13, .inl (g.2.2.1 0, 10, .inl (h 13))) := rfl
theorem cX_14 (g : Gl) (h : Hp) : (cwX g h)[14]? = some (g.2.1 14, .inl (g.2.2.1 0, 10, .inl (h 14))) := rfl
theorem cX_15 (g : Gl) (h : Hp) : (cwX g h)[15]? = some (g.2.1 15, .inl (g.2.2.1 0, 10, .inl (h 15))) := rfl
theorem cX_16 (g : Gl) (h : Hp) : (cwX g h)[16]? = some (g.2.1 16, .inl (g.2.2.1 0, 10, .inl (h 16))) := rfl
theorem cX_17 (g : Gl) (h : Hp) : (cwX g h)[17]? = some (g.2.1 17, .inl (g.2.2.1 0, 6, .inl (h 17))) := rfl
theorem cX_18 (g : Gl) (h : Hp) : (cwX g h)[18]? = some (g.2.1 18, .inl (g.2.2.1 0, 6, .inl (h 18))) := rfl
theorem cX_19 (g : Gl) (h : Hp) : (cwX g h)[19]? = some (g.2.1 19, .inl (g.2.2.1 0, 6, .inl (h 19))) := rfl
theorem cX_20 (g : Gl) (h : Hp) : (cwX g h)[20]? = some (g.2.1 20, .inl (g.2.2.1 0, 4, .inl (h 20))) := rfl
theorem cX_21 (g : Gl) (h : Hp) : (cwX g h)[21]? = some (g.2.1 21, .inl (g.2.2.1 0, 40, .inl (h 21))) := rfl
theorem cX_22 (g : Gl) (h : Hp) : (cwX g h)[22]? = some (g.2.1 22, .inl (g.2.2.1 0, 10, .inl (h 22))) := rfl
theorem cX_23 (g : Gl) (h : Hp) : (cwX g h)[23]? = some (g.2.1 23, .inr (1, [rf g 24, rf g 25, rf g 26, rf g 27, rf g 28, rf g 29, rf g 30, rf g 31, rf g 32, rf g 33, .int (h 23 10), .int (h 23 11), .int (h 23 12), .int (h 23 13), .int (h 23 14)])) := rfl
theorem cX_24 (g : Gl) (h : Hp) : (cwX g h)[24]? = some (g.2.1 24, .inl (g.2.2.1 0, 10, .inl (h 24))) := rfl
theorem cX_25 (g : Gl) (h : Hp) : (cwX g h)[25]? = some (g.2.1 25, .inl (g.2.2.1 0, 10, .inl (h 25))) := rfl
theorem cX_26 (g : Gl) (h : Hp) : (cwX g h)[26]? = some (g.2.1 26, .inl (g.2.2.1 0, 10, .inl (h 26))) := rfl
theorem cX_27 (g : Gl) (h : Hp) : (cwX g h)[27]? = some (g.2.1 27, .inl (g.2.2.1 0, 10, .inl (h 27))) := rfl
theorem cX_28 (g : Gl) (h : Hp) : (cwX g h)[28]? = some (g.2.1 28, .inl (g.2.2.1 0, 6, .inl (h 28))) := rfl
theorem cX_29 (g : Gl) (h : Hp) : (cwX g h)[29]? = some (g.2.1 29, .inl (g.2.2.1 0, 6, .inl (h 29))) := rfl
theorem cX_30 (g : Gl) (h : Hp) : (cwX g h)[30]? = some (g.2.1 30, .inl (g.2.2.1 0, 6, .inl (h 30))) := rfl
theorem cX_31 (g : Gl) (h : Hp) : (cwX g h)[31]? = some (g.2.1 31, .inl (g.2.2.1 0, 4, .inl (h 31))) := rfl
theorem cX_32 (g : Gl) (h : Hp) : (cwX g h)[32]? = some (g.2.1 32, .inl (g.2.2.1 0, 40, .inl (h 32))) := rfl
theorem cX_33 (g : Gl) (h : Hp) : (cwX g h)[33]? = some (g.2.1 33, .inl (g.2.2.1 0, 10, .inl (h 33))) := rfl
theorem cX_34 (g : Gl) (h : Hp) : (cwX g h)[34]? = some (g.2.1 34, .inr (0, [rf g 35, rf g 36, .int (h 34 2), .int (h 34 3)])) := rfl
theorem cX_35 (g : Gl) (h : Hp) : (cwX g h)[35]? = some (g.2.1 35, .inl (g.2.2.1 0, 60, .inl (h 35))) := rfl
theorem cX_36 (g : Gl) (h : Hp) : (cwX g h)[36]? = some (g.2.1 36, .inl (g.2.2.1 0, 64, .inl (h 36))) := rfl
theorem cX_37 (g : Gl) (h : Hp) : (cwX g h)[37]? = some (g.2.1 37, .inr (5, [rf g 38, rf g 39])) := rfl
theorem cX_38 (g : Gl) (h : Hp) : (cwX g h)[38]? = some (g.2.1 38, .inl (g.2.2.1 0, 10, .inl (h 38))) := rfl
theorem cX_39 (g : Gl) (h : Hp) : (cwX g h)[39]? = some (g.2.1 39, .inl (g.2.2.1 0, 64, .inl (h 39))) := rfl
theorem cX_40 (g : Gl) (h : Hp) : (cwX g h)[40]? = some (g.2.1 40, .inr (4, [rf g 41, .int (h 40 1)])) := rfl
theorem cX_41 (g : Gl) (h : Hp) : (cwX g h)[41]? = some (g.2.1 41, .inl (g.2.2.1 1, 120, .inl (h 41))) := rfl
theorem cX_42 (g : Gl) (h : Hp) : (cwX g h)[42]? = some (g.2.1 42, .inr (2, [rf g 40, rf g 23, rf g 43, rf g 44, rf g 45, .int (h 42 5), .int (h 42 6)])) := rfl
theorem cX_43 (g : Gl) (h : Hp) : (cwX g h)[43]? = some (g.2.1 43, .inl (g.2.2.1 0, 121, .inl (h 43))) := rfl
theorem cX_44 (g : Gl) (h : Hp) : (cwX g h)[44]? = some (g.2.1 44, .inl (g.2.2.1 0, 121, .inl (h 44))) := rfl
theorem cX_45 (g : Gl) (h : Hp) : (cwX g h)[45]? = some (g.2.1 45, .inl (g.2.2.1 0, 121, .inl (h 45))) := rfl
theorem cX_46 (g : Gl) (h : Hp) : (cwX g h)[46]? = some (g.2.1 46, .inl (g.2.2.1 2, 4, .inr (.inr (.inr (.inr (shA g)))))) := rfl
theorem cX_47 (g : Gl) (h : Hp) : (cwX g h)[47]? = some (g.2.1 47, .inr (3, [rf g 48, .int (h 47 1), .int (h 47 2)])) := rfl
theorem cX_48 (g : Gl) (h : Hp) : (cwX g h)[48]? = some (g.2.1 48, .inl (g.2.2.1 0, 40, .inl (h 48))) := rfl
theorem cX_49 (g : Gl) (h : Hp) : (cwX g h)[49]? = some (g.2.1 49, .inr (3, [rf g 50, .int (h 49 1), .int (h 49 2)])) := rfl
theorem cX_50 (g : Gl) (h : Hp) : (cwX g h)[50]? = some (g.2.1 50, .inl (g.2.2.1 0, 40, .inl (h 50))) := rfl
theorem cX_51 (g : Gl) (h : Hp) : (cwX g h)[51]? = some (g.2.1 51, .inr (3, [rf g 52, .int (h 51 1), .int (h 51 2)])) := rfl
theorem cX_52 (g : Gl) (h : Hp) : (cwX g h)[52]? = some (g.2.1 52, .inl (g.2.2.1 0, 40, .inl (h 52))) := rfl
theorem cX_53 (g : Gl) (h : Hp) : (cwX g h)[53]? = some (g.2.1 53, .inr (3, [rf g 54, .int (h 53 1), .int (h 53 2)])) := rfl
theorem cX_54 (g : Gl) (h : Hp) : (cwX g h)[54]? = some (g.2.1 54, .inl (g.2.2.1 0, 40, .inl (h 54))) := rfl
theorem cX_55 (g : Gl) (h : Hp) : (cwX g h)[55]? = some (g.2.1 55, .inl (g.2.2.1 0, 7, .inl (h 55))) := rfl
def cwM (g : Gl) (h : Hp) : va_W := [(g.2.1 0, .inr (7, [rf g 1, rf g 2, rf g 3, .int (h 0 3), rf g 4, rf g 5, .int (h 0 6), .int (h 0 7), .int (h 0 8), rf g 6, .int (h 0 10), .int (h 0 11), .int (h 0 12), .int (h 0 13), .int (h 0 14), .int (h 0 15), rf g 7, rf g 8, .int (h 0 18), .int (h 0 19), rf g 9, rf g 10, rf g 11, rf g 12])),
  (g.2.1 1, .inl (g.2.2.1 0, 117, .inl (h 1))),
  (g.2.1 2, .inl (g.2.2.1 0, 117, .inl (h 2))),
  (g.2.1 3, .inl (g.2.2.1 0, 117, .inl (h 3))),
  (g.2.1 4, .inl (g.2.2.1 0, 8, .inl (h 4))),
  (g.2.1 5, .inl (g.2.2.1 0, 7168, .inl (h 5))),
  (g.2.1 6, .inl (g.2.2.1 0, 120, .inl (h 6))),
  (g.2.1 7, .inl (g.2.2.1 3, 7, .inr (.inr (.inr (.inr (stA g)))))),
  (g.2.1 8, .inl (g.2.2.1 0, 480, .inl (h 8))),
  (g.2.1 9, .inl (g.2.2.1 0, 4, .inl (h 9))),
  (g.2.1 10, .inl (g.2.2.1 0, 4, .inl (h 10))),
  (g.2.1 11, .inl (g.2.2.1 0, 160, .inl (h 11))),
  (g.2.1 12, .inl (g.2.2.1 0, 40, .inl (h 12)))]
theorem cM_0 (g : Gl) (h : Hp) : (cwM g h)[0]? = some (g.2.1 0, .inr (7, [rf g 1, rf g 2, rf g 3, .int (h 0 3), rf g 4, rf g 5, .int (h 0 6), .int (h 0 7), .int (h 0 8), rf g 6, .int (h 0 10), .int (h 0 11), .int (h 0 12), .int (h 0 13), .int (h 0 14), .int (h 0 15), rf g 7, rf g 8, .int (h 0 18), .int (h 0 19), rf g 9, rf g 10, rf g 11, rf g 12])) := rfl
theorem cM_1 (g : Gl) (h : Hp) : (cwM g h)[1]? = some (g.2.1 1, .inl (g.2.2.1 0, 117, .inl (h 1))) := rfl
theorem cM_2 (g : Gl) (h : Hp) : (cwM g h)[2]? = some (g.2.1 2, .inl (g.2.2.1 0, 117, .inl (h 2))) := rfl
theorem cM_3 (g : Gl) (h : Hp) : (cwM g h)[3]? = some (g.2.1 3, .inl (g.2.2.1 0, 117, .inl (h 3))) := rfl
theorem cM_4 (g : Gl) (h : Hp) : (cwM g h)[4]? = some (g.2.1 4, .inl (g.2.2.1 0, 8, .inl (h 4))) := rfl
theorem cM_5 (g : Gl) (h : Hp) : (cwM g h)[5]? = some (g.2.1 5, .inl (g.2.2.1 0, 7168, .inl (h 5))) := rfl
theorem cM_6 (g : Gl) (h : Hp) : (cwM g h)[6]? = some (g.2.1 6, .inl (g.2.2.1 0, 120, .inl (h 6))) := rfl
theorem cM_7 (g : Gl) (h : Hp) : (cwM g h)[7]? = some (g.2.1 7, .inl (g.2.2.1 3, 7, .inr (.inr (.inr (.inr (stA g)))))) := rfl
theorem cM_8 (g : Gl) (h : Hp) : (cwM g h)[8]? = some (g.2.1 8, .inl (g.2.2.1 0, 480, .inl (h 8))) := rfl
theorem cM_9 (g : Gl) (h : Hp) : (cwM g h)[9]? = some (g.2.1 9, .inl (g.2.2.1 0, 4, .inl (h 9))) := rfl
theorem cM_10 (g : Gl) (h : Hp) : (cwM g h)[10]? = some (g.2.1 10, .inl (g.2.2.1 0, 4, .inl (h 10))) := rfl
theorem cM_11 (g : Gl) (h : Hp) : (cwM g h)[11]? = some (g.2.1 11, .inl (g.2.2.1 0, 160, .inl (h 11))) := rfl
theorem cM_12 (g : Gl) (h : Hp) : (cwM g h)[12]? = some (g.2.1 12, .inl (g.2.2.1 0, 40, .inl (h 12))) := rfl
def lnX (c : Nat) : Nat := ([0, 0, 10, 10, 10, 10, 6, 6, 6, 4, 40, 10, 0, 10, 10, 10, 10, 6, 6, 6, 4, 40, 10, 0, 10, 10, 10, 10, 6, 6, 6, 4, 40, 10, 0, 60, 64, 0, 10, 64, 0, 120, 0, 121, 121, 121, 0, 0, 40, 0, 40, 0, 40, 0, 40, 7] : List Nat).getD c 0
def lenX (c : Nat) : Int32 := Int32.ofNat (lnX c)
def shc (s : Int32) : Nat := 47 + 2 * s.toNatClampNeg
def knd (s : Int32) : Nat := s.toNatClampNeg
theorem shc_0 : shc 0 = 47 := by decide
theorem shc_1 : shc 1 = 49 := by decide
theorem shc_2 : shc 2 = 51 := by decide
theorem shc_3 : shc 3 = 53 := by decide
theorem knd_0 : knd 0 = 0 := by decide
theorem knd_1 : knd 1 = 1 := by decide
theorem knd_2 : knd 2 = 2 := by decide
theorem knd_3 : knd 3 = 3 := by decide
theorem knd_4 : knd 4 = 4 := by decide
theorem knd_5 : knd 5 = 5 := by decide
theorem knd_6 : knd 6 = 6 := by decide
def slen (w : Nat) : Int32 := Int32.ofNat (stL.getD w 0)
def schr (w : Nat) (i : Int32) : Int32 := (stB.getD w []).getD i.toNatClampNeg 0
def sin (w : Nat) (i : Int32) : Bool := inR i (stL.getD w 0)
theorem inR_4 {i : Int32} (h : inR i 4 = true) : i = 0 ∨ i = 1 ∨ i = 2 ∨ i = 3 := by
  obtain ⟨j, hj, rfl⟩ := vp_in_of (inR_vp h) (by decide)
  rcases (show j = 0 ∨ j = 1 ∨ j = 2 ∨ j = 3 by omega) with rfl | rfl | rfl | rfl
  · exact Or.inl rfl
  · exact Or.inr (Or.inl rfl)
  · exact Or.inr (Or.inr (Or.inl rfl))
  · exact Or.inr (Or.inr (Or.inr (rfl)))
theorem inR_7 {i : Int32} (h : inR i 7 = true) : i = 0 ∨ i = 1 ∨ i = 2 ∨ i = 3 ∨ i = 4 ∨ i = 5 ∨ i = 6 := by
  obtain ⟨j, hj, rfl⟩ := vp_in_of (inR_vp h) (by decide)
  rcases (show j = 0 ∨ j = 1 ∨ j = 2 ∨ j = 3 ∨ j = 4 ∨ j = 5 ∨ j = 6 by omega) with rfl | rfl | rfl | rfl | rfl | rfl | rfl
  · exact Or.inl rfl
  · exact Or.inr (Or.inl rfl)
  · exact Or.inr (Or.inr (Or.inl rfl))
  · exact Or.inr (Or.inr (Or.inr (Or.inl rfl)))
  · exact Or.inr (Or.inr (Or.inr (Or.inr (Or.inl rfl))))
  · exact Or.inr (Or.inr (Or.inr (Or.inr (Or.inr (Or.inl rfl)))))
  · exact Or.inr (Or.inr (Or.inr (Or.inr (Or.inr (Or.inr (rfl))))))
theorem mi_X7_isKind : MI yX7_isKind cX7_isKind 1 (some .boolean) 1 := ⟨gT_in (tb2 (List.mem_of_getElem? (i := 4) rfl)) rfl, gT_in (tb1 (List.mem_of_getElem? (i := 1) rfl)) rfl, by decide +kernel⟩
theorem st_X7_isKind : Cond.static yX7_isKind ∈ gT := gT_in (tb2 (List.mem_of_getElem? (i := 3) rfl)) rfl
theorem lm_X7_63 : Cond.methodLink RX7 63 yX7_isKind ∈ gT := gT_in (tb2 (List.mem_of_getElem? (i := 2) rfl)) rfl
theorem fl_X7_12 : Cond.fieldLink RX7 12 "SameHeads" "house" "LSameHeads$House;" ∈ gT := gT_in (tb1 (List.mem_of_getElem? (i := 207) rfl)) rfl
theorem gf_X7_12 {ρ : Type} {x : Fx} {g : Gl} {cw : Gl → Hp → va_W} {nL dR : Nat} {QR : ρ → QT} {cc : ByteArray} {ret : Option FieldType} {pc n : Nat} {L : List (Option Value)} {st : List Value} {h : Hp} {E : Option ρ} (C : Ok x g RX7 cc nL ret) (q0 : Nat) {a : Nat} {fs : List Value} (he : (cw g h)[q0]? = some (a, .inr (6, fs))) {v : Value} (hv : fs[0]? = some v) (d : decode cc pc = .ok (.getfield 12, 3)) (hn : pc + 3 = n) (k : J x g cw nL dR QR n L (v :: st) h E) : J x g cw nL dR QR pc L (.ref a :: st) h E := j_get C q0 he rfl vi_6 0 (Nat.le_of_ble_eq_true rfl) fl_X7_12 hv d hn k
theorem fl_X7_72 : Cond.fieldLink RX7 72 "SameHeads$House" "parts" "I" ∈ gT := gT_in (tb1 (List.mem_of_getElem? (i := 62) rfl)) rfl
theorem gf_X7_72 {ρ : Type} {x : Fx} {g : Gl} {cw : Gl → Hp → va_W} {nL dR : Nat} {QR : ρ → QT} {cc : ByteArray} {ret : Option FieldType} {pc n : Nat} {L : List (Option Value)} {st : List Value} {h : Hp} {E : Option ρ} (C : Ok x g RX7 cc nL ret) (q0 : Nat) {a : Nat} {fs : List Value} (he : (cw g h)[q0]? = some (a, .inr (1, fs))) {v : Value} (hv : fs[10]? = some v) (d : decode cc pc = .ok (.getfield 72, 3)) (hn : pc + 3 = n) (k : J x g cw nL dR QR n L (v :: st) h E) : J x g cw nL dR QR pc L (.ref a :: st) h E := j_get C q0 he rfl vi_1 10 (Nat.le_of_ble_eq_true rfl) fl_X7_72 hv d hn k
theorem bp_10 : (Int8.ofInt (10)).toInt32 = (10 : Int32) := by decide
theorem ic_0 : Int32.ofInt (0) = (0 : Int32) := by decide
theorem ic_m1 : Int32.ofInt (-1) = (-1 : Int32) := by decide
theorem mi_X1_addPart : MI yX1_addPart cX1_addPart 5 (some .int) 4 := ⟨gT_in (tb2 (List.mem_of_getElem? (i := 17) rfl)) rfl, gT_in (tb1 (List.mem_of_getElem? (i := 2) rfl)) rfl, by decide +kernel⟩
theorem iv_X1_addPart : Cond.instanceMethod yX1_addPart ∈ gT ∧ Cond.selects RX1 yX1_addPart yX1_addPart ∈ gT := ⟨gT_in (tb2 (List.mem_of_getElem? (i := 15) rfl)) rfl, gT_in (tb2 (List.mem_of_getElem? (i := 16) rfl)) rfl⟩
theorem lm_X7_77 : Cond.methodLink RX7 77 yX1_addPart ∈ gT := gT_in (tb2 (List.mem_of_getElem? (i := 14) rfl)) rfl
theorem kc_X7_76 : Cond.constant RX7 76 (-1000002 : Int32) ∈ gT := gT_in (tb2 (List.mem_of_getElem? (i := 13) rfl)) rfl
theorem mi_X7_finding : MI yX7_finding cX7_finding 3 (some .int) 1 := ⟨gT_in (tb2 (List.mem_of_getElem? (i := 12) rfl)) rfl, gT_in (tb1 (List.mem_of_getElem? (i := 1) rfl)) rfl, by decide +kernel⟩
theorem iv_X7_finding : Cond.instanceMethod yX7_finding ∈ gT ∧ Cond.selects RX7 yX7_finding yX7_finding ∈ gT := ⟨gT_in (tb2 (List.mem_of_getElem? (i := 11) rfl)) rfl, gT_in (List.mem_append_left _ (List.mem_of_getElem? (i := 0) rfl)) rfl⟩
theorem lm_X7_68 : Cond.methodLink RX7 68 yX7_finding ∈ gT := gT_in (tb2 (List.mem_of_getElem? (i := 9) rfl)) rfl
theorem kc_X7_67 : Cond.constant RX7 67 (-1000001 : Int32) ∈ gT := gT_in (tb2 (List.mem_of_getElem? (i := 8) rfl)) rfl
theorem lm_X7_81 : Cond.methodLink RX7 81 yX1_traits ∈ gT := gT_in (tb2 (List.mem_of_getElem? (i := 22) rfl)) rfl
theorem mi_X1_traits : MI yX1_traits cX1_traits 2 (some (.array .int)) 1 := ⟨gT_in (tb2 (List.mem_of_getElem? (i := 25) rfl)) rfl, gT_in (tb1 (List.mem_of_getElem? (i := 2) rfl)) rfl, by decide +kernel⟩
theorem iv_X1_traits : Cond.instanceMethod yX1_traits ∈ gT ∧ Cond.selects RX1 yX1_traits yX1_traits ∈ gT := ⟨gT_in (tb2 (List.mem_of_getElem? (i := 23) rfl)) rfl, gT_in (tb2 (List.mem_of_getElem? (i := 24) rfl)) rfl⟩
theorem mi_X1_hasPart : MI yX1_hasPart cX1_hasPart 2 (some .boolean) 1 := ⟨gT_in (tb2 (List.mem_of_getElem? (i := 29) rfl)) rfl, gT_in (tb1 (List.mem_of_getElem? (i := 2) rfl)) rfl, by decide +kernel⟩
theorem iv_X1_hasPart : Cond.instanceMethod yX1_hasPart ∈ gT ∧ Cond.selects RX1 yX1_hasPart yX1_hasPart ∈ gT := ⟨gT_in (tb2 (List.mem_of_getElem? (i := 27) rfl)) rfl, gT_in (tb2 (List.mem_of_getElem? (i := 28) rfl)) rfl⟩
theorem lm_X7_85 : Cond.methodLink RX7 85 yX1_hasPart ∈ gT := gT_in (tb2 (List.mem_of_getElem? (i := 26) rfl)) rfl
theorem fl_X7_88 : Cond.fieldLink RX7 88 "SameHeads" "LEAST_TRAIT" "[I" ∈ gT := gT_in (tb2 (List.mem_of_getElem? (i := 35) rfl)) rfl
theorem fl_X7_91 : Cond.fieldLink RX7 91 "SameHeads" "MOST_TRAIT" "[I" ∈ gT := gT_in (tb2 (List.mem_of_getElem? (i := 37) rfl)) rfl
theorem mi_X7_within : MI yX7_within cX7_within 3 (some .boolean) 3 := ⟨gT_in (tb2 (List.mem_of_getElem? (i := 7) rfl)) rfl, gT_in (tb1 (List.mem_of_getElem? (i := 1) rfl)) rfl, by decide +kernel⟩
theorem st_X7_within : Cond.static yX7_within ∈ gT := gT_in (tb2 (List.mem_of_getElem? (i := 6) rfl)) rfl
theorem lm_X7_94 : Cond.methodLink RX7 94 yX7_within ∈ gT := gT_in (tb2 (List.mem_of_getElem? (i := 5) rfl)) rfl
theorem mi_X7_isFace : MI yX7_isFace cX7_isFace 1 (some .boolean) 1 := ⟨gT_in (tb2 (List.mem_of_getElem? (i := 45) rfl)) rfl, gT_in (tb1 (List.mem_of_getElem? (i := 1) rfl)) rfl, by decide +kernel⟩
theorem st_X7_isFace : Cond.static yX7_isFace ∈ gT := gT_in (tb2 (List.mem_of_getElem? (i := 44) rfl)) rfl
theorem lm_X7_98 : Cond.methodLink RX7 98 yX7_isFace ∈ gT := gT_in (tb2 (List.mem_of_getElem? (i := 43) rfl)) rfl
theorem ic_1 : Int32.ofInt (1) = (1 : Int32) := by decide
theorem bp_99 : (Int8.ofInt (99)).toInt32 = (99 : Int32) := by decide
theorem sp_255 : (Int16.ofInt (255)).toInt32 = (255 : Int32) := by decide
theorem fl_X7_104 : Cond.fieldLink RX7 104 "SameHeads$House" "chance" "[I" ∈ gT := gT_in (tb1 (List.mem_of_getElem? (i := 52) rfl)) rfl
theorem gf_X7_104 {ρ : Type} {x : Fx} {g : Gl} {cw : Gl → Hp → va_W} {nL dR : Nat} {QR : ρ → QT} {cc : ByteArray} {ret : Option FieldType} {pc n : Nat} {L : List (Option Value)} {st : List Value} {h : Hp} {E : Option ρ} (C : Ok x g RX7 cc nL ret) (q0 : Nat) {a : Nat} {fs : List Value} (he : (cw g h)[q0]? = some (a, .inr (1, fs))) {v : Value} (hv : fs[5]? = some v) (d : decode cc pc = .ok (.getfield 104, 3)) (hn : pc + 3 = n) (k : J x g cw nL dR QR n L (v :: st) h E) : J x g cw nL dR QR pc L (.ref a :: st) h E := j_get C q0 he rfl vi_1 5 (Nat.le_of_ble_eq_true rfl) fl_X7_104 hv d hn k
theorem fl_X7_101 : Cond.fieldLink RX7 101 "SameHeads$House" "faceLooks" "[I" ∈ gT := gT_in (tb1 (List.mem_of_getElem? (i := 48) rfl)) rfl
theorem gf_X7_101 {ρ : Type} {x : Fx} {g : Gl} {cw : Gl → Hp → va_W} {nL dR : Nat} {QR : ρ → QT} {cc : ByteArray} {ret : Option FieldType} {pc n : Nat} {L : List (Option Value)} {st : List Value} {h : Hp} {E : Option ρ} (C : Ok x g RX7 cc nL ret) (q0 : Nat) {a : Nat} {fs : List Value} (he : (cw g h)[q0]? = some (a, .inr (1, fs))) {v : Value} (hv : fs[4]? = some v) (d : decode cc pc = .ok (.getfield 101, 3)) (hn : pc + 3 = n) (k : J x g cw nL dR QR n L (v :: st) h E) : J x g cw nL dR QR pc L (.ref a :: st) h E := j_get C q0 he rfl vi_1 4 (Nat.le_of_ble_eq_true rfl) fl_X7_101 hv d hn k
theorem mi_X7_isRoom : MI yX7_isRoom cX7_isRoom 1 (some .boolean) 1 := ⟨gT_in (tb2 (List.mem_of_getElem? (i := 52) rfl)) rfl, gT_in (tb1 (List.mem_of_getElem? (i := 1) rfl)) rfl, by decide +kernel⟩
theorem st_X7_isRoom : Cond.static yX7_isRoom ∈ gT := gT_in (tb2 (List.mem_of_getElem? (i := 51) rfl)) rfl
theorem lm_X7_107 : Cond.methodLink RX7 107 yX7_isRoom ∈ gT := gT_in (tb2 (List.mem_of_getElem? (i := 50) rfl)) rfl
theorem fl_X7_110 : Cond.fieldLink RX7 110 "SameHeads$House" "shown" "[I" ∈ gT := gT_in (tb1 (List.mem_of_getElem? (i := 55) rfl)) rfl
theorem gf_X7_110 {ρ : Type} {x : Fx} {g : Gl} {cw : Gl → Hp → va_W} {nL dR : Nat} {QR : ρ → QT} {cc : ByteArray} {ret : Option FieldType} {pc n : Nat} {L : List (Option Value)} {st : List Value} {h : Hp} {E : Option ρ} (C : Ok x g RX7 cc nL ret) (q0 : Nat) {a : Nat} {fs : List Value} (he : (cw g h)[q0]? = some (a, .inr (1, fs))) {v : Value} (hv : fs[6]? = some v) (d : decode cc pc = .ok (.getfield 110, 3)) (hn : pc + 3 = n) (k : J x g cw nL dR QR n L (v :: st) h E) : J x g cw nL dR QR pc L (.ref a :: st) h E := j_get C q0 he rfl vi_1 6 (Nat.le_of_ble_eq_true rfl) fl_X7_110 hv d hn k
theorem bp_20 : (Int8.ofInt (20)).toInt32 = (20 : Int32) := by decide
theorem fl_X7_113 : Cond.fieldLink RX7 113 "SameHeads$House" "pace" "I" ∈ gT := gT_in (tb1 (List.mem_of_getElem? (i := 72) rfl)) rfl
theorem gf_X7_113 {ρ : Type} {x : Fx} {g : Gl} {cw : Gl → Hp → va_W} {nL dR : Nat} {QR : ρ → QT} {cc : ByteArray} {ret : Option FieldType} {pc n : Nat} {L : List (Option Value)} {st : List Value} {h : Hp} {E : Option ρ} (C : Ok x g RX7 cc nL ret) (q0 : Nat) {a : Nat} {fs : List Value} (he : (cw g h)[q0]? = some (a, .inr (1, fs))) {v : Value} (hv : fs[13]? = some v) (d : decode cc pc = .ok (.getfield 113, 3)) (hn : pc + 3 = n) (k : J x g cw nL dR QR n L (v :: st) h E) : J x g cw nL dR QR pc L (.ref a :: st) h E := j_get C q0 he rfl vi_1 13 (Nat.le_of_ble_eq_true rfl) fl_X7_113 hv d hn k
theorem ty0_X1_13 : parseFieldDescriptor (TX1 13).2.2.1 = some .int := by decide +kernel
theorem pf_X7_113 {ρ : Type} {x : Fx} {g : Gl} {cw : Gl → Hp → va_W} {nL dR : Nat} {QR : ρ → QT} {cc : ByteArray} {ret : Option FieldType} {pc n : Nat} {L : List (Option Value)} {st : List Value} {h : Hp} {E : Option ρ} (C : Ok x g RX7 cc nL ret) (q0 : Nat) {a : Nat} {fs : List Value} {v : Int32} (he : (cw g h)[q0]? = some (a, .inr (1, fs))) (hs : (cw g h).set q0 (a, .inr (1, fs.set 13 (.int v))) = cw g (up h q0 13 v)) (hlt : (Nat.ble (13 + 1) fs.length) = true) (d : decode cc pc = .ok (.putfield 113, 3)) (hn : pc + 3 = n) (k : J x g cw nL dR QR n L st (up h q0 13 v) E) : J x g cw nL dR QR pc L (.int v :: .ref a :: st) h E := j_put C q0 he rfl vi_1 tyX1 tyX1_ok nmX1 13 (Nat.le_of_ble_eq_true rfl) fl_X7_113 rfl (ty0_X1_13) (⟨rfl, rfl⟩) (Nat.le_of_ble_eq_true hlt) hs d hn k
theorem tabout_0_3 {x1 : Int32} (h0 : ¬ x1 = (0 : Int32)) (h1 : ¬ x1 = (1 : Int32)) (h2 : ¬ x1 = (2 : Int32)) (h3 : ¬ x1 = (3 : Int32)) : x1.toInt < 0 ∨ 3 < x1.toInt := by
  have e0 : x1.toInt ≠ 0 := fun q => h0 (Int32.toInt_inj.mp q)
  have e1 : x1.toInt ≠ 1 := fun q => h1 (Int32.toInt_inj.mp q)
  have e2 : x1.toInt ≠ 2 := fun q => h2 (Int32.toInt_inj.mp q)
  have e3 : x1.toInt ≠ 3 := fun q => h3 (Int32.toInt_inj.mp q)
  omega
theorem mi_X1_partsAt : MI yX1_partsAt cX1_partsAt 4 (some .int) 1 := ⟨gT_in (tb2 (List.mem_of_getElem? (i := 64) rfl)) rfl, gT_in (tb1 (List.mem_of_getElem? (i := 2) rfl)) rfl, by decide +kernel⟩
theorem iv_X1_partsAt : Cond.instanceMethod yX1_partsAt ∈ gT ∧ Cond.selects RX1 yX1_partsAt yX1_partsAt ∈ gT := ⟨gT_in (tb2 (List.mem_of_getElem? (i := 62) rfl)) rfl, gT_in (tb2 (List.mem_of_getElem? (i := 63) rfl)) rfl⟩
theorem lm_X7_116 : Cond.methodLink RX7 116 yX1_partsAt ∈ gT := gT_in (tb2 (List.mem_of_getElem? (i := 61) rfl)) rfl
theorem mi_X1_likeness : MI yX1_likeness cX1_likeness 5 (some .int) 1 := ⟨gT_in (tb2 (List.mem_of_getElem? (i := 68) rfl)) rfl, gT_in (tb1 (List.mem_of_getElem? (i := 2) rfl)) rfl, by decide +kernel⟩
theorem iv_X1_likeness : Cond.instanceMethod yX1_likeness ∈ gT ∧ Cond.selects RX1 yX1_likeness yX1_likeness ∈ gT := ⟨gT_in (tb2 (List.mem_of_getElem? (i := 66) rfl)) rfl, gT_in (tb2 (List.mem_of_getElem? (i := 67) rfl)) rfl⟩
theorem lm_X7_119 : Cond.methodLink RX7 119 yX1_likeness ∈ gT := gT_in (tb2 (List.mem_of_getElem? (i := 65) rfl)) rfl
theorem mi_X1_visitorsIn : MI yX1_visitorsIn cX1_visitorsIn 4 (some .int) 1 := ⟨gT_in (tb2 (List.mem_of_getElem? (i := 92) rfl)) rfl, gT_in (tb1 (List.mem_of_getElem? (i := 2) rfl)) rfl, by decide +kernel⟩
theorem iv_X1_visitorsIn : Cond.instanceMethod yX1_visitorsIn ∈ gT ∧ Cond.selects RX1 yX1_visitorsIn yX1_visitorsIn ∈ gT := ⟨gT_in (tb2 (List.mem_of_getElem? (i := 90) rfl)) rfl, gT_in (tb2 (List.mem_of_getElem? (i := 91) rfl)) rfl⟩
theorem lm_X7_122 : Cond.methodLink RX7 122 yX1_visitorsIn ∈ gT := gT_in (tb2 (List.mem_of_getElem? (i := 89) rfl)) rfl
theorem mi_X1_likeTo : MI yX1_likeTo cX1_likeTo 3 (some .int) 2 := ⟨gT_in (tb2 (List.mem_of_getElem? (i := 73) rfl)) rfl, gT_in (tb1 (List.mem_of_getElem? (i := 2) rfl)) rfl, by decide +kernel⟩
theorem iv_X1_likeTo : Cond.instanceMethod yX1_likeTo ∈ gT ∧ Cond.selects RX1 yX1_likeTo yX1_likeTo ∈ gT := ⟨gT_in (tb2 (List.mem_of_getElem? (i := 71) rfl)) rfl, gT_in (tb2 (List.mem_of_getElem? (i := 72) rfl)) rfl⟩
theorem lm_X7_125 : Cond.methodLink RX7 125 yX1_likeTo ∈ gT := gT_in (tb2 (List.mem_of_getElem? (i := 102) rfl)) rfl
theorem mi_X7_isPlace : MI yX7_isPlace cX7_isPlace 1 (some .boolean) 1 := ⟨gT_in (tb2 (List.mem_of_getElem? (i := 109) rfl)) rfl, gT_in (tb1 (List.mem_of_getElem? (i := 1) rfl)) rfl, by decide +kernel⟩
theorem st_X7_isPlace : Cond.static yX7_isPlace ∈ gT := gT_in (tb2 (List.mem_of_getElem? (i := 108) rfl)) rfl
theorem lm_X7_129 : Cond.methodLink RX7 129 yX7_isPlace ∈ gT := gT_in (tb2 (List.mem_of_getElem? (i := 107) rfl)) rfl
theorem fl_X7_132 : Cond.fieldLink RX7 132 "SameHeads$House" "place" "[I" ∈ gT := gT_in (tb1 (List.mem_of_getElem? (i := 46) rfl)) rfl
theorem gf_X7_132 {ρ : Type} {x : Fx} {g : Gl} {cw : Gl → Hp → va_W} {nL dR : Nat} {QR : ρ → QT} {cc : ByteArray} {ret : Option FieldType} {pc n : Nat} {L : List (Option Value)} {st : List Value} {h : Hp} {E : Option ρ} (C : Ok x g RX7 cc nL ret) (q0 : Nat) {a : Nat} {fs : List Value} (he : (cw g h)[q0]? = some (a, .inr (1, fs))) {v : Value} (hv : fs[3]? = some v) (d : decode cc pc = .ok (.getfield 132, 3)) (hn : pc + 3 = n) (k : J x g cw nL dR QR n L (v :: st) h E) : J x g cw nL dR QR pc L (.ref a :: st) h E := j_get C q0 he rfl vi_1 3 (Nat.le_of_ble_eq_true rfl) fl_X7_132 hv d hn k
theorem mi_X1_minutesTo : MI yX1_minutesTo cX1_minutesTo 5 (some .int) 2 := ⟨gT_in (tb2 (List.mem_of_getElem? (i := 114) rfl)) rfl, gT_in (tb1 (List.mem_of_getElem? (i := 2) rfl)) rfl, by decide +kernel⟩
theorem iv_X1_minutesTo : Cond.instanceMethod yX1_minutesTo ∈ gT ∧ Cond.selects RX1 yX1_minutesTo yX1_minutesTo ∈ gT := ⟨gT_in (tb2 (List.mem_of_getElem? (i := 112) rfl)) rfl, gT_in (tb2 (List.mem_of_getElem? (i := 113) rfl)) rfl⟩
theorem lm_X7_136 : Cond.methodLink RX7 136 yX1_minutesTo ∈ gT := gT_in (tb2 (List.mem_of_getElem? (i := 111) rfl)) rfl
theorem kc_X7_135 : Cond.constant RX7 135 (-1000005 : Int32) ∈ gT := gT_in (tb2 (List.mem_of_getElem? (i := 110) rfl)) rfl
theorem fl_X7_139 : Cond.fieldLink RX7 139 "SameHeads$House" "visitors" "I" ∈ gT := gT_in (tb1 (List.mem_of_getElem? (i := 68) rfl)) rfl
theorem gf_X7_139 {ρ : Type} {x : Fx} {g : Gl} {cw : Gl → Hp → va_W} {nL dR : Nat} {QR : ρ → QT} {cc : ByteArray} {ret : Option FieldType} {pc n : Nat} {L : List (Option Value)} {st : List Value} {h : Hp} {E : Option ρ} (C : Ok x g RX7 cc nL ret) (q0 : Nat) {a : Nat} {fs : List Value} (he : (cw g h)[q0]? = some (a, .inr (1, fs))) {v : Value} (hv : fs[11]? = some v) (d : decode cc pc = .ok (.getfield 139, 3)) (hn : pc + 3 = n) (k : J x g cw nL dR QR n L (v :: st) h E) : J x g cw nL dR QR pc L (.ref a :: st) h E := j_get C q0 he rfl vi_1 11 (Nat.le_of_ble_eq_true rfl) fl_X7_139 hv d hn k
theorem ic_4 : Int32.ofInt (4) = (4 : Int32) := by decide
theorem mi_X1_addVisitor : MI yX1_addVisitor cX1_addVisitor 1 (some .int) 0 := ⟨gT_in (tb2 (List.mem_of_getElem? (i := 128) rfl)) rfl, gT_in (tb1 (List.mem_of_getElem? (i := 2) rfl)) rfl, by decide +kernel⟩
theorem iv_X1_addVisitor : Cond.instanceMethod yX1_addVisitor ∈ gT ∧ Cond.selects RX1 yX1_addVisitor yX1_addVisitor ∈ gT := ⟨gT_in (tb2 (List.mem_of_getElem? (i := 126) rfl)) rfl, gT_in (tb2 (List.mem_of_getElem? (i := 127) rfl)) rfl⟩
theorem lm_X7_142 : Cond.methodLink RX7 142 yX1_addVisitor ∈ gT := gT_in (tb2 (List.mem_of_getElem? (i := 125) rfl)) rfl
theorem mi_X1_hasVisitor : MI yX1_hasVisitor cX1_hasVisitor 2 (some .boolean) 1 := ⟨gT_in (tb2 (List.mem_of_getElem? (i := 136) rfl)) rfl, gT_in (tb1 (List.mem_of_getElem? (i := 2) rfl)) rfl, by decide +kernel⟩
theorem iv_X1_hasVisitor : Cond.instanceMethod yX1_hasVisitor ∈ gT ∧ Cond.selects RX1 yX1_hasVisitor yX1_hasVisitor ∈ gT := ⟨gT_in (tb2 (List.mem_of_getElem? (i := 134) rfl)) rfl, gT_in (tb2 (List.mem_of_getElem? (i := 135) rfl)) rfl⟩
theorem lm_X7_146 : Cond.methodLink RX7 146 yX1_hasVisitor ∈ gT := gT_in (tb2 (List.mem_of_getElem? (i := 133) rfl)) rfl
theorem tabout_0_2 {x1 : Int32} (h0 : ¬ x1 = (0 : Int32)) (h1 : ¬ x1 = (1 : Int32)) (h2 : ¬ x1 = (2 : Int32)) : x1.toInt < 0 ∨ 2 < x1.toInt := by
  have e0 : x1.toInt ≠ 0 := fun q => h0 (Int32.toInt_inj.mp q)
  have e1 : x1.toInt ≠ 1 := fun q => h1 (Int32.toInt_inj.mp q)
  have e2 : x1.toInt ≠ 2 := fun q => h2 (Int32.toInt_inj.mp q)
  omega
theorem mi_X1_roomOf : MI yX1_roomOf cX1_roomOf 3 (some .int) 1 := ⟨gT_in (tb2 (List.mem_of_getElem? (i := 96) rfl)) rfl, gT_in (tb1 (List.mem_of_getElem? (i := 2) rfl)) rfl, by decide +kernel⟩
theorem iv_X1_roomOf : Cond.instanceMethod yX1_roomOf ∈ gT ∧ Cond.selects RX1 yX1_roomOf yX1_roomOf ∈ gT := ⟨gT_in (tb2 (List.mem_of_getElem? (i := 94) rfl)) rfl, gT_in (tb2 (List.mem_of_getElem? (i := 95) rfl)) rfl⟩
theorem lm_X7_149 : Cond.methodLink RX7 149 yX1_roomOf ∈ gT := gT_in (tb2 (List.mem_of_getElem? (i := 137) rfl)) rfl
theorem mi_X1_sighted : MI yX1_sighted cX1_sighted 5 (some .int) 2 := ⟨gT_in (tb2 (List.mem_of_getElem? (i := 141) rfl)) rfl, gT_in (tb1 (List.mem_of_getElem? (i := 2) rfl)) rfl, by decide +kernel⟩
theorem iv_X1_sighted : Cond.instanceMethod yX1_sighted ∈ gT ∧ Cond.selects RX1 yX1_sighted yX1_sighted ∈ gT := ⟨gT_in (tb2 (List.mem_of_getElem? (i := 139) rfl)) rfl, gT_in (tb2 (List.mem_of_getElem? (i := 140) rfl)) rfl⟩
theorem lm_X7_152 : Cond.methodLink RX7 152 yX1_sighted ∈ gT := gT_in (tb2 (List.mem_of_getElem? (i := 138) rfl)) rfl
theorem ic_2 : Int32.ofInt (2) = (2 : Int32) := by decide
theorem fl_X7_155 : Cond.fieldLink RX7 155 "SameHeads$House" "clock" "I" ∈ gT := gT_in (tb1 (List.mem_of_getElem? (i := 70) rfl)) rfl
theorem gf_X7_155 {ρ : Type} {x : Fx} {g : Gl} {cw : Gl → Hp → va_W} {nL dR : Nat} {QR : ρ → QT} {cc : ByteArray} {ret : Option FieldType} {pc n : Nat} {L : List (Option Value)} {st : List Value} {h : Hp} {E : Option ρ} (C : Ok x g RX7 cc nL ret) (q0 : Nat) {a : Nat} {fs : List Value} (he : (cw g h)[q0]? = some (a, .inr (1, fs))) {v : Value} (hv : fs[12]? = some v) (d : decode cc pc = .ok (.getfield 155, 3)) (hn : pc + 3 = n) (k : J x g cw nL dR QR n L (v :: st) h E) : J x g cw nL dR QR pc L (.ref a :: st) h E := j_get C q0 he rfl vi_1 12 (Nat.le_of_ble_eq_true rfl) fl_X7_155 hv d hn k
theorem sp_9999 : (Int16.ofInt (9999)).toInt32 = (9999 : Int32) := by decide
theorem mi_X1_carry : MI yX1_carry cX1_carry 4 none 2 := ⟨gT_in (tb2 (List.mem_of_getElem? (i := 150) rfl)) rfl, gT_in (tb1 (List.mem_of_getElem? (i := 2) rfl)) rfl, by decide +kernel⟩
theorem iv_X1_carry : Cond.instanceMethod yX1_carry ∈ gT ∧ Cond.selects RX1 yX1_carry yX1_carry ∈ gT := ⟨gT_in (tb2 (List.mem_of_getElem? (i := 148) rfl)) rfl, gT_in (tb2 (List.mem_of_getElem? (i := 149) rfl)) rfl⟩
theorem lm_X7_158 : Cond.methodLink RX7 158 yX1_carry ∈ gT := gT_in (tb2 (List.mem_of_getElem? (i := 147) rfl)) rfl
theorem bp_60 : (Int8.ofInt (60)).toInt32 = (60 : Int32) := by decide
theorem mi_X1_spend : MI yX1_spend cX1_spend 4 none 1 := ⟨gT_in (tb2 (List.mem_of_getElem? (i := 155) rfl)) rfl, gT_in (tb1 (List.mem_of_getElem? (i := 2) rfl)) rfl, by decide +kernel⟩
theorem iv_X1_spend : Cond.instanceMethod yX1_spend ∈ gT ∧ Cond.selects RX1 yX1_spend yX1_spend ∈ gT := ⟨gT_in (tb2 (List.mem_of_getElem? (i := 153) rfl)) rfl, gT_in (tb2 (List.mem_of_getElem? (i := 154) rfl)) rfl⟩
theorem lm_X7_162 : Cond.methodLink RX7 162 yX1_spend ∈ gT := gT_in (tb2 (List.mem_of_getElem? (i := 168) rfl)) rfl
theorem mi_X1_sightedTwice : MI yX1_sightedTwice cX1_sightedTwice 3 (some .int) 0 := ⟨gT_in (tb2 (List.mem_of_getElem? (i := 172) rfl)) rfl, gT_in (tb1 (List.mem_of_getElem? (i := 2) rfl)) rfl, by decide +kernel⟩
theorem iv_X1_sightedTwice : Cond.instanceMethod yX1_sightedTwice ∈ gT ∧ Cond.selects RX1 yX1_sightedTwice yX1_sightedTwice ∈ gT := ⟨gT_in (tb2 (List.mem_of_getElem? (i := 170) rfl)) rfl, gT_in (tb2 (List.mem_of_getElem? (i := 171) rfl)) rfl⟩
theorem lm_X7_166 : Cond.methodLink RX7 166 yX1_sightedTwice ∈ gT := gT_in (tb2 (List.mem_of_getElem? (i := 169) rfl)) rfl
theorem mi_J6_bitCount_0f7a4 : MI yJ6_bitCount_0f7a4 cJ6_bitCount_0f7a4 1 (some .int) 1 := ⟨gT_in (tb2 (List.mem_of_getElem? (i := 82) rfl)) rfl, gT_in (tb1 (List.mem_of_getElem? (i := 11) rfl)) rfl, by decide +kernel⟩
theorem st_J6_bitCount_0f7a4 : Cond.static yJ6_bitCount_0f7a4 ∈ gT := gT_in (tb2 (List.mem_of_getElem? (i := 81) rfl)) rfl
theorem lm_X7_169 : Cond.methodLink RX7 169 yJ6_bitCount_0f7a4 ∈ gT := gT_in (tb2 (List.mem_of_getElem? (i := 174) rfl)) rfl
theorem tabout_0_5 {x1 : Int32} (h0 : ¬ x1 = (0 : Int32)) (h1 : ¬ x1 = (1 : Int32)) (h2 : ¬ x1 = (2 : Int32)) (h3 : ¬ x1 = (3 : Int32)) (h4 : ¬ x1 = (4 : Int32)) (h5 : ¬ x1 = (5 : Int32)) : x1.toInt < 0 ∨ 5 < x1.toInt := by
  have e0 : x1.toInt ≠ 0 := fun q => h0 (Int32.toInt_inj.mp q)
  have e1 : x1.toInt ≠ 1 := fun q => h1 (Int32.toInt_inj.mp q)
  have e2 : x1.toInt ≠ 2 := fun q => h2 (Int32.toInt_inj.mp q)
  have e3 : x1.toInt ≠ 3 := fun q => h3 (Int32.toInt_inj.mp q)
  have e4 : x1.toInt ≠ 4 := fun q => h4 (Int32.toInt_inj.mp q)
  have e5 : x1.toInt ≠ 5 := fun q => h5 (Int32.toInt_inj.mp q)
  omega
theorem mi_X1_allLikeness : MI yX1_allLikeness cX1_allLikeness 3 (some .int) 0 := ⟨gT_in (tb2 (List.mem_of_getElem? (i := 182) rfl)) rfl, gT_in (tb1 (List.mem_of_getElem? (i := 2) rfl)) rfl, by decide +kernel⟩
theorem iv_X1_allLikeness : Cond.instanceMethod yX1_allLikeness ∈ gT ∧ Cond.selects RX1 yX1_allLikeness yX1_allLikeness ∈ gT := ⟨gT_in (tb2 (List.mem_of_getElem? (i := 180) rfl)) rfl, gT_in (tb2 (List.mem_of_getElem? (i := 181) rfl)) rfl⟩
theorem lm_X7_174 : Cond.methodLink RX7 174 yX1_allLikeness ∈ gT := gT_in (tb2 (List.mem_of_getElem? (i := 179) rfl)) rfl
theorem mi_X1_visitorsThere : MI yX1_visitorsThere cX1_visitorsThere 3 (some .int) 0 := ⟨gT_in (tb2 (List.mem_of_getElem? (i := 187) rfl)) rfl, gT_in (tb1 (List.mem_of_getElem? (i := 2) rfl)) rfl, by decide +kernel⟩
theorem iv_X1_visitorsThere : Cond.instanceMethod yX1_visitorsThere ∈ gT ∧ Cond.selects RX1 yX1_visitorsThere yX1_visitorsThere ∈ gT := ⟨gT_in (tb2 (List.mem_of_getElem? (i := 185) rfl)) rfl, gT_in (tb2 (List.mem_of_getElem? (i := 186) rfl)) rfl⟩
theorem lm_X7_177 : Cond.methodLink RX7 177 yX1_visitorsThere ∈ gT := gT_in (tb2 (List.mem_of_getElem? (i := 184) rfl)) rfl
theorem fl_X7_25 : Cond.fieldLink RX7 25 "SameHeads" "givings" "LSameHeads$Givings;" ∈ gT := gT_in (tb1 (List.mem_of_getElem? (i := 210) rfl)) rfl
theorem gf_X7_25 {ρ : Type} {x : Fx} {g : Gl} {cw : Gl → Hp → va_W} {nL dR : Nat} {QR : ρ → QT} {cc : ByteArray} {ret : Option FieldType} {pc n : Nat} {L : List (Option Value)} {st : List Value} {h : Hp} {E : Option ρ} (C : Ok x g RX7 cc nL ret) (q0 : Nat) {a : Nat} {fs : List Value} (he : (cw g h)[q0]? = some (a, .inr (6, fs))) {v : Value} (hv : fs[3]? = some v) (d : decode cc pc = .ok (.getfield 25, 3)) (hn : pc + 3 = n) (k : J x g cw nL dR QR n L (v :: st) h E) : J x g cw nL dR QR pc L (.ref a :: st) h E := j_get C q0 he rfl vi_6 3 (Nat.le_of_ble_eq_true rfl) fl_X7_25 hv d hn k
theorem mi_X0_bestWorth : MI yX0_bestWorth cX0_bestWorth 2 (some .int) 1 := ⟨gT_in (tb2 (List.mem_of_getElem? (i := 196) rfl)) rfl, gT_in (tb1 (List.mem_of_getElem? (i := 4) rfl)) rfl, by decide +kernel⟩
theorem iv_X0_bestWorth : Cond.instanceMethod yX0_bestWorth ∈ gT ∧ Cond.selects RX0 yX0_bestWorth yX0_bestWorth ∈ gT := ⟨gT_in (tb2 (List.mem_of_getElem? (i := 194) rfl)) rfl, gT_in (tb2 (List.mem_of_getElem? (i := 195) rfl)) rfl⟩
theorem lm_X7_180 : Cond.methodLink RX7 180 yX0_bestWorth ∈ gT := gT_in (tb2 (List.mem_of_getElem? (i := 193) rfl)) rfl
theorem mi_X0_headIn : MI yX0_headIn cX0_headIn 6 (some .int) 2 := ⟨gT_in (tb2 (List.mem_of_getElem? (i := 237) rfl)) rfl, gT_in (tb1 (List.mem_of_getElem? (i := 4) rfl)) rfl, by decide +kernel⟩
theorem iv_X0_headIn : Cond.instanceMethod yX0_headIn ∈ gT ∧ Cond.selects RX0 yX0_headIn yX0_headIn ∈ gT := ⟨gT_in (tb2 (List.mem_of_getElem? (i := 235) rfl)) rfl, gT_in (tb2 (List.mem_of_getElem? (i := 236) rfl)) rfl⟩
theorem lm_X7_184 : Cond.methodLink RX7 184 yX0_headIn ∈ gT := gT_in (tb2 (List.mem_of_getElem? (i := 234) rfl)) rfl
theorem mi_X1_likestTo : MI yX1_likestTo cX1_likestTo 4 (some .int) 1 := ⟨gT_in (tb3 (List.mem_of_getElem? (i := 10) rfl)) rfl, gT_in (tb1 (List.mem_of_getElem? (i := 2) rfl)) rfl, by decide +kernel⟩
theorem iv_X1_likestTo : Cond.instanceMethod yX1_likestTo ∈ gT ∧ Cond.selects RX1 yX1_likestTo yX1_likestTo ∈ gT := ⟨gT_in (tb3 (List.mem_of_getElem? (i := 8) rfl)) rfl, gT_in (tb3 (List.mem_of_getElem? (i := 9) rfl)) rfl⟩
theorem lm_X7_189 : Cond.methodLink RX7 189 yX1_likestTo ∈ gT := gT_in (tb3 (List.mem_of_getElem? (i := 7) rfl)) rfl
theorem kc_X7_188 : Cond.constant RX7 188 (-1000004 : Int32) ∈ gT := gT_in (tb3 (List.mem_of_getElem? (i := 6) rfl)) rfl
theorem mi_X1_likestOf : MI yX1_likestOf cX1_likestOf 4 (some .int) 1 := ⟨gT_in (tb3 (List.mem_of_getElem? (i := 18) rfl)) rfl, gT_in (tb1 (List.mem_of_getElem? (i := 2) rfl)) rfl, by decide +kernel⟩
theorem iv_X1_likestOf : Cond.instanceMethod yX1_likestOf ∈ gT ∧ Cond.selects RX1 yX1_likestOf yX1_likestOf ∈ gT := ⟨gT_in (tb3 (List.mem_of_getElem? (i := 16) rfl)) rfl, gT_in (tb3 (List.mem_of_getElem? (i := 17) rfl)) rfl⟩
theorem lm_X7_192 : Cond.methodLink RX7 192 yX1_likestOf ∈ gT := gT_in (tb3 (List.mem_of_getElem? (i := 15) rfl)) rfl
theorem mi_X0_lossOf : MI yX0_lossOf cX0_lossOf 3 (some .int) 2 := ⟨gT_in (tb3 (List.mem_of_getElem? (i := 26) rfl)) rfl, gT_in (tb1 (List.mem_of_getElem? (i := 4) rfl)) rfl, by decide +kernel⟩
theorem iv_X0_lossOf : Cond.instanceMethod yX0_lossOf ∈ gT ∧ Cond.selects RX0 yX0_lossOf yX0_lossOf ∈ gT := ⟨gT_in (tb3 (List.mem_of_getElem? (i := 24) rfl)) rfl, gT_in (tb3 (List.mem_of_getElem? (i := 25) rfl)) rfl⟩
theorem lm_X7_195 : Cond.methodLink RX7 195 yX0_lossOf ∈ gT := gT_in (tb3 (List.mem_of_getElem? (i := 23) rfl)) rfl
theorem mi_X1_isHead : MI yX1_isHead cX1_isHead 2 (some .boolean) 1 := ⟨gT_in (tb2 (List.mem_of_getElem? (i := 208) rfl)) rfl, gT_in (tb1 (List.mem_of_getElem? (i := 2) rfl)) rfl, by decide +kernel⟩
theorem iv_X1_isHead : Cond.instanceMethod yX1_isHead ∈ gT ∧ Cond.selects RX1 yX1_isHead yX1_isHead ∈ gT := ⟨gT_in (tb2 (List.mem_of_getElem? (i := 206) rfl)) rfl, gT_in (tb2 (List.mem_of_getElem? (i := 207) rfl)) rfl⟩
theorem lm_X7_198 : Cond.methodLink RX7 198 yX1_isHead ∈ gT := gT_in (tb3 (List.mem_of_getElem? (i := 31) rfl)) rfl
theorem mi_X0_bestLooks : MI yX0_bestLooks cX0_bestLooks 7 (some .int) 2 := ⟨gT_in (tb3 (List.mem_of_getElem? (i := 36) rfl)) rfl, gT_in (tb1 (List.mem_of_getElem? (i := 4) rfl)) rfl, by decide +kernel⟩
theorem iv_X0_bestLooks : Cond.instanceMethod yX0_bestLooks ∈ gT ∧ Cond.selects RX0 yX0_bestLooks yX0_bestLooks ∈ gT := ⟨gT_in (tb3 (List.mem_of_getElem? (i := 34) rfl)) rfl, gT_in (tb3 (List.mem_of_getElem? (i := 35) rfl)) rfl⟩
theorem lm_X7_202 : Cond.methodLink RX7 202 yX0_bestLooks ∈ gT := gT_in (tb3 (List.mem_of_getElem? (i := 33) rfl)) rfl
theorem kc_X7_201 : Cond.constant RX7 201 (-1000003 : Int32) ∈ gT := gT_in (tb3 (List.mem_of_getElem? (i := 32) rfl)) rfl
theorem mi_X0_bestKind : MI yX0_bestKind cX0_bestKind 7 (some .int) 2 := ⟨gT_in (tb3 (List.mem_of_getElem? (i := 50) rfl)) rfl, gT_in (tb1 (List.mem_of_getElem? (i := 4) rfl)) rfl, by decide +kernel⟩
theorem iv_X0_bestKind : Cond.instanceMethod yX0_bestKind ∈ gT ∧ Cond.selects RX0 yX0_bestKind yX0_bestKind ∈ gT := ⟨gT_in (tb3 (List.mem_of_getElem? (i := 48) rfl)) rfl, gT_in (tb3 (List.mem_of_getElem? (i := 49) rfl)) rfl⟩
theorem lm_X7_205 : Cond.methodLink RX7 205 yX0_bestKind ∈ gT := gT_in (tb3 (List.mem_of_getElem? (i := 47) rfl)) rfl
theorem sp_9000 : (Int16.ofInt (9000)).toInt32 = (9000 : Int32) := by decide
theorem mi_X1_staysUnseen : MI yX1_staysUnseen cX1_staysUnseen 8 (some .boolean) 3 := ⟨gT_in (tb3 (List.mem_of_getElem? (i := 58) rfl)) rfl, gT_in (tb1 (List.mem_of_getElem? (i := 2) rfl)) rfl, by decide +kernel⟩
theorem iv_X1_staysUnseen : Cond.instanceMethod yX1_staysUnseen ∈ gT ∧ Cond.selects RX1 yX1_staysUnseen yX1_staysUnseen ∈ gT := ⟨gT_in (tb3 (List.mem_of_getElem? (i := 56) rfl)) rfl, gT_in (tb3 (List.mem_of_getElem? (i := 57) rfl)) rfl⟩
theorem lm_X7_208 : Cond.methodLink RX7 208 yX1_staysUnseen ∈ gT := gT_in (tb3 (List.mem_of_getElem? (i := 55) rfl)) rfl
theorem mi_X1_minutesTillEmpty : MI yX1_minutesTillEmpty cX1_minutesTillEmpty 3 (some .int) 0 := ⟨gT_in (tb3 (List.mem_of_getElem? (i := 71) rfl)) rfl, gT_in (tb1 (List.mem_of_getElem? (i := 2) rfl)) rfl, by decide +kernel⟩
theorem iv_X1_minutesTillEmpty : Cond.instanceMethod yX1_minutesTillEmpty ∈ gT ∧ Cond.selects RX1 yX1_minutesTillEmpty yX1_minutesTillEmpty ∈ gT := ⟨gT_in (tb3 (List.mem_of_getElem? (i := 69) rfl)) rfl, gT_in (tb3 (List.mem_of_getElem? (i := 70) rfl)) rfl⟩
theorem lm_X7_211 : Cond.methodLink RX7 211 yX1_minutesTillEmpty ∈ gT := gT_in (tb3 (List.mem_of_getElem? (i := 68) rfl)) rfl
theorem mi_X1_allChances : MI yX1_allChances cX1_allChances 3 (some .int) 0 := ⟨gT_in (tb3 (List.mem_of_getElem? (i := 79) rfl)) rfl, gT_in (tb1 (List.mem_of_getElem? (i := 2) rfl)) rfl, by decide +kernel⟩
theorem iv_X1_allChances : Cond.instanceMethod yX1_allChances ∈ gT ∧ Cond.selects RX1 yX1_allChances yX1_allChances ∈ gT := ⟨gT_in (tb3 (List.mem_of_getElem? (i := 77) rfl)) rfl, gT_in (tb3 (List.mem_of_getElem? (i := 78) rfl)) rfl⟩
theorem lm_X7_214 : Cond.methodLink RX7 214 yX1_allChances ∈ gT := gT_in (tb3 (List.mem_of_getElem? (i := 76) rfl)) rfl
theorem mi_X1_favour : MI yX1_favour cX1_favour 4 (some .int) 1 := ⟨gT_in (tb3 (List.mem_of_getElem? (i := 83) rfl)) rfl, gT_in (tb1 (List.mem_of_getElem? (i := 2) rfl)) rfl, by decide +kernel⟩
theorem iv_X1_favour : Cond.instanceMethod yX1_favour ∈ gT ∧ Cond.selects RX1 yX1_favour yX1_favour ∈ gT := ⟨gT_in (tb3 (List.mem_of_getElem? (i := 81) rfl)) rfl, gT_in (tb3 (List.mem_of_getElem? (i := 82) rfl)) rfl⟩
theorem lm_X7_217 : Cond.methodLink RX7 217 yX1_favour ∈ gT := gT_in (tb3 (List.mem_of_getElem? (i := 80) rfl)) rfl
theorem mi_X7_commonDivisor : MI yX7_commonDivisor cX7_commonDivisor 6 (some .int) 2 := ⟨gT_in (tb3 (List.mem_of_getElem? (i := 86) rfl)) rfl, gT_in (tb1 (List.mem_of_getElem? (i := 1) rfl)) rfl, by decide +kernel⟩
theorem st_X7_commonDivisor : Cond.static yX7_commonDivisor ∈ gT := gT_in (tb3 (List.mem_of_getElem? (i := 85) rfl)) rfl
theorem lm_X7_220 : Cond.methodLink RX7 220 yX7_commonDivisor ∈ gT := gT_in (tb3 (List.mem_of_getElem? (i := 84) rfl)) rfl
theorem mi_X1_nearestMould : MI yX1_nearestMould cX1_nearestMould 4 (some .int) 1 := ⟨gT_in (tb3 (List.mem_of_getElem? (i := 98) rfl)) rfl, gT_in (tb1 (List.mem_of_getElem? (i := 2) rfl)) rfl, by decide +kernel⟩
theorem iv_X1_nearestMould : Cond.instanceMethod yX1_nearestMould ∈ gT ∧ Cond.selects RX1 yX1_nearestMould yX1_nearestMould ∈ gT := ⟨gT_in (tb3 (List.mem_of_getElem? (i := 96) rfl)) rfl, gT_in (tb3 (List.mem_of_getElem? (i := 97) rfl)) rfl⟩
theorem lm_X7_223 : Cond.methodLink RX7 223 yX1_nearestMould ∈ gT := gT_in (tb3 (List.mem_of_getElem? (i := 95) rfl)) rfl
theorem mi_X1_cutCost : MI yX1_cutCost cX1_cutCost 3 (some .int) 2 := ⟨gT_in (tb3 (List.mem_of_getElem? (i := 102) rfl)) rfl, gT_in (tb1 (List.mem_of_getElem? (i := 2) rfl)) rfl, by decide +kernel⟩
theorem iv_X1_cutCost : Cond.instanceMethod yX1_cutCost ∈ gT ∧ Cond.selects RX1 yX1_cutCost yX1_cutCost ∈ gT := ⟨gT_in (tb3 (List.mem_of_getElem? (i := 100) rfl)) rfl, gT_in (tb3 (List.mem_of_getElem? (i := 101) rfl)) rfl⟩
theorem lm_X7_226 : Cond.methodLink RX7 226 yX1_cutCost ∈ gT := gT_in (tb3 (List.mem_of_getElem? (i := 108) rfl)) rfl
theorem mi_X7_isSheet : MI yX7_isSheet cX7_isSheet 1 (some .boolean) 1 := ⟨gT_in (tb3 (List.mem_of_getElem? (i := 115) rfl)) rfl, gT_in (tb1 (List.mem_of_getElem? (i := 1) rfl)) rfl, by decide +kernel⟩
theorem st_X7_isSheet : Cond.static yX7_isSheet ∈ gT := gT_in (tb3 (List.mem_of_getElem? (i := 114) rfl)) rfl
theorem lm_X7_229 : Cond.methodLink RX7 229 yX7_isSheet ∈ gT := gT_in (tb3 (List.mem_of_getElem? (i := 113) rfl)) rfl
theorem fl_X7_54 : Cond.fieldLink RX7 54 "SameHeads" "sheets" "[LSameHeads$Sheet;" ∈ gT := gT_in (tb1 (List.mem_of_getElem? (i := 214) rfl)) rfl
theorem gf_X7_54 {ρ : Type} {x : Fx} {g : Gl} {cw : Gl → Hp → va_W} {nL dR : Nat} {QR : ρ → QT} {cc : ByteArray} {ret : Option FieldType} {pc n : Nat} {L : List (Option Value)} {st : List Value} {h : Hp} {E : Option ρ} (C : Ok x g RX7 cc nL ret) (q0 : Nat) {a : Nat} {fs : List Value} (he : (cw g h)[q0]? = some (a, .inr (6, fs))) {v : Value} (hv : fs[7]? = some v) (d : decode cc pc = .ok (.getfield 54, 3)) (hn : pc + 3 = n) (k : J x g cw nL dR QR n L (v :: st) h E) : J x g cw nL dR QR pc L (.ref a :: st) h E := j_get C q0 he rfl vi_6 7 (Nat.le_of_ble_eq_true rfl) fl_X7_54 hv d hn k
theorem mi_X4_isMissing : MI yX4_isMissing cX4_isMissing 1 (some .boolean) 0 := ⟨gT_in (tb3 (List.mem_of_getElem? (i := 119) rfl)) rfl, gT_in (tb1 (List.mem_of_getElem? (i := 8) rfl)) rfl, by decide +kernel⟩
theorem iv_X4_isMissing : Cond.instanceMethod yX4_isMissing ∈ gT ∧ Cond.selects RX4 yX4_isMissing yX4_isMissing ∈ gT := ⟨gT_in (tb3 (List.mem_of_getElem? (i := 117) rfl)) rfl, gT_in (tb3 (List.mem_of_getElem? (i := 118) rfl)) rfl⟩
theorem lm_X7_232 : Cond.methodLink RX7 232 yX4_isMissing ∈ gT := gT_in (tb3 (List.mem_of_getElem? (i := 116) rfl)) rfl
theorem fl_X7_32 : Cond.fieldLink RX7 32 "SameHeads" "tellings" "LSameHeads$Tellings;" ∈ gT := gT_in (tb1 (List.mem_of_getElem? (i := 211) rfl)) rfl
theorem gf_X7_32 {ρ : Type} {x : Fx} {g : Gl} {cw : Gl → Hp → va_W} {nL dR : Nat} {QR : ρ → QT} {cc : ByteArray} {ret : Option FieldType} {pc n : Nat} {L : List (Option Value)} {st : List Value} {h : Hp} {E : Option ρ} (C : Ok x g RX7 cc nL ret) (q0 : Nat) {a : Nat} {fs : List Value} (he : (cw g h)[q0]? = some (a, .inr (6, fs))) {v : Value} (hv : fs[4]? = some v) (d : decode cc pc = .ok (.getfield 32, 3)) (hn : pc + 3 = n) (k : J x g cw nL dR QR n L (v :: st) h E) : J x g cw nL dR QR pc L (.ref a :: st) h E := j_get C q0 he rfl vi_6 4 (Nat.le_of_ble_eq_true rfl) fl_X7_32 hv d hn k
theorem mi_X6_allWays : MI yX6_allWays cX6_allWays 3 (some .int) 2 := ⟨gT_in (tb3 (List.mem_of_getElem? (i := 124) rfl)) rfl, gT_in (tb1 (List.mem_of_getElem? (i := 5) rfl)) rfl, by decide +kernel⟩
theorem iv_X6_allWays : Cond.instanceMethod yX6_allWays ∈ gT ∧ Cond.selects RX6 yX6_allWays yX6_allWays ∈ gT := ⟨gT_in (tb3 (List.mem_of_getElem? (i := 122) rfl)) rfl, gT_in (tb3 (List.mem_of_getElem? (i := 123) rfl)) rfl⟩
theorem lm_X7_237 : Cond.methodLink RX7 237 yX6_allWays ∈ gT := gT_in (tb3 (List.mem_of_getElem? (i := 121) rfl)) rfl
theorem kc_X7_236 : Cond.constant RX7 236 (-1000006 : Int32) ∈ gT := gT_in (tb3 (List.mem_of_getElem? (i := 120) rfl)) rfl
theorem fl_X7_241 : Cond.fieldLink RX7 241 "SameHeads$Sheet" "size" "I" ∈ gT := gT_in (tb1 (List.mem_of_getElem? (i := 199) rfl)) rfl
theorem gf_X7_241 {ρ : Type} {x : Fx} {g : Gl} {cw : Gl → Hp → va_W} {nL dR : Nat} {QR : ρ → QT} {cc : ByteArray} {ret : Option FieldType} {pc n : Nat} {L : List (Option Value)} {st : List Value} {h : Hp} {E : Option ρ} (C : Ok x g RX7 cc nL ret) (q0 : Nat) {a : Nat} {fs : List Value} (he : (cw g h)[q0]? = some (a, .inr (3, fs))) {v : Value} (hv : fs[2]? = some v) (d : decode cc pc = .ok (.getfield 241, 3)) (hn : pc + 3 = n) (k : J x g cw nL dR QR n L (v :: st) h E) : J x g cw nL dR QR pc L (.ref a :: st) h E := j_get C q0 he rfl vi_3 2 (Nat.le_of_ble_eq_true rfl) fl_X7_241 hv d hn k
theorem mi_X6_headsFor : MI yX6_headsFor cX6_headsFor 7 (some .int) 3 := ⟨gT_in (tb3 (List.mem_of_getElem? (i := 151) rfl)) rfl, gT_in (tb1 (List.mem_of_getElem? (i := 5) rfl)) rfl, by decide +kernel⟩
theorem iv_X6_headsFor : Cond.instanceMethod yX6_headsFor ∈ gT ∧ Cond.selects RX6 yX6_headsFor yX6_headsFor ∈ gT := ⟨gT_in (tb3 (List.mem_of_getElem? (i := 149) rfl)) rfl, gT_in (tb3 (List.mem_of_getElem? (i := 150) rfl)) rfl⟩
theorem lm_X7_244 : Cond.methodLink RX7 244 yX6_headsFor ∈ gT := gT_in (tb3 (List.mem_of_getElem? (i := 148) rfl)) rfl
theorem bp_6 : (Int8.ofInt (6)).toInt32 = (6 : Int32) := by decide
theorem mi_X1_headsLike : MI yX1_headsLike cX1_headsLike 5 (some .int) 2 := ⟨gT_in (tb3 (List.mem_of_getElem? (i := 159) rfl)) rfl, gT_in (tb1 (List.mem_of_getElem? (i := 2) rfl)) rfl, by decide +kernel⟩
theorem iv_X1_headsLike : Cond.instanceMethod yX1_headsLike ∈ gT ∧ Cond.selects RX1 yX1_headsLike yX1_headsLike ∈ gT := ⟨gT_in (tb3 (List.mem_of_getElem? (i := 157) rfl)) rfl, gT_in (tb3 (List.mem_of_getElem? (i := 158) rfl)) rfl⟩
theorem lm_X7_248 : Cond.methodLink RX7 248 yX1_headsLike ∈ gT := gT_in (tb3 (List.mem_of_getElem? (i := 156) rfl)) rfl
theorem bp_12 : (Int8.ofInt (12)).toInt32 = (12 : Int32) := by decide
theorem mi_X1_draw : MI yX1_draw cX1_draw 1 (some .int) 0 := ⟨gT_in (tb3 (List.mem_of_getElem? (i := 172) rfl)) rfl, gT_in (tb1 (List.mem_of_getElem? (i := 2) rfl)) rfl, by decide +kernel⟩
theorem iv_X1_draw : Cond.instanceMethod yX1_draw ∈ gT ∧ Cond.selects RX1 yX1_draw yX1_draw ∈ gT := ⟨gT_in (tb3 (List.mem_of_getElem? (i := 170) rfl)) rfl, gT_in (tb3 (List.mem_of_getElem? (i := 171) rfl)) rfl⟩
theorem lm_X7_251 : Cond.methodLink RX7 251 yX1_draw ∈ gT := gT_in (tb3 (List.mem_of_getElem? (i := 169) rfl)) rfl
theorem fl_X7_254 : Cond.fieldLink RX7 254 "SameHeads$House" "z" "I" ∈ gT := gT_in (tb1 (List.mem_of_getElem? (i := 75) rfl)) rfl
theorem gf_X7_254 {ρ : Type} {x : Fx} {g : Gl} {cw : Gl → Hp → va_W} {nL dR : Nat} {QR : ρ → QT} {cc : ByteArray} {ret : Option FieldType} {pc n : Nat} {L : List (Option Value)} {st : List Value} {h : Hp} {E : Option ρ} (C : Ok x g RX7 cc nL ret) (q0 : Nat) {a : Nat} {fs : List Value} (he : (cw g h)[q0]? = some (a, .inr (1, fs))) {v : Value} (hv : fs[14]? = some v) (d : decode cc pc = .ok (.getfield 254, 3)) (hn : pc + 3 = n) (k : J x g cw nL dR QR n L (v :: st) h E) : J x g cw nL dR QR pc L (.ref a :: st) h E := j_get C q0 he rfl vi_1 14 (Nat.le_of_ble_eq_true rfl) fl_X7_254 hv d hn k
theorem ty0_X1_14 : parseFieldDescriptor (TX1 14).2.2.1 = some .int := by decide +kernel
theorem pf_X7_254 {ρ : Type} {x : Fx} {g : Gl} {cw : Gl → Hp → va_W} {nL dR : Nat} {QR : ρ → QT} {cc : ByteArray} {ret : Option FieldType} {pc n : Nat} {L : List (Option Value)} {st : List Value} {h : Hp} {E : Option ρ} (C : Ok x g RX7 cc nL ret) (q0 : Nat) {a : Nat} {fs : List Value} {v : Int32} (he : (cw g h)[q0]? = some (a, .inr (1, fs))) (hs : (cw g h).set q0 (a, .inr (1, fs.set 14 (.int v))) = cw g (up h q0 14 v)) (hlt : (Nat.ble (14 + 1) fs.length) = true) (d : decode cc pc = .ok (.putfield 254, 3)) (hn : pc + 3 = n) (k : J x g cw nL dR QR n L st (up h q0 14 v) E) : J x g cw nL dR QR pc L (.int v :: .ref a :: st) h E := j_put C q0 he rfl vi_1 tyX1 tyX1_ok nmX1 14 (Nat.le_of_ble_eq_true rfl) fl_X7_254 rfl (ty0_X1_14) (⟨rfl, rfl⟩) (Nat.le_of_ble_eq_true hlt) hs d hn k
theorem fl_X7_39 : Cond.fieldLink RX7 39 "SameHeads" "tape" "LSameHeads$Tape;" ∈ gT := gT_in (tb1 (List.mem_of_getElem? (i := 212) rfl)) rfl
theorem gf_X7_39 {ρ : Type} {x : Fx} {g : Gl} {cw : Gl → Hp → va_W} {nL dR : Nat} {QR : ρ → QT} {cc : ByteArray} {ret : Option FieldType} {pc n : Nat} {L : List (Option Value)} {st : List Value} {h : Hp} {E : Option ρ} (C : Ok x g RX7 cc nL ret) (q0 : Nat) {a : Nat} {fs : List Value} (he : (cw g h)[q0]? = some (a, .inr (6, fs))) {v : Value} (hv : fs[5]? = some v) (d : decode cc pc = .ok (.getfield 39, 3)) (hn : pc + 3 = n) (k : J x g cw nL dR QR n L (v :: st) h E) : J x g cw nL dR QR pc L (.ref a :: st) h E := j_get C q0 he rfl vi_6 5 (Nat.le_of_ble_eq_true rfl) fl_X7_39 hv d hn k
theorem fl_X7_257 : Cond.fieldLink RX7 257 "SameHeads$Tape" "length" "I" ∈ gT := gT_in (tb1 (List.mem_of_getElem? (i := 150) rfl)) rfl
theorem gf_X7_257 {ρ : Type} {x : Fx} {g : Gl} {cw : Gl → Hp → va_W} {nL dR : Nat} {QR : ρ → QT} {cc : ByteArray} {ret : Option FieldType} {pc n : Nat} {L : List (Option Value)} {st : List Value} {h : Hp} {E : Option ρ} (C : Ok x g RX7 cc nL ret) (q0 : Nat) {a : Nat} {fs : List Value} (he : (cw g h)[q0]? = some (a, .inr (4, fs))) {v : Value} (hv : fs[1]? = some v) (d : decode cc pc = .ok (.getfield 257, 3)) (hn : pc + 3 = n) (k : J x g cw nL dR QR n L (v :: st) h E) : J x g cw nL dR QR pc L (.ref a :: st) h E := j_get C q0 he rfl vi_4 1 (Nat.le_of_ble_eq_true rfl) fl_X7_257 hv d hn k
theorem bp_120 : (Int8.ofInt (120)).toInt32 = (120 : Int32) := by decide
theorem bp_8 : (Int8.ofInt (8)).toInt32 = (8 : Int32) := by decide
theorem mi_X5_append : MI yX5_append cX5_append 2 none 1 := ⟨gT_in (tb3 (List.mem_of_getElem? (i := 185) rfl)) rfl, gT_in (tb1 (List.mem_of_getElem? (i := 6) rfl)) rfl, by decide +kernel⟩
theorem iv_X5_append : Cond.instanceMethod yX5_append ∈ gT ∧ Cond.selects RX5 yX5_append yX5_append ∈ gT := ⟨gT_in (tb3 (List.mem_of_getElem? (i := 183) rfl)) rfl, gT_in (tb3 (List.mem_of_getElem? (i := 184) rfl)) rfl⟩
theorem lm_X7_260 : Cond.methodLink RX7 260 yX5_append ∈ gT := gT_in (tb3 (List.mem_of_getElem? (i := 182) rfl)) rfl
theorem ty0_X5_1 : parseFieldDescriptor (TX5 1).2.2.1 = some .int := by decide +kernel
theorem pf_X7_257 {ρ : Type} {x : Fx} {g : Gl} {cw : Gl → Hp → va_W} {nL dR : Nat} {QR : ρ → QT} {cc : ByteArray} {ret : Option FieldType} {pc n : Nat} {L : List (Option Value)} {st : List Value} {h : Hp} {E : Option ρ} (C : Ok x g RX7 cc nL ret) (q0 : Nat) {a : Nat} {fs : List Value} {v : Int32} (he : (cw g h)[q0]? = some (a, .inr (4, fs))) (hs : (cw g h).set q0 (a, .inr (4, fs.set 1 (.int v))) = cw g (up h q0 1 v)) (hlt : (Nat.ble (1 + 1) fs.length) = true) (d : decode cc pc = .ok (.putfield 257, 3)) (hn : pc + 3 = n) (k : J x g cw nL dR QR n L st (up h q0 1 v) E) : J x g cw nL dR QR pc L (.int v :: .ref a :: st) h E := j_put C q0 he rfl vi_4 tyX5 tyX5_ok nmX5 1 (Nat.le_of_ble_eq_true rfl) fl_X7_257 rfl (ty0_X5_1) (⟨rfl, rfl⟩) (Nat.le_of_ble_eq_true hlt) hs d hn k
theorem fl_X7_19 : Cond.fieldLink RX7 19 "SameHeads" "draft" "LSameHeads$House;" ∈ gT := gT_in (tb1 (List.mem_of_getElem? (i := 209) rfl)) rfl
theorem gf_X7_19 {ρ : Type} {x : Fx} {g : Gl} {cw : Gl → Hp → va_W} {nL dR : Nat} {QR : ρ → QT} {cc : ByteArray} {ret : Option FieldType} {pc n : Nat} {L : List (Option Value)} {st : List Value} {h : Hp} {E : Option ρ} (C : Ok x g RX7 cc nL ret) (q0 : Nat) {a : Nat} {fs : List Value} (he : (cw g h)[q0]? = some (a, .inr (6, fs))) {v : Value} (hv : fs[2]? = some v) (d : decode cc pc = .ok (.getfield 19, 3)) (hn : pc + 3 = n) (k : J x g cw nL dR QR n L (v :: st) h E) : J x g cw nL dR QR pc L (.ref a :: st) h E := j_get C q0 he rfl vi_6 2 (Nat.le_of_ble_eq_true rfl) fl_X7_19 hv d hn k
theorem mi_X1_become : MI yX1_become cX1_become 2 none 1 := ⟨gT_in (tb3 (List.mem_of_getElem? (i := 197) rfl)) rfl, gT_in (tb1 (List.mem_of_getElem? (i := 2) rfl)) rfl, by decide +kernel⟩
theorem iv_X1_become : Cond.instanceMethod yX1_become ∈ gT ∧ Cond.selects RX1 yX1_become yX1_become ∈ gT := ⟨gT_in (tb3 (List.mem_of_getElem? (i := 195) rfl)) rfl, gT_in (tb3 (List.mem_of_getElem? (i := 196) rfl)) rfl⟩
theorem lm_X7_264 : Cond.methodLink RX7 264 yX1_become ∈ gT := gT_in (tb3 (List.mem_of_getElem? (i := 194) rfl)) rfl
theorem fl_X7_48 : Cond.fieldLink RX7 48 "SameHeads" "reader" "LSameHeads$Reader;" ∈ gT := gT_in (tb1 (List.mem_of_getElem? (i := 213) rfl)) rfl
theorem gf_X7_48 {ρ : Type} {x : Fx} {g : Gl} {cw : Gl → Hp → va_W} {nL dR : Nat} {QR : ρ → QT} {cc : ByteArray} {ret : Option FieldType} {pc n : Nat} {L : List (Option Value)} {st : List Value} {h : Hp} {E : Option ρ} (C : Ok x g RX7 cc nL ret) (q0 : Nat) {a : Nat} {fs : List Value} (he : (cw g h)[q0]? = some (a, .inr (6, fs))) {v : Value} (hv : fs[6]? = some v) (d : decode cc pc = .ok (.getfield 48, 3)) (hn : pc + 3 = n) (k : J x g cw nL dR QR n L (v :: st) h E) : J x g cw nL dR QR pc L (.ref a :: st) h E := j_get C q0 he rfl vi_6 6 (Nat.le_of_ble_eq_true rfl) fl_X7_48 hv d hn k
theorem mi_X3_read : MI yX3_read cX3_read 2 (some .int) 0 := ⟨gT_in (tb3 (List.mem_of_getElem? (i := 204) rfl)) rfl, gT_in (tb1 (List.mem_of_getElem? (i := 7) rfl)) rfl, by decide +kernel⟩
theorem iv_X3_read : Cond.instanceMethod yX3_read ∈ gT ∧ Cond.selects RX3 yX3_read yX3_read ∈ gT := ⟨gT_in (tb3 (List.mem_of_getElem? (i := 202) rfl)) rfl, gT_in (tb3 (List.mem_of_getElem? (i := 203) rfl)) rfl⟩
theorem lm_X7_268 : Cond.methodLink RX7 268 yX3_read ∈ gT := gT_in (tb3 (List.mem_of_getElem? (i := 201) rfl)) rfl
theorem mi_X7_isSpot : MI yX7_isSpot cX7_isSpot 1 (some .boolean) 1 := ⟨gT_in (tb4 (List.mem_of_getElem? (i := 91) rfl)) rfl, gT_in (tb1 (List.mem_of_getElem? (i := 1) rfl)) rfl, by decide +kernel⟩
theorem st_X7_isSpot : Cond.static yX7_isSpot ∈ gT := gT_in (tb4 (List.mem_of_getElem? (i := 90) rfl)) rfl
theorem lm_X7_271 : Cond.methodLink RX7 271 yX7_isSpot ∈ gT := gT_in (tb4 (List.mem_of_getElem? (i := 89) rfl)) rfl
theorem fl_X7_274 : Cond.fieldLink RX7 274 "SameHeads$House" "held" "[I" ∈ gT := gT_in (tb1 (List.mem_of_getElem? (i := 61) rfl)) rfl
theorem gf_X7_274 {ρ : Type} {x : Fx} {g : Gl} {cw : Gl → Hp → va_W} {nL dR : Nat} {QR : ρ → QT} {cc : ByteArray} {ret : Option FieldType} {pc n : Nat} {L : List (Option Value)} {st : List Value} {h : Hp} {E : Option ρ} (C : Ok x g RX7 cc nL ret) (q0 : Nat) {a : Nat} {fs : List Value} (he : (cw g h)[q0]? = some (a, .inr (1, fs))) {v : Value} (hv : fs[9]? = some v) (d : decode cc pc = .ok (.getfield 274, 3)) (hn : pc + 3 = n) (k : J x g cw nL dR QR n L (v :: st) h E) : J x g cw nL dR QR pc L (.ref a :: st) h E := j_get C q0 he rfl vi_1 9 (Nat.le_of_ble_eq_true rfl) fl_X7_274 hv d hn k
theorem fl_X7_277 : Cond.fieldLink RX7 277 "SameHeads$House" "kind" "[I" ∈ gT := gT_in (tb1 (List.mem_of_getElem? (i := 37) rfl)) rfl
theorem gf_X7_277 {ρ : Type} {x : Fx} {g : Gl} {cw : Gl → Hp → va_W} {nL dR : Nat} {QR : ρ → QT} {cc : ByteArray} {ret : Option FieldType} {pc n : Nat} {L : List (Option Value)} {st : List Value} {h : Hp} {E : Option ρ} (C : Ok x g RX7 cc nL ret) (q0 : Nat) {a : Nat} {fs : List Value} (he : (cw g h)[q0]? = some (a, .inr (1, fs))) {v : Value} (hv : fs[0]? = some v) (d : decode cc pc = .ok (.getfield 277, 3)) (hn : pc + 3 = n) (k : J x g cw nL dR QR n L (v :: st) h E) : J x g cw nL dR QR pc L (.ref a :: st) h E := j_get C q0 he rfl vi_1 0 (Nat.le_of_ble_eq_true rfl) fl_X7_277 hv d hn k
theorem mi_X2_isUnder : MI yX2_isUnder cX2_isUnder 4 (some .boolean) 2 := ⟨gT_in (tb2 (List.mem_of_getElem? (i := 211) rfl)) rfl, gT_in (tb1 (List.mem_of_getElem? (i := 10) rfl)) rfl, by decide +kernel⟩
theorem st_X2_isUnder : Cond.static yX2_isUnder ∈ gT := gT_in (tb2 (List.mem_of_getElem? (i := 210) rfl)) rfl
theorem lm_X7_280 : Cond.methodLink RX7 280 yX2_isUnder ∈ gT := gT_in (tb4 (List.mem_of_getElem? (i := 96) rfl)) rfl
theorem bp_16 : (Int8.ofInt (16)).toInt32 = (16 : Int32) := by decide
theorem bp_32 : (Int8.ofInt (32)).toInt32 = (32 : Int32) := by decide
theorem bp_40 : (Int8.ofInt (40)).toInt32 = (40 : Int32) := by decide
theorem mi_X4_begin : MI yX4_begin cX4_begin 3 none 2 := ⟨gT_in (tb4 (List.mem_of_getElem? (i := 105) rfl)) rfl, gT_in (tb1 (List.mem_of_getElem? (i := 8) rfl)) rfl, by decide +kernel⟩
theorem iv_X4_begin : Cond.instanceMethod yX4_begin ∈ gT ∧ Cond.selects RX4 yX4_begin yX4_begin ∈ gT := ⟨gT_in (tb4 (List.mem_of_getElem? (i := 103) rfl)) rfl, gT_in (tb4 (List.mem_of_getElem? (i := 104) rfl)) rfl⟩
theorem lm_X7_287 : Cond.methodLink RX7 287 yX4_begin ∈ gT := gT_in (tb4 (List.mem_of_getElem? (i := 102) rfl)) rfl
theorem kc_X7_286 : Cond.constant RX7 286 (-1000007 : Int32) ∈ gT := gT_in (tb4 (List.mem_of_getElem? (i := 101) rfl)) rfl
theorem mi_X4_put : MI yX4_put cX4_put 3 none 2 := ⟨gT_in (tb4 (List.mem_of_getElem? (i := 114) rfl)) rfl, gT_in (tb1 (List.mem_of_getElem? (i := 8) rfl)) rfl, by decide +kernel⟩
theorem iv_X4_put : Cond.instanceMethod yX4_put ∈ gT ∧ Cond.selects RX4 yX4_put yX4_put ∈ gT := ⟨gT_in (tb4 (List.mem_of_getElem? (i := 112) rfl)) rfl, gT_in (tb4 (List.mem_of_getElem? (i := 113) rfl)) rfl⟩
theorem lm_X7_290 : Cond.methodLink RX7 290 yX4_put ∈ gT := gT_in (tb4 (List.mem_of_getElem? (i := 111) rfl)) rfl
theorem fl_X7_293 : Cond.fieldLink RX7 293 "SameHeads$Sheet" "bits" "I" ∈ gT := gT_in (tb1 (List.mem_of_getElem? (i := 196) rfl)) rfl
theorem gf_X7_293 {ρ : Type} {x : Fx} {g : Gl} {cw : Gl → Hp → va_W} {nL dR : Nat} {QR : ρ → QT} {cc : ByteArray} {ret : Option FieldType} {pc n : Nat} {L : List (Option Value)} {st : List Value} {h : Hp} {E : Option ρ} (C : Ok x g RX7 cc nL ret) (q0 : Nat) {a : Nat} {fs : List Value} (he : (cw g h)[q0]? = some (a, .inr (3, fs))) {v : Value} (hv : fs[1]? = some v) (d : decode cc pc = .ok (.getfield 293, 3)) (hn : pc + 3 = n) (k : J x g cw nL dR QR n L (v :: st) h E) : J x g cw nL dR QR pc L (.ref a :: st) h E := j_get C q0 he rfl vi_3 1 (Nat.le_of_ble_eq_true rfl) fl_X7_293 hv d hn k
theorem mi_X4_hasRun : MI yX4_hasRun cX4_hasRun 3 (some .boolean) 2 := ⟨gT_in (tb4 (List.mem_of_getElem? (i := 122) rfl)) rfl, gT_in (tb1 (List.mem_of_getElem? (i := 8) rfl)) rfl, by decide +kernel⟩
theorem iv_X4_hasRun : Cond.instanceMethod yX4_hasRun ∈ gT ∧ Cond.selects RX4 yX4_hasRun yX4_hasRun ∈ gT := ⟨gT_in (tb4 (List.mem_of_getElem? (i := 120) rfl)) rfl, gT_in (tb4 (List.mem_of_getElem? (i := 121) rfl)) rfl⟩
theorem lm_X7_296 : Cond.methodLink RX7 296 yX4_hasRun ∈ gT := gT_in (tb4 (List.mem_of_getElem? (i := 119) rfl)) rfl
theorem fl_X7_299 : Cond.fieldLink RX7 299 "SameHeads$Sheet" "numbers" "[I" ∈ gT := gT_in (tb1 (List.mem_of_getElem? (i := 194) rfl)) rfl
theorem gf_X7_299 {ρ : Type} {x : Fx} {g : Gl} {cw : Gl → Hp → va_W} {nL dR : Nat} {QR : ρ → QT} {cc : ByteArray} {ret : Option FieldType} {pc n : Nat} {L : List (Option Value)} {st : List Value} {h : Hp} {E : Option ρ} (C : Ok x g RX7 cc nL ret) (q0 : Nat) {a : Nat} {fs : List Value} (he : (cw g h)[q0]? = some (a, .inr (3, fs))) {v : Value} (hv : fs[0]? = some v) (d : decode cc pc = .ok (.getfield 299, 3)) (hn : pc + 3 = n) (k : J x g cw nL dR QR n L (v :: st) h E) : J x g cw nL dR QR pc L (.ref a :: st) h E := j_get C q0 he rfl vi_3 0 (Nat.le_of_ble_eq_true rfl) fl_X7_299 hv d hn k
theorem lm_X7_302 : Cond.methodLink RX7 302 arraycopyName ∈ gT := gT_in (tb4 (List.mem_of_getElem? (i := 123) rfl)) rfl
theorem lm_X7_308 : Cond.methodLink RX7 308 Lib.Math.min.name ∈ gT := gT_in (tb4 (List.mem_of_getElem? (i := 128) rfl)) rfl
theorem fl_X7_313 : Cond.fieldLink RX7 313 "SameHeads$House" "wax" "[I" ∈ gT := gT_in (tb1 (List.mem_of_getElem? (i := 43) rfl)) rfl
theorem gf_X7_313 {ρ : Type} {x : Fx} {g : Gl} {cw : Gl → Hp → va_W} {nL dR : Nat} {QR : ρ → QT} {cc : ByteArray} {ret : Option FieldType} {pc n : Nat} {L : List (Option Value)} {st : List Value} {h : Hp} {E : Option ρ} (C : Ok x g RX7 cc nL ret) (q0 : Nat) {a : Nat} {fs : List Value} (he : (cw g h)[q0]? = some (a, .inr (1, fs))) {v : Value} (hv : fs[2]? = some v) (d : decode cc pc = .ok (.getfield 313, 3)) (hn : pc + 3 = n) (k : J x g cw nL dR QR n L (v :: st) h E) : J x g cw nL dR QR pc L (.ref a :: st) h E := j_get C q0 he rfl vi_1 2 (Nat.le_of_ble_eq_true rfl) fl_X7_313 hv d hn k
theorem fl_X7_16 : Cond.fieldLink RX7 16 "SameHeads" "kept" "LSameHeads$House;" ∈ gT := gT_in (tb1 (List.mem_of_getElem? (i := 208) rfl)) rfl
theorem gf_X7_16 {ρ : Type} {x : Fx} {g : Gl} {cw : Gl → Hp → va_W} {nL dR : Nat} {QR : ρ → QT} {cc : ByteArray} {ret : Option FieldType} {pc n : Nat} {L : List (Option Value)} {st : List Value} {h : Hp} {E : Option ρ} (C : Ok x g RX7 cc nL ret) (q0 : Nat) {a : Nat} {fs : List Value} (he : (cw g h)[q0]? = some (a, .inr (6, fs))) {v : Value} (hv : fs[1]? = some v) (d : decode cc pc = .ok (.getfield 16, 3)) (hn : pc + 3 = n) (k : J x g cw nL dR QR n L (v :: st) h E) : J x g cw nL dR QR pc L (.ref a :: st) h E := j_get C q0 he rfl vi_6 1 (Nat.le_of_ble_eq_true rfl) fl_X7_16 hv d hn k
theorem fl_X7_316 : Cond.fieldLink RX7 316 "SameHeads" "keeps" "Z" ∈ gT := gT_in (tb1 (List.mem_of_getElem? (i := 216) rfl)) rfl
theorem ty0_X7_9 : parseFieldDescriptor (TX7 9).2.2.1 = some .boolean := by decide +kernel
theorem pf_X7_316 {ρ : Type} {x : Fx} {g : Gl} {cw : Gl → Hp → va_W} {nL dR : Nat} {QR : ρ → QT} {cc : ByteArray} {ret : Option FieldType} {pc n : Nat} {L : List (Option Value)} {st : List Value} {h : Hp} {E : Option ρ} (C : Ok x g RX7 cc nL ret) (q0 : Nat) {a : Nat} {fs : List Value} {v : Int32} (he : (cw g h)[q0]? = some (a, .inr (6, fs))) (hz : v = 0 ∨ v = 1) (hs : (cw g h).set q0 (a, .inr (6, fs.set 9 (.int v))) = cw g (up h q0 9 v)) (hlt : (Nat.ble (9 + 1) fs.length) = true) (d : decode cc pc = .ok (.putfield 316, 3)) (hn : pc + 3 = n) (k : J x g cw nL dR QR n L st (up h q0 9 v) E) : J x g cw nL dR QR pc L (.int v :: .ref a :: st) h E := j_put C q0 he rfl vi_6 tyX7 tyX7_ok nmX7 9 (Nat.le_of_ble_eq_true rfl) fl_X7_316 rfl (ty0_X7_9) (by rcases hz with rfl | rfl <;> decide) (Nat.le_of_ble_eq_true hlt) hs d hn k
theorem gf_X7_316 {ρ : Type} {x : Fx} {g : Gl} {cw : Gl → Hp → va_W} {nL dR : Nat} {QR : ρ → QT} {cc : ByteArray} {ret : Option FieldType} {pc n : Nat} {L : List (Option Value)} {st : List Value} {h : Hp} {E : Option ρ} (C : Ok x g RX7 cc nL ret) (q0 : Nat) {a : Nat} {fs : List Value} (he : (cw g h)[q0]? = some (a, .inr (6, fs))) {v : Value} (hv : fs[9]? = some v) (d : decode cc pc = .ok (.getfield 316, 3)) (hn : pc + 3 = n) (k : J x g cw nL dR QR n L (v :: st) h E) : J x g cw nL dR QR pc L (.ref a :: st) h E := j_get C q0 he rfl vi_6 9 (Nat.le_of_ble_eq_true rfl) fl_X7_316 hv d hn k
theorem tabout_0_7 {x1 : Int32} (h0 : ¬ x1 = (0 : Int32)) (h1 : ¬ x1 = (1 : Int32)) (h2 : ¬ x1 = (2 : Int32)) (h3 : ¬ x1 = (3 : Int32)) (h4 : ¬ x1 = (4 : Int32)) (h5 : ¬ x1 = (5 : Int32)) (h6 : ¬ x1 = (6 : Int32)) (h7 : ¬ x1 = (7 : Int32)) : x1.toInt < 0 ∨ 7 < x1.toInt := by
  have e0 : x1.toInt ≠ 0 := fun q => h0 (Int32.toInt_inj.mp q)
  have e1 : x1.toInt ≠ 1 := fun q => h1 (Int32.toInt_inj.mp q)
  have e2 : x1.toInt ≠ 2 := fun q => h2 (Int32.toInt_inj.mp q)
  have e3 : x1.toInt ≠ 3 := fun q => h3 (Int32.toInt_inj.mp q)
  have e4 : x1.toInt ≠ 4 := fun q => h4 (Int32.toInt_inj.mp q)
  have e5 : x1.toInt ≠ 5 := fun q => h5 (Int32.toInt_inj.mp q)
  have e6 : x1.toInt ≠ 6 := fun q => h6 (Int32.toInt_inj.mp q)
  have e7 : x1.toInt ≠ 7 := fun q => h7 (Int32.toInt_inj.mp q)
  omega
theorem mi_X1_roomsShown : MI yX1_roomsShown cX1_roomsShown 3 (some .int) 0 := ⟨gT_in (tb2 (List.mem_of_getElem? (i := 204) rfl)) rfl, gT_in (tb1 (List.mem_of_getElem? (i := 2) rfl)) rfl, by decide +kernel⟩
theorem iv_X1_roomsShown : Cond.instanceMethod yX1_roomsShown ∈ gT ∧ Cond.selects RX1 yX1_roomsShown yX1_roomsShown ∈ gT := ⟨gT_in (tb2 (List.mem_of_getElem? (i := 202) rfl)) rfl, gT_in (tb2 (List.mem_of_getElem? (i := 203) rfl)) rfl⟩
theorem lm_X7_320 : Cond.methodLink RX7 320 yX1_roomsShown ∈ gT := gT_in (tb4 (List.mem_of_getElem? (i := 149) rfl)) rfl
theorem mi_X1_allWax : MI yX1_allWax cX1_allWax 3 (some .int) 0 := ⟨gT_in (tb4 (List.mem_of_getElem? (i := 153) rfl)) rfl, gT_in (tb1 (List.mem_of_getElem? (i := 2) rfl)) rfl, by decide +kernel⟩
theorem iv_X1_allWax : Cond.instanceMethod yX1_allWax ∈ gT ∧ Cond.selects RX1 yX1_allWax yX1_allWax ∈ gT := ⟨gT_in (tb4 (List.mem_of_getElem? (i := 151) rfl)) rfl, gT_in (tb4 (List.mem_of_getElem? (i := 152) rfl)) rfl⟩
theorem lm_X7_323 : Cond.methodLink RX7 323 yX1_allWax ∈ gT := gT_in (tb4 (List.mem_of_getElem? (i := 150) rfl)) rfl
theorem mi_X1_spotsHeld : MI yX1_spotsHeld cX1_spotsHeld 3 (some .int) 0 := ⟨gT_in (tb4 (List.mem_of_getElem? (i := 157) rfl)) rfl, gT_in (tb1 (List.mem_of_getElem? (i := 2) rfl)) rfl, by decide +kernel⟩
theorem iv_X1_spotsHeld : Cond.instanceMethod yX1_spotsHeld ∈ gT ∧ Cond.selects RX1 yX1_spotsHeld yX1_spotsHeld ∈ gT := ⟨gT_in (tb4 (List.mem_of_getElem? (i := 155) rfl)) rfl, gT_in (tb4 (List.mem_of_getElem? (i := 156) rfl)) rfl⟩
theorem lm_X7_326 : Cond.methodLink RX7 326 yX1_spotsHeld ∈ gT := gT_in (tb4 (List.mem_of_getElem? (i := 154) rfl)) rfl
theorem fl_X7_58 : Cond.fieldLink RX7 58 "SameHeads" "tally" "[I" ∈ gT := gT_in (tb1 (List.mem_of_getElem? (i := 215) rfl)) rfl
theorem gf_X7_58 {ρ : Type} {x : Fx} {g : Gl} {cw : Gl → Hp → va_W} {nL dR : Nat} {QR : ρ → QT} {cc : ByteArray} {ret : Option FieldType} {pc n : Nat} {L : List (Option Value)} {st : List Value} {h : Hp} {E : Option ρ} (C : Ok x g RX7 cc nL ret) (q0 : Nat) {a : Nat} {fs : List Value} (he : (cw g h)[q0]? = some (a, .inr (6, fs))) {v : Value} (hv : fs[8]? = some v) (d : decode cc pc = .ok (.getfield 58, 3)) (hn : pc + 3 = n) (k : J x g cw nL dR QR n L (v :: st) h E) : J x g cw nL dR QR pc L (.ref a :: st) h E := j_get C q0 he rfl vi_6 8 (Nat.le_of_ble_eq_true rfl) fl_X7_58 hv d hn k
theorem bp_7 : (Int8.ofInt (7)).toInt32 = (7 : Int32) := by decide
theorem mi_X8_isKind : MI yX8_isKind cX8_isKind 1 (some .boolean) 1 := ⟨gT_in (tb5 (List.mem_of_getElem? (i := 16) rfl)) rfl, gT_in (tb1 (List.mem_of_getElem? (i := 9) rfl)) rfl, by decide +kernel⟩
theorem st_X8_isKind : Cond.static yX8_isKind ∈ gT := gT_in (tb5 (List.mem_of_getElem? (i := 15) rfl)) rfl
theorem lm_X8_76 : Cond.methodLink RX8 76 yX8_isKind ∈ gT := gT_in (tb5 (List.mem_of_getElem? (i := 14) rfl)) rfl
theorem fl_X8_9 : Cond.fieldLink RX8 9 "SameHeadsModel" "now" "[I" ∈ gT := gT_in (tb4 (List.mem_of_getElem? (i := 177) rfl)) rfl
theorem gf_X8_9 {ρ : Type} {x : Fx} {g : Gl} {cw : Gl → Hp → va_W} {nL dR : Nat} {QR : ρ → QT} {cc : ByteArray} {ret : Option FieldType} {pc n : Nat} {L : List (Option Value)} {st : List Value} {h : Hp} {E : Option ρ} (C : Ok x g RX8 cc nL ret) (q0 : Nat) {a : Nat} {fs : List Value} (he : (cw g h)[q0]? = some (a, .inr (7, fs))) {v : Value} (hv : fs[0]? = some v) (d : decode cc pc = .ok (.getfield 9, 3)) (hn : pc + 3 = n) (k : J x g cw nL dR QR n L (v :: st) h E) : J x g cw nL dR QR pc L (.ref a :: st) h E := j_get C q0 he rfl vi_7 0 (Nat.le_of_ble_eq_true rfl) fl_X8_9 hv d hn k
theorem ir_2_117 : inR (2 : Int32) 117 = true ∧ ((2 : Int32)).toNatClampNeg = 2 := by decide
theorem mi_X8_comes : MI yX8_comes cX8_comes 6 (some .int) 4 := ⟨gT_in (tb5 (List.mem_of_getElem? (i := 29) rfl)) rfl, gT_in (tb1 (List.mem_of_getElem? (i := 9) rfl)) rfl, by decide +kernel⟩
theorem iv_X8_comes : Cond.instanceMethod yX8_comes ∈ gT ∧ Cond.selects RX8 yX8_comes yX8_comes ∈ gT := ⟨gT_in (tb5 (List.mem_of_getElem? (i := 28) rfl)) rfl, gT_in (List.mem_append_left _ (List.mem_of_getElem? (i := 23) rfl)) rfl⟩
theorem lm_X8_85 : Cond.methodLink RX8 85 yX8_comes ∈ gT := gT_in (tb5 (List.mem_of_getElem? (i := 26) rfl)) rfl
theorem kc_X8_84 : Cond.constant RX8 84 (-1000002 : Int32) ∈ gT := gT_in (tb5 (List.mem_of_getElem? (i := 25) rfl)) rfl
theorem mi_X8_finding : MI yX8_finding cX8_finding 2 (some .int) 1 := ⟨gT_in (tb5 (List.mem_of_getElem? (i := 24) rfl)) rfl, gT_in (tb1 (List.mem_of_getElem? (i := 9) rfl)) rfl, by decide +kernel⟩
theorem iv_X8_finding : Cond.instanceMethod yX8_finding ∈ gT ∧ Cond.selects RX8 yX8_finding yX8_finding ∈ gT := ⟨gT_in (tb5 (List.mem_of_getElem? (i := 23) rfl)) rfl, gT_in (List.mem_append_left _ (List.mem_of_getElem? (i := 22) rfl)) rfl⟩
theorem lm_X8_80 : Cond.methodLink RX8 80 yX8_finding ∈ gT := gT_in (tb5 (List.mem_of_getElem? (i := 21) rfl)) rfl
theorem kc_X8_63 : Cond.constant RX8 63 (-1000001 : Int32) ∈ gT := gT_in (tb5 (List.mem_of_getElem? (i := 20) rfl)) rfl
theorem mi_X8_isPart : MI yX8_isPart cX8_isPart 2 (some .boolean) 1 := ⟨gT_in (tb5 (List.mem_of_getElem? (i := 40) rfl)) rfl, gT_in (tb1 (List.mem_of_getElem? (i := 9) rfl)) rfl, by decide +kernel⟩
theorem iv_X8_isPart : Cond.instanceMethod yX8_isPart ∈ gT ∧ Cond.selects RX8 yX8_isPart yX8_isPart ∈ gT := ⟨gT_in (tb5 (List.mem_of_getElem? (i := 39) rfl)) rfl, gT_in (List.mem_append_left _ (List.mem_of_getElem? (i := 24) rfl)) rfl⟩
theorem lm_X8_99 : Cond.methodLink RX8 99 yX8_isPart ∈ gT := gT_in (tb5 (List.mem_of_getElem? (i := 37) rfl)) rfl
theorem ic_3 : Int32.ofInt (3) = (3 : Int32) := by decide
theorem mi_X8_within : MI yX8_within cX8_within 3 (some .boolean) 3 := ⟨gT_in (tb5 (List.mem_of_getElem? (i := 19) rfl)) rfl, gT_in (tb1 (List.mem_of_getElem? (i := 9) rfl)) rfl, by decide +kernel⟩
theorem st_X8_within : Cond.static yX8_within ∈ gT := gT_in (tb5 (List.mem_of_getElem? (i := 18) rfl)) rfl
theorem lm_X8_68 : Cond.methodLink RX8 68 yX8_within ∈ gT := gT_in (tb5 (List.mem_of_getElem? (i := 17) rfl)) rfl
theorem mi_X8_partIs : MI yX8_partIs cX8_partIs 3 (some .int) 2 := ⟨gT_in (tb5 (List.mem_of_getElem? (i := 44) rfl)) rfl, gT_in (tb1 (List.mem_of_getElem? (i := 9) rfl)) rfl, by decide +kernel⟩
theorem iv_X8_partIs : Cond.instanceMethod yX8_partIs ∈ gT ∧ Cond.selects RX8 yX8_partIs yX8_partIs ∈ gT := ⟨gT_in (tb5 (List.mem_of_getElem? (i := 43) rfl)) rfl, gT_in (List.mem_append_left _ (List.mem_of_getElem? (i := 25) rfl)) rfl⟩
theorem lm_X8_92 : Cond.methodLink RX8 92 yX8_partIs ∈ gT := gT_in (tb5 (List.mem_of_getElem? (i := 41) rfl)) rfl
theorem mi_X8_isLooks : MI yX8_isLooks cX8_isLooks 1 (some .boolean) 1 := ⟨gT_in (tb5 (List.mem_of_getElem? (i := 51) rfl)) rfl, gT_in (tb1 (List.mem_of_getElem? (i := 9) rfl)) rfl, by decide +kernel⟩
theorem st_X8_isLooks : Cond.static yX8_isLooks ∈ gT := gT_in (tb5 (List.mem_of_getElem? (i := 50) rfl)) rfl
theorem lm_X8_102 : Cond.methodLink RX8 102 yX8_isLooks ∈ gT := gT_in (tb5 (List.mem_of_getElem? (i := 49) rfl)) rfl
theorem mi_X8_at : MI yX8_at cX8_at 2 (some .int) 2 := ⟨gT_in (tb5 (List.mem_of_getElem? (i := 32) rfl)) rfl, gT_in (tb1 (List.mem_of_getElem? (i := 9) rfl)) rfl, by decide +kernel⟩
theorem st_X8_at : Cond.static yX8_at ∈ gT := gT_in (tb5 (List.mem_of_getElem? (i := 31) rfl)) rfl
theorem lm_X8_72 : Cond.methodLink RX8 72 yX8_at ∈ gT := gT_in (tb5 (List.mem_of_getElem? (i := 30) rfl)) rfl
theorem mi_X8_become : MI yX8_become cX8_become 4 (some .int) 2 := ⟨gT_in (tb5 (List.mem_of_getElem? (i := 58) rfl)) rfl, gT_in (tb1 (List.mem_of_getElem? (i := 9) rfl)) rfl, by decide +kernel⟩
theorem iv_X8_become : Cond.instanceMethod yX8_become ∈ gT ∧ Cond.selects RX8 yX8_become yX8_become ∈ gT := ⟨gT_in (tb5 (List.mem_of_getElem? (i := 57) rfl)) rfl, gT_in (List.mem_append_left _ (List.mem_of_getElem? (i := 26) rfl)) rfl⟩
theorem lm_X8_108 : Cond.methodLink RX8 108 yX8_become ∈ gT := gT_in (tb5 (List.mem_of_getElem? (i := 55) rfl)) rfl
theorem mi_X8_isPlace : MI yX8_isPlace cX8_isPlace 1 (some .boolean) 1 := ⟨gT_in (tb5 (List.mem_of_getElem? (i := 54) rfl)) rfl, gT_in (tb1 (List.mem_of_getElem? (i := 9) rfl)) rfl, by decide +kernel⟩
theorem st_X8_isPlace : Cond.static yX8_isPlace ∈ gT := gT_in (tb5 (List.mem_of_getElem? (i := 53) rfl)) rfl
theorem lm_X8_105 : Cond.methodLink RX8 105 yX8_isPlace ∈ gT := gT_in (tb5 (List.mem_of_getElem? (i := 52) rfl)) rfl
theorem mi_X8_isFace : MI yX8_isFace cX8_isFace 1 (some .boolean) 1 := ⟨gT_in (tb5 (List.mem_of_getElem? (i := 65) rfl)) rfl, gT_in (tb1 (List.mem_of_getElem? (i := 9) rfl)) rfl, by decide +kernel⟩
theorem st_X8_isFace : Cond.static yX8_isFace ∈ gT := gT_in (tb5 (List.mem_of_getElem? (i := 64) rfl)) rfl
theorem lm_X8_111 : Cond.methodLink RX8 111 yX8_isFace ∈ gT := gT_in (tb5 (List.mem_of_getElem? (i := 63) rfl)) rfl
theorem bp_15 : (Int8.ofInt (15)).toInt32 = (15 : Int32) := by decide
theorem mi_X8_isRoom : MI yX8_isRoom cX8_isRoom 1 (some .boolean) 1 := ⟨gT_in (tb5 (List.mem_of_getElem? (i := 72) rfl)) rfl, gT_in (tb1 (List.mem_of_getElem? (i := 9) rfl)) rfl, by decide +kernel⟩
theorem st_X8_isRoom : Cond.static yX8_isRoom ∈ gT := gT_in (tb5 (List.mem_of_getElem? (i := 71) rfl)) rfl
theorem lm_X8_114 : Cond.methodLink RX8 114 yX8_isRoom ∈ gT := gT_in (tb5 (List.mem_of_getElem? (i := 70) rfl)) rfl
theorem ic_5 : Int32.ofInt (5) = (5 : Int32) := by decide
theorem bp_27 : (Int8.ofInt (27)).toInt32 = (27 : Int32) := by decide
theorem mi_X8_visitorsIn : MI yX8_visitorsIn cX8_visitorsIn 4 (some .int) 1 := ⟨gT_in (tb5 (List.mem_of_getElem? (i := 106) rfl)) rfl, gT_in (tb1 (List.mem_of_getElem? (i := 9) rfl)) rfl, by decide +kernel⟩
theorem iv_X8_visitorsIn : Cond.instanceMethod yX8_visitorsIn ∈ gT ∧ Cond.selects RX8 yX8_visitorsIn yX8_visitorsIn ∈ gT := ⟨gT_in (tb5 (List.mem_of_getElem? (i := 105) rfl)) rfl, gT_in (List.mem_append_left _ (List.mem_of_getElem? (i := 30) rfl)) rfl⟩
theorem lm_X8_144 : Cond.methodLink RX8 144 yX8_visitorsIn ∈ gT := gT_in (tb5 (List.mem_of_getElem? (i := 103) rfl)) rfl
theorem mi_X8_likeness : MI yX8_likeness cX8_likeness 4 (some .int) 1 := ⟨gT_in (tb5 (List.mem_of_getElem? (i := 88) rfl)) rfl, gT_in (tb1 (List.mem_of_getElem? (i := 9) rfl)) rfl, by decide +kernel⟩
theorem iv_X8_likeness : Cond.instanceMethod yX8_likeness ∈ gT ∧ Cond.selects RX8 yX8_likeness yX8_likeness ∈ gT := ⟨gT_in (tb5 (List.mem_of_getElem? (i := 87) rfl)) rfl, gT_in (List.mem_append_left _ (List.mem_of_getElem? (i := 28) rfl)) rfl⟩
theorem lm_X8_141 : Cond.methodLink RX8 141 yX8_likeness ∈ gT := gT_in (tb5 (List.mem_of_getElem? (i := 85) rfl)) rfl
theorem mi_X8_partsAt : MI yX8_partsAt cX8_partsAt 4 (some .int) 1 := ⟨gT_in (tb5 (List.mem_of_getElem? (i := 84) rfl)) rfl, gT_in (tb1 (List.mem_of_getElem? (i := 9) rfl)) rfl, by decide +kernel⟩
theorem iv_X8_partsAt : Cond.instanceMethod yX8_partsAt ∈ gT ∧ Cond.selects RX8 yX8_partsAt yX8_partsAt ∈ gT := ⟨gT_in (tb5 (List.mem_of_getElem? (i := 83) rfl)) rfl, gT_in (List.mem_append_left _ (List.mem_of_getElem? (i := 27) rfl)) rfl⟩
theorem lm_X8_138 : Cond.methodLink RX8 138 yX8_partsAt ∈ gT := gT_in (tb5 (List.mem_of_getElem? (i := 81) rfl)) rfl
theorem mi_X8_likeTo : MI yX8_likeTo cX8_likeTo 3 (some .int) 2 := ⟨gT_in (tb5 (List.mem_of_getElem? (i := 92) rfl)) rfl, gT_in (tb1 (List.mem_of_getElem? (i := 9) rfl)) rfl, by decide +kernel⟩
theorem iv_X8_likeTo : Cond.instanceMethod yX8_likeTo ∈ gT ∧ Cond.selects RX8 yX8_likeTo yX8_likeTo ∈ gT := ⟨gT_in (tb5 (List.mem_of_getElem? (i := 91) rfl)) rfl, gT_in (List.mem_append_left _ (List.mem_of_getElem? (i := 29) rfl)) rfl⟩
theorem lm_X8_132 : Cond.methodLink RX8 132 yX8_likeTo ∈ gT := gT_in (tb5 (List.mem_of_getElem? (i := 89) rfl)) rfl
theorem mi_X8_carryOf : MI yX8_carryOf cX8_carryOf 5 (some .int) 2 := ⟨gT_in (tb5 (List.mem_of_getElem? (i := 123) rfl)) rfl, gT_in (tb1 (List.mem_of_getElem? (i := 9) rfl)) rfl, by decide +kernel⟩
theorem iv_X8_carryOf : Cond.instanceMethod yX8_carryOf ∈ gT ∧ Cond.selects RX8 yX8_carryOf yX8_carryOf ∈ gT := ⟨gT_in (tb5 (List.mem_of_getElem? (i := 122) rfl)) rfl, gT_in (List.mem_append_left _ (List.mem_of_getElem? (i := 32) rfl)) rfl⟩
theorem lm_X8_151 : Cond.methodLink RX8 151 yX8_carryOf ∈ gT := gT_in (tb5 (List.mem_of_getElem? (i := 120) rfl)) rfl
theorem kc_X8_150 : Cond.constant RX8 150 (-1000005 : Int32) ∈ gT := gT_in (tb5 (List.mem_of_getElem? (i := 119) rfl)) rfl
theorem ir_3_117 : inR (3 : Int32) 117 = true ∧ ((3 : Int32)).toNatClampNeg = 3 := by decide
theorem mi_X8_comesIn : MI yX8_comesIn cX8_comesIn 3 (some .int) 0 := ⟨gT_in (tb5 (List.mem_of_getElem? (i := 132) rfl)) rfl, gT_in (tb1 (List.mem_of_getElem? (i := 9) rfl)) rfl, by decide +kernel⟩
theorem iv_X8_comesIn : Cond.instanceMethod yX8_comesIn ∈ gT ∧ Cond.selects RX8 yX8_comesIn yX8_comesIn ∈ gT := ⟨gT_in (tb5 (List.mem_of_getElem? (i := 131) rfl)) rfl, gT_in (List.mem_append_left _ (List.mem_of_getElem? (i := 33) rfl)) rfl⟩
theorem lm_X8_154 : Cond.methodLink RX8 154 yX8_comesIn ∈ gT := gT_in (tb5 (List.mem_of_getElem? (i := 129) rfl)) rfl
theorem mi_X8_seenIn : MI yX8_seenIn cX8_seenIn 5 (some .int) 2 := ⟨gT_in (tb5 (List.mem_of_getElem? (i := 140) rfl)) rfl, gT_in (tb1 (List.mem_of_getElem? (i := 9) rfl)) rfl, by decide +kernel⟩
theorem iv_X8_seenIn : Cond.instanceMethod yX8_seenIn ∈ gT ∧ Cond.selects RX8 yX8_seenIn yX8_seenIn ∈ gT := ⟨gT_in (tb5 (List.mem_of_getElem? (i := 139) rfl)) rfl, gT_in (List.mem_append_left _ (List.mem_of_getElem? (i := 34) rfl)) rfl⟩
theorem lm_X8_158 : Cond.methodLink RX8 158 yX8_seenIn ∈ gT := gT_in (tb5 (List.mem_of_getElem? (i := 137) rfl)) rfl
theorem mi_X8_roomOf : MI yX8_roomOf cX8_roomOf 3 (some .int) 1 := ⟨gT_in (tb5 (List.mem_of_getElem? (i := 110) rfl)) rfl, gT_in (tb1 (List.mem_of_getElem? (i := 9) rfl)) rfl, by decide +kernel⟩
theorem iv_X8_roomOf : Cond.instanceMethod yX8_roomOf ∈ gT ∧ Cond.selects RX8 yX8_roomOf yX8_roomOf ∈ gT := ⟨gT_in (tb5 (List.mem_of_getElem? (i := 109) rfl)) rfl, gT_in (List.mem_append_left _ (List.mem_of_getElem? (i := 31) rfl)) rfl⟩
theorem lm_X8_135 : Cond.methodLink RX8 135 yX8_roomOf ∈ gT := gT_in (tb5 (List.mem_of_getElem? (i := 107) rfl)) rfl
theorem ir_0_117 : inR (0 : Int32) 117 = true ∧ ((0 : Int32)).toNatClampNeg = 0 := by decide
theorem mi_X8_moves : MI yX8_moves cX8_moves 4 none 2 := ⟨gT_in (tb5 (List.mem_of_getElem? (i := 148) rfl)) rfl, gT_in (tb1 (List.mem_of_getElem? (i := 9) rfl)) rfl, by decide +kernel⟩
theorem iv_X8_moves : Cond.instanceMethod yX8_moves ∈ gT ∧ Cond.selects RX8 yX8_moves yX8_moves ∈ gT := ⟨gT_in (tb5 (List.mem_of_getElem? (i := 147) rfl)) rfl, gT_in (List.mem_append_left _ (List.mem_of_getElem? (i := 35) rfl)) rfl⟩
theorem lm_X8_168 : Cond.methodLink RX8 168 yX8_moves ∈ gT := gT_in (tb5 (List.mem_of_getElem? (i := 145) rfl)) rfl
theorem mi_X8_minutes : MI yX8_minutes cX8_minutes 3 none 1 := ⟨gT_in (tb5 (List.mem_of_getElem? (i := 152) rfl)) rfl, gT_in (tb1 (List.mem_of_getElem? (i := 9) rfl)) rfl, by decide +kernel⟩
theorem iv_X8_minutes : Cond.instanceMethod yX8_minutes ∈ gT ∧ Cond.selects RX8 yX8_minutes yX8_minutes ∈ gT := ⟨gT_in (tb5 (List.mem_of_getElem? (i := 151) rfl)) rfl, gT_in (List.mem_append_left _ (List.mem_of_getElem? (i := 36) rfl)) rfl⟩
theorem lm_X8_164 : Cond.methodLink RX8 164 yX8_minutes ∈ gT := gT_in (tb5 (List.mem_of_getElem? (i := 149) rfl)) rfl
theorem mi_X8_seenTwice : MI yX8_seenTwice cX8_seenTwice 3 (some .int) 0 := ⟨gT_in (tb5 (List.mem_of_getElem? (i := 164) rfl)) rfl, gT_in (tb1 (List.mem_of_getElem? (i := 9) rfl)) rfl, by decide +kernel⟩
theorem iv_X8_seenTwice : Cond.instanceMethod yX8_seenTwice ∈ gT ∧ Cond.selects RX8 yX8_seenTwice yX8_seenTwice ∈ gT := ⟨gT_in (tb5 (List.mem_of_getElem? (i := 163) rfl)) rfl, gT_in (List.mem_append_left _ (List.mem_of_getElem? (i := 38) rfl)) rfl⟩
theorem lm_X8_172 : Cond.methodLink RX8 172 yX8_seenTwice ∈ gT := gT_in (tb5 (List.mem_of_getElem? (i := 161) rfl)) rfl
theorem mi_X8_bits : MI yX8_bits cX8_bits 3 (some .int) 1 := ⟨gT_in (tb5 (List.mem_of_getElem? (i := 98) rfl)) rfl, gT_in (tb1 (List.mem_of_getElem? (i := 9) rfl)) rfl, by decide +kernel⟩
theorem st_X8_bits : Cond.static yX8_bits ∈ gT := gT_in (tb5 (List.mem_of_getElem? (i := 97) rfl)) rfl
theorem lm_X8_117 : Cond.methodLink RX8 117 yX8_bits ∈ gT := gT_in (tb5 (List.mem_of_getElem? (i := 96) rfl)) rfl
theorem ir_1_117 : inR (1 : Int32) 117 = true ∧ ((1 : Int32)).toNatClampNeg = 1 := by decide
theorem mi_X8_allThere : MI yX8_allThere cX8_allThere 3 (some .int) 0 := ⟨gT_in (tb5 (List.mem_of_getElem? (i := 172) rfl)) rfl, gT_in (tb1 (List.mem_of_getElem? (i := 9) rfl)) rfl, by decide +kernel⟩
theorem iv_X8_allThere : Cond.instanceMethod yX8_allThere ∈ gT ∧ Cond.selects RX8 yX8_allThere yX8_allThere ∈ gT := ⟨gT_in (tb5 (List.mem_of_getElem? (i := 171) rfl)) rfl, gT_in (List.mem_append_left _ (List.mem_of_getElem? (i := 39) rfl)) rfl⟩
theorem lm_X8_175 : Cond.methodLink RX8 175 yX8_allThere ∈ gT := gT_in (tb5 (List.mem_of_getElem? (i := 169) rfl)) rfl
theorem mi_X8_findMost : MI yX8_findMost cX8_findMost 7 (some .int) 1 := ⟨gT_in (tb5 (List.mem_of_getElem? (i := 180) rfl)) rfl, gT_in (tb1 (List.mem_of_getElem? (i := 9) rfl)) rfl, by decide +kernel⟩
theorem iv_X8_findMost : Cond.instanceMethod yX8_findMost ∈ gT ∧ Cond.selects RX8 yX8_findMost yX8_findMost ∈ gT := ⟨gT_in (tb5 (List.mem_of_getElem? (i := 179) rfl)) rfl, gT_in (List.mem_append_left _ (List.mem_of_getElem? (i := 40) rfl)) rfl⟩
theorem lm_X8_191 : Cond.methodLink RX8 191 yX8_findMost ∈ gT := gT_in (tb5 (List.mem_of_getElem? (i := 177) rfl)) rfl
theorem mi_X8_mayGive : MI yX8_mayGive cX8_mayGive 4 (some .boolean) 3 := ⟨gT_in (tb5 (List.mem_of_getElem? (i := 206) rfl)) rfl, gT_in (tb1 (List.mem_of_getElem? (i := 9) rfl)) rfl, by decide +kernel⟩
theorem iv_X8_mayGive : Cond.instanceMethod yX8_mayGive ∈ gT ∧ Cond.selects RX8 yX8_mayGive yX8_mayGive ∈ gT := ⟨gT_in (tb5 (List.mem_of_getElem? (i := 205) rfl)) rfl, gT_in (List.mem_append_left _ (List.mem_of_getElem? (i := 44) rfl)) rfl⟩
theorem lm_X8_194 : Cond.methodLink RX8 194 yX8_mayGive ∈ gT := gT_in (tb5 (List.mem_of_getElem? (i := 203) rfl)) rfl
theorem mi_X8_worthAt : MI yX8_worthAt cX8_worthAt 3 (some .int) 2 := ⟨gT_in (tb5 (List.mem_of_getElem? (i := 198) rfl)) rfl, gT_in (tb1 (List.mem_of_getElem? (i := 9) rfl)) rfl, by decide +kernel⟩
theorem iv_X8_worthAt : Cond.instanceMethod yX8_worthAt ∈ gT ∧ Cond.selects RX8 yX8_worthAt yX8_worthAt ∈ gT := ⟨gT_in (tb5 (List.mem_of_getElem? (i := 197) rfl)) rfl, gT_in (List.mem_append_left _ (List.mem_of_getElem? (i := 43) rfl)) rfl⟩
theorem lm_X8_188 : Cond.methodLink RX8 188 yX8_worthAt ∈ gT := gT_in (tb5 (List.mem_of_getElem? (i := 195) rfl)) rfl
theorem kc_X8_197 : Cond.constant RX8 197 (-1000004 : Int32) ∈ gT := gT_in (tb5 (List.mem_of_getElem? (i := 211) rfl)) rfl
theorem lm_X8_123 : Cond.methodLink RX8 123 Lib.Math.max.name ∈ gT := gT_in (tb5 (List.mem_of_getElem? (i := 102) rfl)) rfl
theorem mi_X8_isHead : MI yX8_isHead cX8_isHead 2 (some .boolean) 1 := ⟨gT_in (tb5 (List.mem_of_getElem? (i := 188) rfl)) rfl, gT_in (tb1 (List.mem_of_getElem? (i := 9) rfl)) rfl, by decide +kernel⟩
theorem iv_X8_isHead : Cond.instanceMethod yX8_isHead ∈ gT ∧ Cond.selects RX8 yX8_isHead yX8_isHead ∈ gT := ⟨gT_in (tb5 (List.mem_of_getElem? (i := 187) rfl)) rfl, gT_in (List.mem_append_left _ (List.mem_of_getElem? (i := 42) rfl)) rfl⟩
theorem lm_X8_182 : Cond.methodLink RX8 182 yX8_isHead ∈ gT := gT_in (tb5 (List.mem_of_getElem? (i := 185) rfl)) rfl
theorem kc_X8_201 : Cond.constant RX8 201 (-1000003 : Int32) ∈ gT := gT_in (tb5 (List.mem_of_getElem? (i := 228) rfl)) rfl
theorem sp_256 : (Int16.ofInt (256)).toInt32 = (256 : Int32) := by decide
theorem mi_X8_bestWith : MI yX8_bestWith cX8_bestWith 8 (some .int) 2 := ⟨gT_in (tb5 (List.mem_of_getElem? (i := 227) rfl)) rfl, gT_in (tb1 (List.mem_of_getElem? (i := 9) rfl)) rfl, by decide +kernel⟩
theorem iv_X8_bestWith : Cond.instanceMethod yX8_bestWith ∈ gT ∧ Cond.selects RX8 yX8_bestWith yX8_bestWith ∈ gT := ⟨gT_in (tb5 (List.mem_of_getElem? (i := 226) rfl)) rfl, gT_in (List.mem_append_left _ (List.mem_of_getElem? (i := 45) rfl)) rfl⟩
theorem lm_X8_198 : Cond.methodLink RX8 198 yX8_bestWith ∈ gT := gT_in (tb5 (List.mem_of_getElem? (i := 224) rfl)) rfl
theorem mi_X8_whoCount : MI yX8_whoCount cX8_whoCount 4 (some .int) 1 := ⟨gT_in (tb6 (List.mem_of_getElem? (i := 0) rfl)) rfl, gT_in (tb1 (List.mem_of_getElem? (i := 9) rfl)) rfl, by decide +kernel⟩
theorem iv_X8_whoCount : Cond.instanceMethod yX8_whoCount ∈ gT ∧ Cond.selects RX8 yX8_whoCount yX8_whoCount ∈ gT := ⟨gT_in (tb5 (List.mem_of_getElem? (i := 239) rfl)) rfl, gT_in (List.mem_append_left _ (List.mem_of_getElem? (i := 46) rfl)) rfl⟩
theorem lm_X8_202 : Cond.methodLink RX8 202 yX8_whoCount ∈ gT := gT_in (tb5 (List.mem_of_getElem? (i := 237) rfl)) rfl
theorem mi_X8_isUnseen : MI yX8_isUnseen cX8_isUnseen 7 (some .boolean) 4 := ⟨gT_in (tb6 (List.mem_of_getElem? (i := 4) rfl)) rfl, gT_in (tb1 (List.mem_of_getElem? (i := 9) rfl)) rfl, by decide +kernel⟩
theorem iv_X8_isUnseen : Cond.instanceMethod yX8_isUnseen ∈ gT ∧ Cond.selects RX8 yX8_isUnseen yX8_isUnseen ∈ gT := ⟨gT_in (tb6 (List.mem_of_getElem? (i := 3) rfl)) rfl, gT_in (List.mem_append_left _ (List.mem_of_getElem? (i := 47) rfl)) rfl⟩
theorem lm_X8_205 : Cond.methodLink RX8 205 yX8_isUnseen ∈ gT := gT_in (tb6 (List.mem_of_getElem? (i := 1) rfl)) rfl
theorem bp_73 : (Int8.ofInt (73)).toInt32 = (73 : Int32) := by decide
theorem mi_X8_chances : MI yX8_chances cX8_chances 3 (some .int) 0 := ⟨gT_in (tb6 (List.mem_of_getElem? (i := 23) rfl)) rfl, gT_in (tb1 (List.mem_of_getElem? (i := 9) rfl)) rfl, by decide +kernel⟩
theorem iv_X8_chances : Cond.instanceMethod yX8_chances ∈ gT ∧ Cond.selects RX8 yX8_chances yX8_chances ∈ gT := ⟨gT_in (tb6 (List.mem_of_getElem? (i := 22) rfl)) rfl, gT_in (List.mem_append_left _ (List.mem_of_getElem? (i := 48) rfl)) rfl⟩
theorem lm_X8_209 : Cond.methodLink RX8 209 yX8_chances ∈ gT := gT_in (tb6 (List.mem_of_getElem? (i := 20) rfl)) rfl
theorem mi_X8_onTheWhole : MI yX8_onTheWhole cX8_onTheWhole 4 (some .int) 1 := ⟨gT_in (tb6 (List.mem_of_getElem? (i := 27) rfl)) rfl, gT_in (tb1 (List.mem_of_getElem? (i := 9) rfl)) rfl, by decide +kernel⟩
theorem iv_X8_onTheWhole : Cond.instanceMethod yX8_onTheWhole ∈ gT ∧ Cond.selects RX8 yX8_onTheWhole yX8_onTheWhole ∈ gT := ⟨gT_in (tb6 (List.mem_of_getElem? (i := 26) rfl)) rfl, gT_in (List.mem_append_left _ (List.mem_of_getElem? (i := 49) rfl)) rfl⟩
theorem lm_X8_212 : Cond.methodLink RX8 212 yX8_onTheWhole ∈ gT := gT_in (tb6 (List.mem_of_getElem? (i := 24) rfl)) rfl
theorem mi_X8_common : MI yX8_common cX8_common 5 (some .int) 2 := ⟨gT_in (tb6 (List.mem_of_getElem? (i := 30) rfl)) rfl, gT_in (tb1 (List.mem_of_getElem? (i := 9) rfl)) rfl, by decide +kernel⟩
theorem st_X8_common : Cond.static yX8_common ∈ gT := gT_in (tb6 (List.mem_of_getElem? (i := 29) rfl)) rfl
theorem lm_X8_215 : Cond.methodLink RX8 215 yX8_common ∈ gT := gT_in (tb6 (List.mem_of_getElem? (i := 28) rfl)) rfl
theorem mi_X8_mouldOf : MI yX8_mouldOf cX8_mouldOf 5 (some .int) 2 := ⟨gT_in (tb6 (List.mem_of_getElem? (i := 42) rfl)) rfl, gT_in (tb1 (List.mem_of_getElem? (i := 9) rfl)) rfl, by decide +kernel⟩
theorem iv_X8_mouldOf : Cond.instanceMethod yX8_mouldOf ∈ gT ∧ Cond.selects RX8 yX8_mouldOf yX8_mouldOf ∈ gT := ⟨gT_in (tb6 (List.mem_of_getElem? (i := 41) rfl)) rfl, gT_in (List.mem_append_left _ (List.mem_of_getElem? (i := 50) rfl)) rfl⟩
theorem lm_X8_221 : Cond.methodLink RX8 221 yX8_mouldOf ∈ gT := gT_in (tb6 (List.mem_of_getElem? (i := 39) rfl)) rfl
theorem mi_X8_isSheet : MI yX8_isSheet cX8_isSheet 1 (some .boolean) 1 := ⟨gT_in (tb6 (List.mem_of_getElem? (i := 57) rfl)) rfl, gT_in (tb1 (List.mem_of_getElem? (i := 9) rfl)) rfl, by decide +kernel⟩
theorem st_X8_isSheet : Cond.static yX8_isSheet ∈ gT := gT_in (tb6 (List.mem_of_getElem? (i := 56) rfl)) rfl
theorem lm_X8_237 : Cond.methodLink RX8 237 yX8_isSheet ∈ gT := gT_in (tb6 (List.mem_of_getElem? (i := 55) rfl)) rfl
theorem fl_X8_51 : Cond.fieldLink RX8 51 "SameHeadsModel" "widths" "[I" ∈ gT := gT_in (tb4 (List.mem_of_getElem? (i := 197) rfl)) rfl
theorem gf_X8_51 {ρ : Type} {x : Fx} {g : Gl} {cw : Gl → Hp → va_W} {nL dR : Nat} {QR : ρ → QT} {cc : ByteArray} {ret : Option FieldType} {pc n : Nat} {L : List (Option Value)} {st : List Value} {h : Hp} {E : Option ρ} (C : Ok x g RX8 cc nL ret) (q0 : Nat) {a : Nat} {fs : List Value} (he : (cw g h)[q0]? = some (a, .inr (7, fs))) {v : Value} (hv : fs[20]? = some v) (d : decode cc pc = .ok (.getfield 51, 3)) (hn : pc + 3 = n) (k : J x g cw nL dR QR n L (v :: st) h E) : J x g cw nL dR QR pc L (.ref a :: st) h E := j_get C q0 he rfl vi_7 20 (Nat.le_of_ble_eq_true rfl) fl_X8_51 hv d hn k
theorem mi_X8_waysOf : MI yX8_waysOf cX8_waysOf 3 (some .int) 2 := ⟨gT_in (tb6 (List.mem_of_getElem? (i := 62) rfl)) rfl, gT_in (tb1 (List.mem_of_getElem? (i := 9) rfl)) rfl, by decide +kernel⟩
theorem iv_X8_waysOf : Cond.instanceMethod yX8_waysOf ∈ gT ∧ Cond.selects RX8 yX8_waysOf yX8_waysOf ∈ gT := ⟨gT_in (tb6 (List.mem_of_getElem? (i := 61) rfl)) rfl, gT_in (List.mem_append_left _ (List.mem_of_getElem? (i := 52) rfl)) rfl⟩
theorem lm_X8_241 : Cond.methodLink RX8 241 yX8_waysOf ∈ gT := gT_in (tb6 (List.mem_of_getElem? (i := 59) rfl)) rfl
theorem kc_X8_240 : Cond.constant RX8 240 (-1000006 : Int32) ∈ gT := gT_in (tb6 (List.mem_of_getElem? (i := 58) rfl)) rfl
theorem fl_X8_54 : Cond.fieldLink RX8 54 "SameHeadsModel" "sizes" "[I" ∈ gT := gT_in (tb4 (List.mem_of_getElem? (i := 198) rfl)) rfl
theorem gf_X8_54 {ρ : Type} {x : Fx} {g : Gl} {cw : Gl → Hp → va_W} {nL dR : Nat} {QR : ρ → QT} {cc : ByteArray} {ret : Option FieldType} {pc n : Nat} {L : List (Option Value)} {st : List Value} {h : Hp} {E : Option ρ} (C : Ok x g RX8 cc nL ret) (q0 : Nat) {a : Nat} {fs : List Value} (he : (cw g h)[q0]? = some (a, .inr (7, fs))) {v : Value} (hv : fs[21]? = some v) (d : decode cc pc = .ok (.getfield 54, 3)) (hn : pc + 3 = n) (k : J x g cw nL dR QR n L (v :: st) h E) : J x g cw nL dR QR pc L (.ref a :: st) h E := j_get C q0 he rfl vi_7 21 (Nat.le_of_ble_eq_true rfl) fl_X8_54 hv d hn k
theorem lm_X8_234 : Cond.methodLink RX8 234 Lib.Math.min.name ∈ gT := gT_in (tb6 (List.mem_of_getElem? (i := 63) rfl)) rfl
theorem fl_X8_228 : Cond.fieldLink RX8 228 "SameHeadsModel" "standing" "I" ∈ gT := gT_in (tb4 (List.mem_of_getElem? (i := 185) rfl)) rfl
theorem gf_X8_228 {ρ : Type} {x : Fx} {g : Gl} {cw : Gl → Hp → va_W} {nL dR : Nat} {QR : ρ → QT} {cc : ByteArray} {ret : Option FieldType} {pc n : Nat} {L : List (Option Value)} {st : List Value} {h : Hp} {E : Option ρ} (C : Ok x g RX8 cc nL ret) (q0 : Nat) {a : Nat} {fs : List Value} (he : (cw g h)[q0]? = some (a, .inr (7, fs))) {v : Value} (hv : fs[8]? = some v) (d : decode cc pc = .ok (.getfield 228, 3)) (hn : pc + 3 = n) (k : J x g cw nL dR QR n L (v :: st) h E) : J x g cw nL dR QR pc L (.ref a :: st) h E := j_get C q0 he rfl vi_7 8 (Nat.le_of_ble_eq_true rfl) fl_X8_228 hv d hn k
theorem mi_X8_headsLike : MI yX8_headsLike cX8_headsLike 5 (some .int) 2 := ⟨gT_in (tb6 (List.mem_of_getElem? (i := 79) rfl)) rfl, gT_in (tb1 (List.mem_of_getElem? (i := 9) rfl)) rfl, by decide +kernel⟩
theorem iv_X8_headsLike : Cond.instanceMethod yX8_headsLike ∈ gT ∧ Cond.selects RX8 yX8_headsLike yX8_headsLike ∈ gT := ⟨gT_in (tb6 (List.mem_of_getElem? (i := 78) rfl)) rfl, gT_in (List.mem_append_left _ (List.mem_of_getElem? (i := 54) rfl)) rfl⟩
theorem lm_X8_244 : Cond.methodLink RX8 244 yX8_headsLike ∈ gT := gT_in (tb6 (List.mem_of_getElem? (i := 76) rfl)) rfl
theorem mi_X8_drawn : MI yX8_drawn cX8_drawn 2 (some .int) 1 := ⟨gT_in (tb6 (List.mem_of_getElem? (i := 91) rfl)) rfl, gT_in (tb1 (List.mem_of_getElem? (i := 9) rfl)) rfl, by decide +kernel⟩
theorem iv_X8_drawn : Cond.instanceMethod yX8_drawn ∈ gT ∧ Cond.selects RX8 yX8_drawn yX8_drawn ∈ gT := ⟨gT_in (tb6 (List.mem_of_getElem? (i := 90) rfl)) rfl, gT_in (List.mem_append_left _ (List.mem_of_getElem? (i := 55) rfl)) rfl⟩
theorem lm_X8_248 : Cond.methodLink RX8 248 yX8_drawn ∈ gT := gT_in (tb6 (List.mem_of_getElem? (i := 88) rfl)) rfl
theorem fl_X8_251 : Cond.fieldLink RX8 251 "SameHeadsModel" "taped" "I" ∈ gT := gT_in (tb4 (List.mem_of_getElem? (i := 187) rfl)) rfl
theorem gf_X8_251 {ρ : Type} {x : Fx} {g : Gl} {cw : Gl → Hp → va_W} {nL dR : Nat} {QR : ρ → QT} {cc : ByteArray} {ret : Option FieldType} {pc n : Nat} {L : List (Option Value)} {st : List Value} {h : Hp} {E : Option ρ} (C : Ok x g RX8 cc nL ret) (q0 : Nat) {a : Nat} {fs : List Value} (he : (cw g h)[q0]? = some (a, .inr (7, fs))) {v : Value} (hv : fs[10]? = some v) (d : decode cc pc = .ok (.getfield 251, 3)) (hn : pc + 3 = n) (k : J x g cw nL dR QR n L (v :: st) h E) : J x g cw nL dR QR pc L (.ref a :: st) h E := j_get C q0 he rfl vi_7 10 (Nat.le_of_ble_eq_true rfl) fl_X8_251 hv d hn k
theorem fl_X8_25 : Cond.fieldLink RX8 25 "SameHeadsModel" "tape" "[I" ∈ gT := gT_in (tb4 (List.mem_of_getElem? (i := 186) rfl)) rfl
theorem gf_X8_25 {ρ : Type} {x : Fx} {g : Gl} {cw : Gl → Hp → va_W} {nL dR : Nat} {QR : ρ → QT} {cc : ByteArray} {ret : Option FieldType} {pc n : Nat} {L : List (Option Value)} {st : List Value} {h : Hp} {E : Option ρ} (C : Ok x g RX8 cc nL ret) (q0 : Nat) {a : Nat} {fs : List Value} (he : (cw g h)[q0]? = some (a, .inr (7, fs))) {v : Value} (hv : fs[9]? = some v) (d : decode cc pc = .ok (.getfield 25, 3)) (hn : pc + 3 = n) (k : J x g cw nL dR QR n L (v :: st) h E) : J x g cw nL dR QR pc L (.ref a :: st) h E := j_get C q0 he rfl vi_7 9 (Nat.le_of_ble_eq_true rfl) fl_X8_25 hv d hn k
theorem ty0_X8_10 : parseFieldDescriptor (TX8 10).2.2.1 = some .int := by decide +kernel
theorem pf_X8_251 {ρ : Type} {x : Fx} {g : Gl} {cw : Gl → Hp → va_W} {nL dR : Nat} {QR : ρ → QT} {cc : ByteArray} {ret : Option FieldType} {pc n : Nat} {L : List (Option Value)} {st : List Value} {h : Hp} {E : Option ρ} (C : Ok x g RX8 cc nL ret) (q0 : Nat) {a : Nat} {fs : List Value} {v : Int32} (he : (cw g h)[q0]? = some (a, .inr (7, fs))) (hs : (cw g h).set q0 (a, .inr (7, fs.set 10 (.int v))) = cw g (up h q0 10 v)) (hlt : (Nat.ble (10 + 1) fs.length) = true) (d : decode cc pc = .ok (.putfield 251, 3)) (hn : pc + 3 = n) (k : J x g cw nL dR QR n L st (up h q0 10 v) E) : J x g cw nL dR QR pc L (.int v :: .ref a :: st) h E := j_put C q0 he rfl vi_7 tyX8 tyX8_ok nmX8 10 (Nat.le_of_ble_eq_true rfl) fl_X8_251 rfl (ty0_X8_10) (⟨rfl, rfl⟩) (Nat.le_of_ble_eq_true hlt) hs d hn k
theorem fl_X8_254 : Cond.fieldLink RX8 254 "SameHeadsModel" "ends" "I" ∈ gT := gT_in (tb4 (List.mem_of_getElem? (i := 189) rfl)) rfl
theorem ty0_X8_12 : parseFieldDescriptor (TX8 12).2.2.1 = some .int := by decide +kernel
theorem pf_X8_254 {ρ : Type} {x : Fx} {g : Gl} {cw : Gl → Hp → va_W} {nL dR : Nat} {QR : ρ → QT} {cc : ByteArray} {ret : Option FieldType} {pc n : Nat} {L : List (Option Value)} {st : List Value} {h : Hp} {E : Option ρ} (C : Ok x g RX8 cc nL ret) (q0 : Nat) {a : Nat} {fs : List Value} {v : Int32} (he : (cw g h)[q0]? = some (a, .inr (7, fs))) (hs : (cw g h).set q0 (a, .inr (7, fs.set 12 (.int v))) = cw g (up h q0 12 v)) (hlt : (Nat.ble (12 + 1) fs.length) = true) (d : decode cc pc = .ok (.putfield 254, 3)) (hn : pc + 3 = n) (k : J x g cw nL dR QR n L st (up h q0 12 v) E) : J x g cw nL dR QR pc L (.int v :: .ref a :: st) h E := j_put C q0 he rfl vi_7 tyX8 tyX8_ok nmX8 12 (Nat.le_of_ble_eq_true rfl) fl_X8_254 rfl (ty0_X8_12) (⟨rfl, rfl⟩) (Nat.le_of_ble_eq_true hlt) hs d hn k
theorem fl_X8_276 : Cond.fieldLink RX8 276 "SameHeadsModel" "isWrong" "Z" ∈ gT := gT_in (tb4 (List.mem_of_getElem? (i := 192) rfl)) rfl
theorem ty0_X8_15 : parseFieldDescriptor (TX8 15).2.2.1 = some .boolean := by decide +kernel
theorem pf_X8_276 {ρ : Type} {x : Fx} {g : Gl} {cw : Gl → Hp → va_W} {nL dR : Nat} {QR : ρ → QT} {cc : ByteArray} {ret : Option FieldType} {pc n : Nat} {L : List (Option Value)} {st : List Value} {h : Hp} {E : Option ρ} (C : Ok x g RX8 cc nL ret) (q0 : Nat) {a : Nat} {fs : List Value} {v : Int32} (he : (cw g h)[q0]? = some (a, .inr (7, fs))) (hz : v = 0 ∨ v = 1) (hs : (cw g h).set q0 (a, .inr (7, fs.set 15 (.int v))) = cw g (up h q0 15 v)) (hlt : (Nat.ble (15 + 1) fs.length) = true) (d : decode cc pc = .ok (.putfield 276, 3)) (hn : pc + 3 = n) (k : J x g cw nL dR QR n L st (up h q0 15 v) E) : J x g cw nL dR QR pc L (.int v :: .ref a :: st) h E := j_put C q0 he rfl vi_7 tyX8 tyX8_ok nmX8 15 (Nat.le_of_ble_eq_true rfl) fl_X8_276 rfl (ty0_X8_15) (by rcases hz with rfl | rfl <;> decide) (Nat.le_of_ble_eq_true hlt) hs d hn k
theorem fl_X8_287 : Cond.fieldLink RX8 287 "SameHeadsModel" "itemMany" "I" ∈ gT := gT_in (tb4 (List.mem_of_getElem? (i := 195) rfl)) rfl
theorem ty0_X8_18 : parseFieldDescriptor (TX8 18).2.2.1 = some .int := by decide +kernel
theorem pf_X8_287 {ρ : Type} {x : Fx} {g : Gl} {cw : Gl → Hp → va_W} {nL dR : Nat} {QR : ρ → QT} {cc : ByteArray} {ret : Option FieldType} {pc n : Nat} {L : List (Option Value)} {st : List Value} {h : Hp} {E : Option ρ} (C : Ok x g RX8 cc nL ret) (q0 : Nat) {a : Nat} {fs : List Value} {v : Int32} (he : (cw g h)[q0]? = some (a, .inr (7, fs))) (hs : (cw g h).set q0 (a, .inr (7, fs.set 18 (.int v))) = cw g (up h q0 18 v)) (hlt : (Nat.ble (18 + 1) fs.length) = true) (d : decode cc pc = .ok (.putfield 287, 3)) (hn : pc + 3 = n) (k : J x g cw nL dR QR n L st (up h q0 18 v) E) : J x g cw nL dR QR pc L (.int v :: .ref a :: st) h E := j_put C q0 he rfl vi_7 tyX8 tyX8_ok nmX8 18 (Nat.le_of_ble_eq_true rfl) fl_X8_287 rfl (ty0_X8_18) (⟨rfl, rfl⟩) (Nat.le_of_ble_eq_true hlt) hs d hn k
theorem fl_X8_297 : Cond.fieldLink RX8 297 "SameHeadsModel" "partThen" "I" ∈ gT := gT_in (tb4 (List.mem_of_getElem? (i := 196) rfl)) rfl
theorem ty0_X8_19 : parseFieldDescriptor (TX8 19).2.2.1 = some .int := by decide +kernel
theorem pf_X8_297 {ρ : Type} {x : Fx} {g : Gl} {cw : Gl → Hp → va_W} {nL dR : Nat} {QR : ρ → QT} {cc : ByteArray} {ret : Option FieldType} {pc n : Nat} {L : List (Option Value)} {st : List Value} {h : Hp} {E : Option ρ} (C : Ok x g RX8 cc nL ret) (q0 : Nat) {a : Nat} {fs : List Value} {v : Int32} (he : (cw g h)[q0]? = some (a, .inr (7, fs))) (hs : (cw g h).set q0 (a, .inr (7, fs.set 19 (.int v))) = cw g (up h q0 19 v)) (hlt : (Nat.ble (19 + 1) fs.length) = true) (d : decode cc pc = .ok (.putfield 297, 3)) (hn : pc + 3 = n) (k : J x g cw nL dR QR n L st (up h q0 19 v) E) : J x g cw nL dR QR pc L (.int v :: .ref a :: st) h E := j_put C q0 he rfl vi_7 tyX8 tyX8_ok nmX8 19 (Nat.le_of_ble_eq_true rfl) fl_X8_297 rfl (ty0_X8_19) (⟨rfl, rfl⟩) (Nat.le_of_ble_eq_true hlt) hs d hn k
theorem mi_X8_next0 : MI yX8_next0 cX8_next0 2 none 0 := ⟨gT_in (tb6 (List.mem_of_getElem? (i := 112) rfl)) rfl, gT_in (tb1 (List.mem_of_getElem? (i := 9) rfl)) rfl, by decide +kernel⟩
theorem iv_X8_next0 : Cond.instanceMethod yX8_next0 ∈ gT ∧ Cond.selects RX8 yX8_next0 yX8_next0 ∈ gT := ⟨gT_in (tb6 (List.mem_of_getElem? (i := 111) rfl)) rfl, gT_in (List.mem_append_left _ (List.mem_of_getElem? (i := 56) rfl)) rfl⟩
theorem lm_X8_280 : Cond.methodLink RX8 280 yX8_next0 ∈ gT := gT_in (tb6 (List.mem_of_getElem? (i := 109) rfl)) rfl
theorem mi_X8_readItem : MI yX8_readItem cX8_readItem 4 none 0 := ⟨gT_in (tb6 (List.mem_of_getElem? (i := 120) rfl)) rfl, gT_in (tb1 (List.mem_of_getElem? (i := 9) rfl)) rfl, by decide +kernel⟩
theorem iv_X8_readItem : Cond.instanceMethod yX8_readItem ∈ gT ∧ Cond.selects RX8 yX8_readItem yX8_readItem ∈ gT := ⟨gT_in (tb6 (List.mem_of_getElem? (i := 119) rfl)) rfl, gT_in (List.mem_append_left _ (List.mem_of_getElem? (i := 58) rfl)) rfl⟩
theorem lm_X8_324 : Cond.methodLink RX8 324 yX8_readItem ∈ gT := gT_in (tb6 (List.mem_of_getElem? (i := 117) rfl)) rfl
theorem gf_X8_276 {ρ : Type} {x : Fx} {g : Gl} {cw : Gl → Hp → va_W} {nL dR : Nat} {QR : ρ → QT} {cc : ByteArray} {ret : Option FieldType} {pc n : Nat} {L : List (Option Value)} {st : List Value} {h : Hp} {E : Option ρ} (C : Ok x g RX8 cc nL ret) (q0 : Nat) {a : Nat} {fs : List Value} (he : (cw g h)[q0]? = some (a, .inr (7, fs))) {v : Value} (hv : fs[15]? = some v) (d : decode cc pc = .ok (.getfield 276, 3)) (hn : pc + 3 = n) (k : J x g cw nL dR QR n L (v :: st) h E) : J x g cw nL dR QR pc L (.ref a :: st) h E := j_get C q0 he rfl vi_7 15 (Nat.le_of_ble_eq_true rfl) fl_X8_276 hv d hn k
theorem fl_X8_266 : Cond.fieldLink RX8 266 "SameHeadsModel" "sort" "I" ∈ gT := gT_in (tb4 (List.mem_of_getElem? (i := 190) rfl)) rfl
theorem gf_X8_266 {ρ : Type} {x : Fx} {g : Gl} {cw : Gl → Hp → va_W} {nL dR : Nat} {QR : ρ → QT} {cc : ByteArray} {ret : Option FieldType} {pc n : Nat} {L : List (Option Value)} {st : List Value} {h : Hp} {E : Option ρ} (C : Ok x g RX8 cc nL ret) (q0 : Nat) {a : Nat} {fs : List Value} (he : (cw g h)[q0]? = some (a, .inr (7, fs))) {v : Value} (hv : fs[13]? = some v) (d : decode cc pc = .ok (.getfield 266, 3)) (hn : pc + 3 = n) (k : J x g cw nL dR QR n L (v :: st) h E) : J x g cw nL dR QR pc L (.ref a :: st) h E := j_get C q0 he rfl vi_7 13 (Nat.le_of_ble_eq_true rfl) fl_X8_266 hv d hn k
theorem mi_X8_must : MI yX8_must cX8_must 2 none 1 := ⟨gT_in (tb6 (List.mem_of_getElem? (i := 134) rfl)) rfl, gT_in (tb1 (List.mem_of_getElem? (i := 9) rfl)) rfl, by decide +kernel⟩
theorem iv_X8_must : Cond.instanceMethod yX8_must ∈ gT ∧ Cond.selects RX8 yX8_must yX8_must ∈ gT := ⟨gT_in (tb6 (List.mem_of_getElem? (i := 133) rfl)) rfl, gT_in (List.mem_append_left _ (List.mem_of_getElem? (i := 61) rfl)) rfl⟩
theorem lm_X8_283 : Cond.methodLink RX8 283 yX8_must ∈ gT := gT_in (tb6 (List.mem_of_getElem? (i := 131) rfl)) rfl
theorem fl_X8_257 : Cond.fieldLink RX8 257 "SameHeadsModel" "begins" "I" ∈ gT := gT_in (tb4 (List.mem_of_getElem? (i := 188) rfl)) rfl
theorem gf_X8_257 {ρ : Type} {x : Fx} {g : Gl} {cw : Gl → Hp → va_W} {nL dR : Nat} {QR : ρ → QT} {cc : ByteArray} {ret : Option FieldType} {pc n : Nat} {L : List (Option Value)} {st : List Value} {h : Hp} {E : Option ρ} (C : Ok x g RX8 cc nL ret) (q0 : Nat) {a : Nat} {fs : List Value} (he : (cw g h)[q0]? = some (a, .inr (7, fs))) {v : Value} (hv : fs[11]? = some v) (d : decode cc pc = .ok (.getfield 257, 3)) (hn : pc + 3 = n) (k : J x g cw nL dR QR n L (v :: st) h E) : J x g cw nL dR QR pc L (.ref a :: st) h E := j_get C q0 he rfl vi_7 11 (Nat.le_of_ble_eq_true rfl) fl_X8_257 hv d hn k
theorem bp_59 : (Int8.ofInt (59)).toInt32 = (59 : Int32) := by decide
theorem gf_X8_287 {ρ : Type} {x : Fx} {g : Gl} {cw : Gl → Hp → va_W} {nL dR : Nat} {QR : ρ → QT} {cc : ByteArray} {ret : Option FieldType} {pc n : Nat} {L : List (Option Value)} {st : List Value} {h : Hp} {E : Option ρ} (C : Ok x g RX8 cc nL ret) (q0 : Nat) {a : Nat} {fs : List Value} (he : (cw g h)[q0]? = some (a, .inr (7, fs))) {v : Value} (hv : fs[18]? = some v) (d : decode cc pc = .ok (.getfield 287, 3)) (hn : pc + 3 = n) (k : J x g cw nL dR QR n L (v :: st) h E) : J x g cw nL dR QR pc L (.ref a :: st) h E := j_get C q0 he rfl vi_7 18 (Nat.le_of_ble_eq_true rfl) fl_X8_287 hv d hn k
theorem mi_X8_isSo : MI yX8_isSo cX8_isSo 5 (some .int) 1 := ⟨gT_in (tb6 (List.mem_of_getElem? (i := 157) rfl)) rfl, gT_in (tb1 (List.mem_of_getElem? (i := 9) rfl)) rfl, by decide +kernel⟩
theorem iv_X8_isSo : Cond.instanceMethod yX8_isSo ∈ gT ∧ Cond.selects RX8 yX8_isSo yX8_isSo ∈ gT := ⟨gT_in (tb6 (List.mem_of_getElem? (i := 156) rfl)) rfl, gT_in (List.mem_append_left _ (List.mem_of_getElem? (i := 65) rfl)) rfl⟩
theorem lm_X8_327 : Cond.methodLink RX8 327 yX8_isSo ∈ gT := gT_in (tb6 (List.mem_of_getElem? (i := 154) rfl)) rfl
theorem mi_X8_isSpot : MI yX8_isSpot cX8_isSpot 1 (some .boolean) 1 := ⟨gT_in (tb6 (List.mem_of_getElem? (i := 164) rfl)) rfl, gT_in (tb1 (List.mem_of_getElem? (i := 9) rfl)) rfl, by decide +kernel⟩
theorem st_X8_isSpot : Cond.static yX8_isSpot ∈ gT := gT_in (tb6 (List.mem_of_getElem? (i := 163) rfl)) rfl
theorem lm_X8_330 : Cond.methodLink RX8 330 yX8_isSpot ∈ gT := gT_in (tb6 (List.mem_of_getElem? (i := 162) rfl)) rfl
theorem mi_X8_isUnder : MI yX8_isUnder cX8_isUnder 3 (some .boolean) 2 := ⟨gT_in (tb5 (List.mem_of_getElem? (i := 191) rfl)) rfl, gT_in (tb1 (List.mem_of_getElem? (i := 9) rfl)) rfl, by decide +kernel⟩
theorem st_X8_isUnder : Cond.static yX8_isUnder ∈ gT := gT_in (tb5 (List.mem_of_getElem? (i := 190) rfl)) rfl
theorem lm_X8_95 : Cond.methodLink RX8 95 yX8_isUnder ∈ gT := gT_in (tb5 (List.mem_of_getElem? (i := 189) rfl)) rfl
theorem kc_X8_333 : Cond.constant RX8 333 (-1000007 : Int32) ∈ gT := gT_in (tb6 (List.mem_of_getElem? (i := 173) rfl)) rfl
theorem fl_X8_57 : Cond.fieldLink RX8 57 "SameHeadsModel" "numbers" "[I" ∈ gT := gT_in (tb4 (List.mem_of_getElem? (i := 199) rfl)) rfl
theorem gf_X8_57 {ρ : Type} {x : Fx} {g : Gl} {cw : Gl → Hp → va_W} {nL dR : Nat} {QR : ρ → QT} {cc : ByteArray} {ret : Option FieldType} {pc n : Nat} {L : List (Option Value)} {st : List Value} {h : Hp} {E : Option ρ} (C : Ok x g RX8 cc nL ret) (q0 : Nat) {a : Nat} {fs : List Value} (he : (cw g h)[q0]? = some (a, .inr (7, fs))) {v : Value} (hv : fs[22]? = some v) (d : decode cc pc = .ok (.getfield 57, 3)) (hn : pc + 3 = n) (k : J x g cw nL dR QR n L (v :: st) h E) : J x g cw nL dR QR pc L (.ref a :: st) h E := j_get C q0 he rfl vi_7 22 (Nat.le_of_ble_eq_true rfl) fl_X8_57 hv d hn k
theorem mi_X8_cutTo : MI yX8_cutTo cX8_cutTo 2 (some .int) 2 := ⟨gT_in (tb6 (List.mem_of_getElem? (i := 180) rfl)) rfl, gT_in (tb1 (List.mem_of_getElem? (i := 9) rfl)) rfl, by decide +kernel⟩
theorem st_X8_cutTo : Cond.static yX8_cutTo ∈ gT := gT_in (tb6 (List.mem_of_getElem? (i := 179) rfl)) rfl
theorem lm_X8_334 : Cond.methodLink RX8 334 yX8_cutTo ∈ gT := gT_in (tb6 (List.mem_of_getElem? (i := 178) rfl)) rfl
theorem fl_X8_60 : Cond.fieldLink RX8 60 "SameHeadsModel" "moved" "[I" ∈ gT := gT_in (tb4 (List.mem_of_getElem? (i := 200) rfl)) rfl
theorem gf_X8_60 {ρ : Type} {x : Fx} {g : Gl} {cw : Gl → Hp → va_W} {nL dR : Nat} {QR : ρ → QT} {cc : ByteArray} {ret : Option FieldType} {pc n : Nat} {L : List (Option Value)} {st : List Value} {h : Hp} {E : Option ρ} (C : Ok x g RX8 cc nL ret) (q0 : Nat) {a : Nat} {fs : List Value} (he : (cw g h)[q0]? = some (a, .inr (7, fs))) {v : Value} (hv : fs[23]? = some v) (d : decode cc pc = .ok (.getfield 60, 3)) (hn : pc + 3 = n) (k : J x g cw nL dR QR n L (v :: st) h E) : J x g cw nL dR QR pc L (.ref a :: st) h E := j_get C q0 he rfl vi_7 23 (Nat.le_of_ble_eq_true rfl) fl_X8_60 hv d hn k
theorem fl_X8_13 : Cond.fieldLink RX8 13 "SameHeadsModel" "kept" "[I" ∈ gT := gT_in (tb4 (List.mem_of_getElem? (i := 178) rfl)) rfl
theorem gf_X8_13 {ρ : Type} {x : Fx} {g : Gl} {cw : Gl → Hp → va_W} {nL dR : Nat} {QR : ρ → QT} {cc : ByteArray} {ret : Option FieldType} {pc n : Nat} {L : List (Option Value)} {st : List Value} {h : Hp} {E : Option ρ} (C : Ok x g RX8 cc nL ret) (q0 : Nat) {a : Nat} {fs : List Value} (he : (cw g h)[q0]? = some (a, .inr (7, fs))) {v : Value} (hv : fs[1]? = some v) (d : decode cc pc = .ok (.getfield 13, 3)) (hn : pc + 3 = n) (k : J x g cw nL dR QR n L (v :: st) h E) : J x g cw nL dR QR pc L (.ref a :: st) h E := j_get C q0 he rfl vi_7 1 (Nat.le_of_ble_eq_true rfl) fl_X8_13 hv d hn k
theorem mi_X8_copyRow : MI yX8_copyRow cX8_copyRow 3 none 2 := ⟨gT_in (tb6 (List.mem_of_getElem? (i := 7) rfl)) rfl, gT_in (tb1 (List.mem_of_getElem? (i := 9) rfl)) rfl, by decide +kernel⟩
theorem st_X8_copyRow : Cond.static yX8_copyRow ∈ gT := gT_in (tb6 (List.mem_of_getElem? (i := 6) rfl)) rfl
theorem lm_X8_64 : Cond.methodLink RX8 64 yX8_copyRow ∈ gT := gT_in (tb6 (List.mem_of_getElem? (i := 5) rfl)) rfl
theorem fl_X8_337 : Cond.fieldLink RX8 337 "SameHeadsModel" "isKept" "Z" ∈ gT := gT_in (tb4 (List.mem_of_getElem? (i := 180) rfl)) rfl
theorem ty0_X8_3 : parseFieldDescriptor (TX8 3).2.2.1 = some .boolean := by decide +kernel
theorem pf_X8_337 {ρ : Type} {x : Fx} {g : Gl} {cw : Gl → Hp → va_W} {nL dR : Nat} {QR : ρ → QT} {cc : ByteArray} {ret : Option FieldType} {pc n : Nat} {L : List (Option Value)} {st : List Value} {h : Hp} {E : Option ρ} (C : Ok x g RX8 cc nL ret) (q0 : Nat) {a : Nat} {fs : List Value} {v : Int32} (he : (cw g h)[q0]? = some (a, .inr (7, fs))) (hz : v = 0 ∨ v = 1) (hs : (cw g h).set q0 (a, .inr (7, fs.set 3 (.int v))) = cw g (up h q0 3 v)) (hlt : (Nat.ble (3 + 1) fs.length) = true) (d : decode cc pc = .ok (.putfield 337, 3)) (hn : pc + 3 = n) (k : J x g cw nL dR QR n L st (up h q0 3 v) E) : J x g cw nL dR QR pc L (.int v :: .ref a :: st) h E := j_put C q0 he rfl vi_7 tyX8 tyX8_ok nmX8 3 (Nat.le_of_ble_eq_true rfl) fl_X8_337 rfl (ty0_X8_3) (by rcases hz with rfl | rfl <;> decide) (Nat.le_of_ble_eq_true hlt) hs d hn k
theorem gf_X8_337 {ρ : Type} {x : Fx} {g : Gl} {cw : Gl → Hp → va_W} {nL dR : Nat} {QR : ρ → QT} {cc : ByteArray} {ret : Option FieldType} {pc n : Nat} {L : List (Option Value)} {st : List Value} {h : Hp} {E : Option ρ} (C : Ok x g RX8 cc nL ret) (q0 : Nat) {a : Nat} {fs : List Value} (he : (cw g h)[q0]? = some (a, .inr (7, fs))) {v : Value} (hv : fs[3]? = some v) (d : decode cc pc = .ok (.getfield 337, 3)) (hn : pc + 3 = n) (k : J x g cw nL dR QR n L (v :: st) h E) : J x g cw nL dR QR pc L (.ref a :: st) h E := j_get C q0 he rfl vi_7 3 (Nat.le_of_ble_eq_true rfl) fl_X8_337 hv d hn k
theorem ir_4_117 : inR (4 : Int32) 117 = true ∧ ((4 : Int32)).toNatClampNeg = 4 := by decide
theorem fl_X8_19 : Cond.fieldLink RX8 19 "SameHeadsModel" "found" "[I" ∈ gT := gT_in (tb4 (List.mem_of_getElem? (i := 181) rfl)) rfl
theorem gf_X8_19 {ρ : Type} {x : Fx} {g : Gl} {cw : Gl → Hp → va_W} {nL dR : Nat} {QR : ρ → QT} {cc : ByteArray} {ret : Option FieldType} {pc n : Nat} {L : List (Option Value)} {st : List Value} {h : Hp} {E : Option ρ} (C : Ok x g RX8 cc nL ret) (q0 : Nat) {a : Nat} {fs : List Value} (he : (cw g h)[q0]? = some (a, .inr (7, fs))) {v : Value} (hv : fs[4]? = some v) (d : decode cc pc = .ok (.getfield 19, 3)) (hn : pc + 3 = n) (k : J x g cw nL dR QR n L (v :: st) h E) : J x g cw nL dR QR pc L (.ref a :: st) h E := j_get C q0 he rfl vi_7 4 (Nat.le_of_ble_eq_true rfl) fl_X8_19 hv d hn k
theorem fl_X1_9 : Cond.fieldLink RX1 9 "SameHeads$House" "kind" "[I" ∈ gT := gT_in (tb1 (List.mem_of_getElem? (i := 35) rfl)) rfl
theorem gf_X1_9 {ρ : Type} {x : Fx} {g : Gl} {cw : Gl → Hp → va_W} {nL dR : Nat} {QR : ρ → QT} {cc : ByteArray} {ret : Option FieldType} {pc n : Nat} {L : List (Option Value)} {st : List Value} {h : Hp} {E : Option ρ} (C : Ok x g RX1 cc nL ret) (q0 : Nat) {a : Nat} {fs : List Value} (he : (cw g h)[q0]? = some (a, .inr (1, fs))) {v : Value} (hv : fs[0]? = some v) (d : decode cc pc = .ok (.getfield 9, 3)) (hn : pc + 3 = n) (k : J x g cw nL dR QR n L (v :: st) h E) : J x g cw nL dR QR pc L (.ref a :: st) h E := j_get C q0 he rfl vi_1 0 (Nat.le_of_ble_eq_true rfl) fl_X1_9 hv d hn k
theorem fl_X1_61 : Cond.fieldLink RX1 61 "SameHeads$House" "parts" "I" ∈ gT := gT_in (tb1 (List.mem_of_getElem? (i := 63) rfl)) rfl
theorem gf_X1_61 {ρ : Type} {x : Fx} {g : Gl} {cw : Gl → Hp → va_W} {nL dR : Nat} {QR : ρ → QT} {cc : ByteArray} {ret : Option FieldType} {pc n : Nat} {L : List (Option Value)} {st : List Value} {h : Hp} {E : Option ρ} (C : Ok x g RX1 cc nL ret) (q0 : Nat) {a : Nat} {fs : List Value} (he : (cw g h)[q0]? = some (a, .inr (1, fs))) {v : Value} (hv : fs[10]? = some v) (d : decode cc pc = .ok (.getfield 61, 3)) (hn : pc + 3 = n) (k : J x g cw nL dR QR n L (v :: st) h E) : J x g cw nL dR QR pc L (.ref a :: st) h E := j_get C q0 he rfl vi_1 10 (Nat.le_of_ble_eq_true rfl) fl_X1_61 hv d hn k
theorem fl_X1_15 : Cond.fieldLink RX1 15 "SameHeads$House" "looks" "[I" ∈ gT := gT_in (tb1 (List.mem_of_getElem? (i := 38) rfl)) rfl
theorem gf_X1_15 {ρ : Type} {x : Fx} {g : Gl} {cw : Gl → Hp → va_W} {nL dR : Nat} {QR : ρ → QT} {cc : ByteArray} {ret : Option FieldType} {pc n : Nat} {L : List (Option Value)} {st : List Value} {h : Hp} {E : Option ρ} (C : Ok x g RX1 cc nL ret) (q0 : Nat) {a : Nat} {fs : List Value} (he : (cw g h)[q0]? = some (a, .inr (1, fs))) {v : Value} (hv : fs[1]? = some v) (d : decode cc pc = .ok (.getfield 15, 3)) (hn : pc + 3 = n) (k : J x g cw nL dR QR n L (v :: st) h E) : J x g cw nL dR QR pc L (.ref a :: st) h E := j_get C q0 he rfl vi_1 1 (Nat.le_of_ble_eq_true rfl) fl_X1_15 hv d hn k
theorem fl_X1_18 : Cond.fieldLink RX1 18 "SameHeads$House" "wax" "[I" ∈ gT := gT_in (tb1 (List.mem_of_getElem? (i := 41) rfl)) rfl
theorem gf_X1_18 {ρ : Type} {x : Fx} {g : Gl} {cw : Gl → Hp → va_W} {nL dR : Nat} {QR : ρ → QT} {cc : ByteArray} {ret : Option FieldType} {pc n : Nat} {L : List (Option Value)} {st : List Value} {h : Hp} {E : Option ρ} (C : Ok x g RX1 cc nL ret) (q0 : Nat) {a : Nat} {fs : List Value} (he : (cw g h)[q0]? = some (a, .inr (1, fs))) {v : Value} (hv : fs[2]? = some v) (d : decode cc pc = .ok (.getfield 18, 3)) (hn : pc + 3 = n) (k : J x g cw nL dR QR n L (v :: st) h E) : J x g cw nL dR QR pc L (.ref a :: st) h E := j_get C q0 he rfl vi_1 2 (Nat.le_of_ble_eq_true rfl) fl_X1_18 hv d hn k
theorem fl_X1_21 : Cond.fieldLink RX1 21 "SameHeads$House" "place" "[I" ∈ gT := gT_in (tb1 (List.mem_of_getElem? (i := 44) rfl)) rfl
theorem gf_X1_21 {ρ : Type} {x : Fx} {g : Gl} {cw : Gl → Hp → va_W} {nL dR : Nat} {QR : ρ → QT} {cc : ByteArray} {ret : Option FieldType} {pc n : Nat} {L : List (Option Value)} {st : List Value} {h : Hp} {E : Option ρ} (C : Ok x g RX1 cc nL ret) (q0 : Nat) {a : Nat} {fs : List Value} (he : (cw g h)[q0]? = some (a, .inr (1, fs))) {v : Value} (hv : fs[3]? = some v) (d : decode cc pc = .ok (.getfield 21, 3)) (hn : pc + 3 = n) (k : J x g cw nL dR QR n L (v :: st) h E) : J x g cw nL dR QR pc L (.ref a :: st) h E := j_get C q0 he rfl vi_1 3 (Nat.le_of_ble_eq_true rfl) fl_X1_21 hv d hn k
theorem ty0_X1_10 : parseFieldDescriptor (TX1 10).2.2.1 = some .int := by decide +kernel
theorem pf_X1_61 {ρ : Type} {x : Fx} {g : Gl} {cw : Gl → Hp → va_W} {nL dR : Nat} {QR : ρ → QT} {cc : ByteArray} {ret : Option FieldType} {pc n : Nat} {L : List (Option Value)} {st : List Value} {h : Hp} {E : Option ρ} (C : Ok x g RX1 cc nL ret) (q0 : Nat) {a : Nat} {fs : List Value} {v : Int32} (he : (cw g h)[q0]? = some (a, .inr (1, fs))) (hs : (cw g h).set q0 (a, .inr (1, fs.set 10 (.int v))) = cw g (up h q0 10 v)) (hlt : (Nat.ble (10 + 1) fs.length) = true) (d : decode cc pc = .ok (.putfield 61, 3)) (hn : pc + 3 = n) (k : J x g cw nL dR QR n L st (up h q0 10 v) E) : J x g cw nL dR QR pc L (.int v :: .ref a :: st) h E := j_put C q0 he rfl vi_1 tyX1 tyX1_ok nmX1 10 (Nat.le_of_ble_eq_true rfl) fl_X1_61 rfl (ty0_X1_10) (⟨rfl, rfl⟩) (Nat.le_of_ble_eq_true hlt) hs d hn k
theorem ns_X1_70 : (RX1, 70, yX7_within, "SameHeads") ∈ neR := List.mem_of_getElem? (i := 4) rfl
theorem fl_X1_30 : Cond.fieldLink RX1 30 "SameHeads$House" "shown" "[I" ∈ gT := gT_in (tb1 (List.mem_of_getElem? (i := 54) rfl)) rfl
theorem gf_X1_30 {ρ : Type} {x : Fx} {g : Gl} {cw : Gl → Hp → va_W} {nL dR : Nat} {QR : ρ → QT} {cc : ByteArray} {ret : Option FieldType} {pc n : Nat} {L : List (Option Value)} {st : List Value} {h : Hp} {E : Option ρ} (C : Ok x g RX1 cc nL ret) (q0 : Nat) {a : Nat} {fs : List Value} (he : (cw g h)[q0]? = some (a, .inr (1, fs))) {v : Value} (hv : fs[6]? = some v) (d : decode cc pc = .ok (.getfield 30, 3)) (hn : pc + 3 = n) (k : J x g cw nL dR QR n L (v :: st) h E) : J x g cw nL dR QR pc L (.ref a :: st) h E := j_get C q0 he rfl vi_1 6 (Nat.le_of_ble_eq_true rfl) fl_X1_30 hv d hn k
theorem ns_X1_93 : (RX1, 93, yX7_isFace, "SameHeads") ∈ neR := List.mem_of_getElem? (i := 5) rfl
theorem lm_X1_97 : Cond.methodLink RX1 97 yX1_likeTo ∈ gT := gT_in (tb2 (List.mem_of_getElem? (i := 70) rfl)) rfl
theorem fl_X1_64 : Cond.fieldLink RX1 64 "SameHeads$House" "visitors" "I" ∈ gT := gT_in (tb1 (List.mem_of_getElem? (i := 67) rfl)) rfl
theorem gf_X1_64 {ρ : Type} {x : Fx} {g : Gl} {cw : Gl → Hp → va_W} {nL dR : Nat} {QR : ρ → QT} {cc : ByteArray} {ret : Option FieldType} {pc n : Nat} {L : List (Option Value)} {st : List Value} {h : Hp} {E : Option ρ} (C : Ok x g RX1 cc nL ret) (q0 : Nat) {a : Nat} {fs : List Value} (he : (cw g h)[q0]? = some (a, .inr (1, fs))) {v : Value} (hv : fs[11]? = some v) (d : decode cc pc = .ok (.getfield 64, 3)) (hn : pc + 3 = n) (k : J x g cw nL dR QR n L (v :: st) h E) : J x g cw nL dR QR pc L (.ref a :: st) h E := j_get C q0 he rfl vi_1 11 (Nat.le_of_ble_eq_true rfl) fl_X1_64 hv d hn k
theorem lm_X1_106 : Cond.methodLink RX1 106 yX1_roomOf ∈ gT := gT_in (tb2 (List.mem_of_getElem? (i := 93) rfl)) rfl
theorem fl_X1_24 : Cond.fieldLink RX1 24 "SameHeads$House" "faceLooks" "[I" ∈ gT := gT_in (tb1 (List.mem_of_getElem? (i := 47) rfl)) rfl
theorem gf_X1_24 {ρ : Type} {x : Fx} {g : Gl} {cw : Gl → Hp → va_W} {nL dR : Nat} {QR : ρ → QT} {cc : ByteArray} {ret : Option FieldType} {pc n : Nat} {L : List (Option Value)} {st : List Value} {h : Hp} {E : Option ρ} (C : Ok x g RX1 cc nL ret) (q0 : Nat) {a : Nat} {fs : List Value} (he : (cw g h)[q0]? = some (a, .inr (1, fs))) {v : Value} (hv : fs[4]? = some v) (d : decode cc pc = .ok (.getfield 24, 3)) (hn : pc + 3 = n) (k : J x g cw nL dR QR n L (v :: st) h E) : J x g cw nL dR QR pc L (.ref a :: st) h E := j_get C q0 he rfl vi_1 4 (Nat.le_of_ble_eq_true rfl) fl_X1_24 hv d hn k
theorem mi_X2_likeness : MI yX2_likeness cX2_likeness 4 (some .int) 3 := ⟨gT_in (tb2 (List.mem_of_getElem? (i := 76) rfl)) rfl, gT_in (tb1 (List.mem_of_getElem? (i := 10) rfl)) rfl, by decide +kernel⟩
theorem st_X2_likeness : Cond.static yX2_likeness ∈ gT := gT_in (tb2 (List.mem_of_getElem? (i := 75) rfl)) rfl
theorem lm_X1_80 : Cond.methodLink RX1 80 yX2_likeness ∈ gT := gT_in (tb2 (List.mem_of_getElem? (i := 74) rfl)) rfl
theorem lm_X1_84 : Cond.methodLink RX1 84 Lib.Math.abs.name ∈ gT := gT_in (tb2 (List.mem_of_getElem? (i := 115) rfl)) rfl
theorem mi_X2_minutes : MI yX2_minutes cX2_minutes 3 (some .int) 3 := ⟨gT_in (tb2 (List.mem_of_getElem? (i := 120) rfl)) rfl, gT_in (tb1 (List.mem_of_getElem? (i := 10) rfl)) rfl, by decide +kernel⟩
theorem st_X2_minutes : Cond.static yX2_minutes ∈ gT := gT_in (tb2 (List.mem_of_getElem? (i := 119) rfl)) rfl
theorem lm_X1_90 : Cond.methodLink RX1 90 yX2_minutes ∈ gT := gT_in (tb2 (List.mem_of_getElem? (i := 118) rfl)) rfl
theorem fl_X1_33 : Cond.fieldLink RX1 33 "SameHeads$House" "came" "[I" ∈ gT := gT_in (tb1 (List.mem_of_getElem? (i := 58) rfl)) rfl
theorem gf_X1_33 {ρ : Type} {x : Fx} {g : Gl} {cw : Gl → Hp → va_W} {nL dR : Nat} {QR : ρ → QT} {cc : ByteArray} {ret : Option FieldType} {pc n : Nat} {L : List (Option Value)} {st : List Value} {h : Hp} {E : Option ρ} (C : Ok x g RX1 cc nL ret) (q0 : Nat) {a : Nat} {fs : List Value} (he : (cw g h)[q0]? = some (a, .inr (1, fs))) {v : Value} (hv : fs[7]? = some v) (d : decode cc pc = .ok (.getfield 33, 3)) (hn : pc + 3 = n) (k : J x g cw nL dR QR n L (v :: st) h E) : J x g cw nL dR QR pc L (.ref a :: st) h E := j_get C q0 he rfl vi_1 7 (Nat.le_of_ble_eq_true rfl) fl_X1_33 hv d hn k
theorem fl_X1_67 : Cond.fieldLink RX1 67 "SameHeads$House" "clock" "I" ∈ gT := gT_in (tb1 (List.mem_of_getElem? (i := 69) rfl)) rfl
theorem gf_X1_67 {ρ : Type} {x : Fx} {g : Gl} {cw : Gl → Hp → va_W} {nL dR : Nat} {QR : ρ → QT} {cc : ByteArray} {ret : Option FieldType} {pc n : Nat} {L : List (Option Value)} {st : List Value} {h : Hp} {E : Option ρ} (C : Ok x g RX1 cc nL ret) (q0 : Nat) {a : Nat} {fs : List Value} (he : (cw g h)[q0]? = some (a, .inr (1, fs))) {v : Value} (hv : fs[12]? = some v) (d : decode cc pc = .ok (.getfield 67, 3)) (hn : pc + 3 = n) (k : J x g cw nL dR QR n L (v :: st) h E) : J x g cw nL dR QR pc L (.ref a :: st) h E := j_get C q0 he rfl vi_1 12 (Nat.le_of_ble_eq_true rfl) fl_X1_67 hv d hn k
theorem ty0_X1_11 : parseFieldDescriptor (TX1 11).2.2.1 = some .int := by decide +kernel
theorem pf_X1_64 {ρ : Type} {x : Fx} {g : Gl} {cw : Gl → Hp → va_W} {nL dR : Nat} {QR : ρ → QT} {cc : ByteArray} {ret : Option FieldType} {pc n : Nat} {L : List (Option Value)} {st : List Value} {h : Hp} {E : Option ρ} (C : Ok x g RX1 cc nL ret) (q0 : Nat) {a : Nat} {fs : List Value} {v : Int32} (he : (cw g h)[q0]? = some (a, .inr (1, fs))) (hs : (cw g h).set q0 (a, .inr (1, fs.set 11 (.int v))) = cw g (up h q0 11 v)) (hlt : (Nat.ble (11 + 1) fs.length) = true) (d : decode cc pc = .ok (.putfield 64, 3)) (hn : pc + 3 = n) (k : J x g cw nL dR QR n L st (up h q0 11 v) E) : J x g cw nL dR QR pc L (.int v :: .ref a :: st) h E := j_put C q0 he rfl vi_1 tyX1 tyX1_ok nmX1 11 (Nat.le_of_ble_eq_true rfl) fl_X1_64 rfl (ty0_X1_11) (⟨rfl, rfl⟩) (Nat.le_of_ble_eq_true hlt) hs d hn k
theorem fl_X1_42 : Cond.fieldLink RX1 42 "SameHeads$House" "pace" "I" ∈ gT := gT_in (tb1 (List.mem_of_getElem? (i := 71) rfl)) rfl
theorem gf_X1_42 {ρ : Type} {x : Fx} {g : Gl} {cw : Gl → Hp → va_W} {nL dR : Nat} {QR : ρ → QT} {cc : ByteArray} {ret : Option FieldType} {pc n : Nat} {L : List (Option Value)} {st : List Value} {h : Hp} {E : Option ρ} (C : Ok x g RX1 cc nL ret) (q0 : Nat) {a : Nat} {fs : List Value} (he : (cw g h)[q0]? = some (a, .inr (1, fs))) {v : Value} (hv : fs[13]? = some v) (d : decode cc pc = .ok (.getfield 42, 3)) (hn : pc + 3 = n) (k : J x g cw nL dR QR n L (v :: st) h E) : J x g cw nL dR QR pc L (.ref a :: st) h E := j_get C q0 he rfl vi_1 13 (Nat.le_of_ble_eq_true rfl) fl_X1_42 hv d hn k
theorem ns_X1_103 : (RX1, 103, yX7_isRoom, "SameHeads") ∈ neR := List.mem_of_getElem? (i := 6) rfl
theorem fl_X1_36 : Cond.fieldLink RX1 36 "SameHeads$House" "sights" "[I" ∈ gT := gT_in (tb1 (List.mem_of_getElem? (i := 59) rfl)) rfl
theorem gf_X1_36 {ρ : Type} {x : Fx} {g : Gl} {cw : Gl → Hp → va_W} {nL dR : Nat} {QR : ρ → QT} {cc : ByteArray} {ret : Option FieldType} {pc n : Nat} {L : List (Option Value)} {st : List Value} {h : Hp} {E : Option ρ} (C : Ok x g RX1 cc nL ret) (q0 : Nat) {a : Nat} {fs : List Value} (he : (cw g h)[q0]? = some (a, .inr (1, fs))) {v : Value} (hv : fs[8]? = some v) (d : decode cc pc = .ok (.getfield 36, 3)) (hn : pc + 3 = n) (k : J x g cw nL dR QR n L (v :: st) h E) : J x g cw nL dR QR pc L (.ref a :: st) h E := j_get C q0 he rfl vi_1 8 (Nat.le_of_ble_eq_true rfl) fl_X1_36 hv d hn k
theorem lm_X1_129 : Cond.methodLink RX1 129 yJ6_bitCount_0f7a4 ∈ gT := gT_in (tb2 (List.mem_of_getElem? (i := 142) rfl)) rfl
theorem lm_X1_122 : Cond.methodLink RX1 122 yX1_minutesTo ∈ gT := gT_in (tb2 (List.mem_of_getElem? (i := 151) rfl)) rfl
theorem lm_X1_125 : Cond.methodLink RX1 125 yX1_spend ∈ gT := gT_in (tb2 (List.mem_of_getElem? (i := 152) rfl)) rfl
theorem ty0_X1_12 : parseFieldDescriptor (TX1 12).2.2.1 = some .int := by decide +kernel
theorem pf_X1_67 {ρ : Type} {x : Fx} {g : Gl} {cw : Gl → Hp → va_W} {nL dR : Nat} {QR : ρ → QT} {cc : ByteArray} {ret : Option FieldType} {pc n : Nat} {L : List (Option Value)} {st : List Value} {h : Hp} {E : Option ρ} (C : Ok x g RX1 cc nL ret) (q0 : Nat) {a : Nat} {fs : List Value} {v : Int32} (he : (cw g h)[q0]? = some (a, .inr (1, fs))) (hs : (cw g h).set q0 (a, .inr (1, fs.set 12 (.int v))) = cw g (up h q0 12 v)) (hlt : (Nat.ble (12 + 1) fs.length) = true) (d : decode cc pc = .ok (.putfield 67, 3)) (hn : pc + 3 = n) (k : J x g cw nL dR QR n L st (up h q0 12 v) E) : J x g cw nL dR QR pc L (.int v :: .ref a :: st) h E := j_put C q0 he rfl vi_1 tyX1 tyX1_ok nmX1 12 (Nat.le_of_ble_eq_true rfl) fl_X1_67 rfl (ty0_X1_12) (⟨rfl, rfl⟩) (Nat.le_of_ble_eq_true hlt) hs d hn k
theorem mi_X1_passes : MI yX1_passes cX1_passes 6 (some .boolean) 4 := ⟨gT_in (tb2 (List.mem_of_getElem? (i := 159) rfl)) rfl, gT_in (tb1 (List.mem_of_getElem? (i := 2) rfl)) rfl, by decide +kernel⟩
theorem iv_X1_passes : Cond.instanceMethod yX1_passes ∈ gT ∧ Cond.selects RX1 yX1_passes yX1_passes ∈ gT := ⟨gT_in (tb2 (List.mem_of_getElem? (i := 157) rfl)) rfl, gT_in (tb2 (List.mem_of_getElem? (i := 158) rfl)) rfl⟩
theorem lm_X1_118 : Cond.methodLink RX1 118 yX1_passes ∈ gT := gT_in (tb2 (List.mem_of_getElem? (i := 156) rfl)) rfl
theorem lm_X1_134 : Cond.methodLink RX1 134 yX1_sighted ∈ gT := gT_in (tb2 (List.mem_of_getElem? (i := 173) rfl)) rfl
theorem kc_J6_265 : Cond.constant RJ6 265 (1431655765 : Int32) ∈ gT := gT_in (tb2 (List.mem_of_getElem? (i := 83) rfl)) rfl
theorem kc_J6_266 : Cond.constant RJ6 266 (858993459 : Int32) ∈ gT := gT_in (tb2 (List.mem_of_getElem? (i := 84) rfl)) rfl
theorem kc_J6_267 : Cond.constant RJ6 267 (252645135 : Int32) ∈ gT := gT_in (tb2 (List.mem_of_getElem? (i := 85) rfl)) rfl
theorem bp_63 : (Int8.ofInt (63)).toInt32 = (63 : Int32) := by decide
theorem lm_X1_101 : Cond.methodLink RX1 101 yX1_likeness ∈ gT := gT_in (tb2 (List.mem_of_getElem? (i := 183) rfl)) rfl
theorem lm_X1_109 : Cond.methodLink RX1 109 yX1_visitorsIn ∈ gT := gT_in (tb2 (List.mem_of_getElem? (i := 188) rfl)) rfl
theorem mi_X0_survey : MI yX0_survey cX0_survey 5 none 1 := ⟨gT_in (tb2 (List.mem_of_getElem? (i := 200) rfl)) rfl, gT_in (tb1 (List.mem_of_getElem? (i := 4) rfl)) rfl, by decide +kernel⟩
theorem iv_X0_survey : Cond.instanceMethod yX0_survey ∈ gT ∧ Cond.selects RX0 yX0_survey yX0_survey ∈ gT := ⟨gT_in (tb2 (List.mem_of_getElem? (i := 199) rfl)) rfl, gT_in (List.mem_append_left _ (List.mem_of_getElem? (i := 1) rfl)) rfl⟩
theorem lm_X0_18 : Cond.methodLink RX0 18 yX0_survey ∈ gT := gT_in (tb2 (List.mem_of_getElem? (i := 197) rfl)) rfl
theorem fl_X0_22 : Cond.fieldLink RX0 22 "SameHeads$Givings" "rooms" "I" ∈ gT := gT_in (tb1 (List.mem_of_getElem? (i := 117) rfl)) rfl
theorem gf_X0_22 {ρ : Type} {x : Fx} {g : Gl} {cw : Gl → Hp → va_W} {nL dR : Nat} {QR : ρ → QT} {cc : ByteArray} {ret : Option FieldType} {pc n : Nat} {L : List (Option Value)} {st : List Value} {h : Hp} {E : Option ρ} (C : Ok x g RX0 cc nL ret) (q0 : Nat) {a : Nat} {fs : List Value} (he : (cw g h)[q0]? = some (a, .inr (0, fs))) {v : Value} (hv : fs[3]? = some v) (d : decode cc pc = .ok (.getfield 22, 3)) (hn : pc + 3 = n) (k : J x g cw nL dR QR n L (v :: st) h E) : J x g cw nL dR QR pc L (.ref a :: st) h E := j_get C q0 he rfl vi_0 3 (Nat.le_of_ble_eq_true rfl) fl_X0_22 hv d hn k
theorem fl_X0_26 : Cond.fieldLink RX0 26 "SameHeads$Givings" "heads" "I" ∈ gT := gT_in (tb1 (List.mem_of_getElem? (i := 116) rfl)) rfl
theorem gf_X0_26 {ρ : Type} {x : Fx} {g : Gl} {cw : Gl → Hp → va_W} {nL dR : Nat} {QR : ρ → QT} {cc : ByteArray} {ret : Option FieldType} {pc n : Nat} {L : List (Option Value)} {st : List Value} {h : Hp} {E : Option ρ} (C : Ok x g RX0 cc nL ret) (q0 : Nat) {a : Nat} {fs : List Value} (he : (cw g h)[q0]? = some (a, .inr (0, fs))) {v : Value} (hv : fs[2]? = some v) (d : decode cc pc = .ok (.getfield 26, 3)) (hn : pc + 3 = n) (k : J x g cw nL dR QR n L (v :: st) h E) : J x g cw nL dR QR pc L (.ref a :: st) h E := j_get C q0 he rfl vi_0 2 (Nat.le_of_ble_eq_true rfl) fl_X0_26 hv d hn k
theorem mi_X0_fill : MI yX0_fill cX0_fill 4 (some .int) 2 := ⟨gT_in (tb2 (List.mem_of_getElem? (i := 219) rfl)) rfl, gT_in (tb1 (List.mem_of_getElem? (i := 4) rfl)) rfl, by decide +kernel⟩
theorem iv_X0_fill : Cond.instanceMethod yX0_fill ∈ gT ∧ Cond.selects RX0 yX0_fill yX0_fill ∈ gT := ⟨gT_in (tb2 (List.mem_of_getElem? (i := 218) rfl)) rfl, gT_in (List.mem_append_left _ (List.mem_of_getElem? (i := 2) rfl)) rfl⟩
theorem lm_X0_29 : Cond.methodLink RX0 29 yX0_fill ∈ gT := gT_in (tb2 (List.mem_of_getElem? (i := 216) rfl)) rfl
theorem ty0_X0_3 : parseFieldDescriptor (TX0 3).2.2.1 = some .int := by decide +kernel
theorem pf_X0_22 {ρ : Type} {x : Fx} {g : Gl} {cw : Gl → Hp → va_W} {nL dR : Nat} {QR : ρ → QT} {cc : ByteArray} {ret : Option FieldType} {pc n : Nat} {L : List (Option Value)} {st : List Value} {h : Hp} {E : Option ρ} (C : Ok x g RX0 cc nL ret) (q0 : Nat) {a : Nat} {fs : List Value} {v : Int32} (he : (cw g h)[q0]? = some (a, .inr (0, fs))) (hs : (cw g h).set q0 (a, .inr (0, fs.set 3 (.int v))) = cw g (up h q0 3 v)) (hlt : (Nat.ble (3 + 1) fs.length) = true) (d : decode cc pc = .ok (.putfield 22, 3)) (hn : pc + 3 = n) (k : J x g cw nL dR QR n L st (up h q0 3 v) E) : J x g cw nL dR QR pc L (.int v :: .ref a :: st) h E := j_put C q0 he rfl vi_0 tyX0 tyX0_ok nmX0 3 (Nat.le_of_ble_eq_true rfl) fl_X0_22 rfl (ty0_X0_3) (⟨rfl, rfl⟩) (Nat.le_of_ble_eq_true hlt) hs d hn k
theorem mi_X0_firstHead : MI yX0_firstHead cX0_firstHead 5 (some .int) 2 := ⟨gT_in (tb3 (List.mem_of_getElem? (i := 1) rfl)) rfl, gT_in (tb1 (List.mem_of_getElem? (i := 4) rfl)) rfl, by decide +kernel⟩
theorem iv_X0_firstHead : Cond.instanceMethod yX0_firstHead ∈ gT ∧ Cond.selects RX0 yX0_firstHead yX0_firstHead ∈ gT := ⟨gT_in (tb3 (List.mem_of_getElem? (i := 0) rfl)) rfl, gT_in (List.mem_append_left _ (List.mem_of_getElem? (i := 5) rfl)) rfl⟩
theorem lm_X0_33 : Cond.methodLink RX0 33 yX0_firstHead ∈ gT := gT_in (tb2 (List.mem_of_getElem? (i := 238) rfl)) rfl
theorem ty0_X0_2 : parseFieldDescriptor (TX0 2).2.2.1 = some .int := by decide +kernel
theorem pf_X0_26 {ρ : Type} {x : Fx} {g : Gl} {cw : Gl → Hp → va_W} {nL dR : Nat} {QR : ρ → QT} {cc : ByteArray} {ret : Option FieldType} {pc n : Nat} {L : List (Option Value)} {st : List Value} {h : Hp} {E : Option ρ} (C : Ok x g RX0 cc nL ret) (q0 : Nat) {a : Nat} {fs : List Value} {v : Int32} (he : (cw g h)[q0]? = some (a, .inr (0, fs))) (hs : (cw g h).set q0 (a, .inr (0, fs.set 2 (.int v))) = cw g (up h q0 2 v)) (hlt : (Nat.ble (2 + 1) fs.length) = true) (d : decode cc pc = .ok (.putfield 26, 3)) (hn : pc + 3 = n) (k : J x g cw nL dR QR n L st (up h q0 2 v) E) : J x g cw nL dR QR pc L (.int v :: .ref a :: st) h E := j_put C q0 he rfl vi_0 tyX0 tyX0_ok nmX0 2 (Nat.le_of_ble_eq_true rfl) fl_X0_26 rfl (ty0_X0_2) (⟨rfl, rfl⟩) (Nat.le_of_ble_eq_true hlt) hs d hn k
theorem fl_X0_9 : Cond.fieldLink RX0 9 "SameHeads$Givings" "rate" "[I" ∈ gT := gT_in (tb1 (List.mem_of_getElem? (i := 114) rfl)) rfl
theorem gf_X0_9 {ρ : Type} {x : Fx} {g : Gl} {cw : Gl → Hp → va_W} {nL dR : Nat} {QR : ρ → QT} {cc : ByteArray} {ret : Option FieldType} {pc n : Nat} {L : List (Option Value)} {st : List Value} {h : Hp} {E : Option ρ} (C : Ok x g RX0 cc nL ret) (q0 : Nat) {a : Nat} {fs : List Value} (he : (cw g h)[q0]? = some (a, .inr (0, fs))) {v : Value} (hv : fs[0]? = some v) (d : decode cc pc = .ok (.getfield 9, 3)) (hn : pc + 3 = n) (k : J x g cw nL dR QR n L (v :: st) h E) : J x g cw nL dR QR pc L (.ref a :: st) h E := j_get C q0 he rfl vi_0 0 (Nat.le_of_ble_eq_true rfl) fl_X0_9 hv d hn k
theorem lm_X1_76 : Cond.methodLink RX1 76 yX2_isUnder ∈ gT := gT_in (tb2 (List.mem_of_getElem? (i := 209) rfl)) rfl
theorem fl_X0_36 : Cond.fieldLink RX0 36 "SameHeads$House" "kind" "[I" ∈ gT := gT_in (tb1 (List.mem_of_getElem? (i := 36) rfl)) rfl
theorem gf_X0_36 {ρ : Type} {x : Fx} {g : Gl} {cw : Gl → Hp → va_W} {nL dR : Nat} {QR : ρ → QT} {cc : ByteArray} {ret : Option FieldType} {pc n : Nat} {L : List (Option Value)} {st : List Value} {h : Hp} {E : Option ρ} (C : Ok x g RX0 cc nL ret) (q0 : Nat) {a : Nat} {fs : List Value} (he : (cw g h)[q0]? = some (a, .inr (1, fs))) {v : Value} (hv : fs[0]? = some v) (d : decode cc pc = .ok (.getfield 36, 3)) (hn : pc + 3 = n) (k : J x g cw nL dR QR n L (v :: st) h E) : J x g cw nL dR QR pc L (.ref a :: st) h E := j_get C q0 he rfl vi_1 0 (Nat.le_of_ble_eq_true rfl) fl_X0_36 hv d hn k
theorem mi_X0_worthWith : MI yX0_worthWith cX0_worthWith 8 (some .int) 3 := ⟨gT_in (tb3 (List.mem_of_getElem? (i := 40) rfl)) rfl, gT_in (tb1 (List.mem_of_getElem? (i := 4) rfl)) rfl, by decide +kernel⟩
theorem iv_X0_worthWith : Cond.instanceMethod yX0_worthWith ∈ gT ∧ Cond.selects RX0 yX0_worthWith yX0_worthWith ∈ gT := ⟨gT_in (tb3 (List.mem_of_getElem? (i := 39) rfl)) rfl, gT_in (List.mem_append_left _ (List.mem_of_getElem? (i := 6) rfl)) rfl⟩
theorem lm_X0_41 : Cond.methodLink RX0 41 yX0_worthWith ∈ gT := gT_in (tb3 (List.mem_of_getElem? (i := 37) rfl)) rfl
theorem fl_X0_47 : Cond.fieldLink RX0 47 "SameHeads$House" "looks" "[I" ∈ gT := gT_in (tb1 (List.mem_of_getElem? (i := 39) rfl)) rfl
theorem gf_X0_47 {ρ : Type} {x : Fx} {g : Gl} {cw : Gl → Hp → va_W} {nL dR : Nat} {QR : ρ → QT} {cc : ByteArray} {ret : Option FieldType} {pc n : Nat} {L : List (Option Value)} {st : List Value} {h : Hp} {E : Option ρ} (C : Ok x g RX0 cc nL ret) (q0 : Nat) {a : Nat} {fs : List Value} (he : (cw g h)[q0]? = some (a, .inr (1, fs))) {v : Value} (hv : fs[1]? = some v) (d : decode cc pc = .ok (.getfield 47, 3)) (hn : pc + 3 = n) (k : J x g cw nL dR QR n L (v :: st) h E) : J x g cw nL dR QR pc L (.ref a :: st) h E := j_get C q0 he rfl vi_1 1 (Nat.le_of_ble_eq_true rfl) fl_X0_47 hv d hn k
theorem kc_X1_137 : Cond.constant RX1 137 (1000000 : Int32) ∈ gT := gT_in (tb3 (List.mem_of_getElem? (i := 59) rfl)) rfl
theorem lm_X1_112 : Cond.methodLink RX1 112 Lib.Math.max.name ∈ gT := gT_in (tb2 (List.mem_of_getElem? (i := 160) rfl)) rfl
theorem fl_X1_27 : Cond.fieldLink RX1 27 "SameHeads$House" "chance" "[I" ∈ gT := gT_in (tb1 (List.mem_of_getElem? (i := 51) rfl)) rfl
theorem gf_X1_27 {ρ : Type} {x : Fx} {g : Gl} {cw : Gl → Hp → va_W} {nL dR : Nat} {QR : ρ → QT} {cc : ByteArray} {ret : Option FieldType} {pc n : Nat} {L : List (Option Value)} {st : List Value} {h : Hp} {E : Option ρ} (C : Ok x g RX1 cc nL ret) (q0 : Nat) {a : Nat} {fs : List Value} (he : (cw g h)[q0]? = some (a, .inr (1, fs))) {v : Value} (hv : fs[5]? = some v) (d : decode cc pc = .ok (.getfield 27, 3)) (hn : pc + 3 = n) (k : J x g cw nL dR QR n L (v :: st) h E) : J x g cw nL dR QR pc L (.ref a :: st) h E := j_get C q0 he rfl vi_1 5 (Nat.le_of_ble_eq_true rfl) fl_X1_27 hv d hn k
theorem bp_100 : (Int8.ofInt (100)).toInt32 = (100 : Int32) := by decide
theorem lm_X1_141 : Cond.methodLink RX1 141 yX1_cutCost ∈ gT := gT_in (tb3 (List.mem_of_getElem? (i := 99) rfl)) rfl
theorem mi_X2_unlike : MI yX2_unlike cX2_unlike 2 (some .int) 2 := ⟨gT_in (tb2 (List.mem_of_getElem? (i := 79) rfl)) rfl, gT_in (tb1 (List.mem_of_getElem? (i := 10) rfl)) rfl, by decide +kernel⟩
theorem st_X2_unlike : Cond.static yX2_unlike ∈ gT := gT_in (tb2 (List.mem_of_getElem? (i := 78) rfl)) rfl
theorem lm_X1_138 : Cond.methodLink RX1 138 yX2_unlike ∈ gT := gT_in (tb3 (List.mem_of_getElem? (i := 103) rfl)) rfl
theorem fl_X4_15 : Cond.fieldLink RX4 15 "SameHeads$Sheet" "bits" "I" ∈ gT := gT_in (tb1 (List.mem_of_getElem? (i := 195) rfl)) rfl
theorem gf_X4_15 {ρ : Type} {x : Fx} {g : Gl} {cw : Gl → Hp → va_W} {nL dR : Nat} {QR : ρ → QT} {cc : ByteArray} {ret : Option FieldType} {pc n : Nat} {L : List (Option Value)} {st : List Value} {h : Hp} {E : Option ρ} (C : Ok x g RX4 cc nL ret) (q0 : Nat) {a : Nat} {fs : List Value} (he : (cw g h)[q0]? = some (a, .inr (3, fs))) {v : Value} (hv : fs[1]? = some v) (d : decode cc pc = .ok (.getfield 15, 3)) (hn : pc + 3 = n) (k : J x g cw nL dR QR n L (v :: st) h E) : J x g cw nL dR QR pc L (.ref a :: st) h E := j_get C q0 he rfl vi_3 1 (Nat.le_of_ble_eq_true rfl) fl_X4_15 hv d hn k
theorem mi_X6_survey : MI yX6_survey cX6_survey 5 none 2 := ⟨gT_in (tb3 (List.mem_of_getElem? (i := 128) rfl)) rfl, gT_in (tb1 (List.mem_of_getElem? (i := 5) rfl)) rfl, by decide +kernel⟩
theorem iv_X6_survey : Cond.instanceMethod yX6_survey ∈ gT ∧ Cond.selects RX6 yX6_survey yX6_survey ∈ gT := ⟨gT_in (tb3 (List.mem_of_getElem? (i := 127) rfl)) rfl, gT_in (List.mem_append_left _ (List.mem_of_getElem? (i := 7) rfl)) rfl⟩
theorem lm_X6_18 : Cond.methodLink RX6 18 yX6_survey ∈ gT := gT_in (tb3 (List.mem_of_getElem? (i := 125) rfl)) rfl
theorem mi_X6_facesOf : MI yX6_facesOf cX6_facesOf 1 (some .int) 1 := ⟨gT_in (tb3 (List.mem_of_getElem? (i := 134) rfl)) rfl, gT_in (tb1 (List.mem_of_getElem? (i := 5) rfl)) rfl, by decide +kernel⟩
theorem st_X6_facesOf : Cond.static yX6_facesOf ∈ gT := gT_in (tb3 (List.mem_of_getElem? (i := 133) rfl)) rfl
theorem lm_X6_22 : Cond.methodLink RX6 22 yX6_facesOf ∈ gT := gT_in (tb3 (List.mem_of_getElem? (i := 132) rfl)) rfl
theorem mi_X6_waysFor : MI yX6_waysFor cX6_waysFor 4 (some .int) 2 := ⟨gT_in (tb3 (List.mem_of_getElem? (i := 139) rfl)) rfl, gT_in (tb1 (List.mem_of_getElem? (i := 5) rfl)) rfl, by decide +kernel⟩
theorem iv_X6_waysFor : Cond.instanceMethod yX6_waysFor ∈ gT ∧ Cond.selects RX6 yX6_waysFor yX6_waysFor ∈ gT := ⟨gT_in (tb3 (List.mem_of_getElem? (i := 138) rfl)) rfl, gT_in (List.mem_append_left _ (List.mem_of_getElem? (i := 8) rfl)) rfl⟩
theorem lm_X6_26 : Cond.methodLink RX6 26 yX6_waysFor ∈ gT := gT_in (tb3 (List.mem_of_getElem? (i := 136) rfl)) rfl
theorem fl_X6_9 : Cond.fieldLink RX6 9 "SameHeads$Tellings" "told" "[I" ∈ gT := gT_in (tb1 (List.mem_of_getElem? (i := 133) rfl)) rfl
theorem gf_X6_9 {ρ : Type} {x : Fx} {g : Gl} {cw : Gl → Hp → va_W} {nL dR : Nat} {QR : ρ → QT} {cc : ByteArray} {ret : Option FieldType} {pc n : Nat} {L : List (Option Value)} {st : List Value} {h : Hp} {E : Option ρ} (C : Ok x g RX6 cc nL ret) (q0 : Nat) {a : Nat} {fs : List Value} (he : (cw g h)[q0]? = some (a, .inr (5, fs))) {v : Value} (hv : fs[0]? = some v) (d : decode cc pc = .ok (.getfield 9, 3)) (hn : pc + 3 = n) (k : J x g cw nL dR QR n L (v :: st) h E) : J x g cw nL dR QR pc L (.ref a :: st) h E := j_get C q0 he rfl vi_5 0 (Nat.le_of_ble_eq_true rfl) fl_X6_9 hv d hn k
theorem lm_X1_144 : Cond.methodLink RX1 144 yX1_isHead ∈ gT := gT_in (tb3 (List.mem_of_getElem? (i := 160) rfl)) rfl
theorem fl_X1_46 : Cond.fieldLink RX1 46 "SameHeads$House" "z" "I" ∈ gT := gT_in (tb1 (List.mem_of_getElem? (i := 74) rfl)) rfl
theorem gf_X1_46 {ρ : Type} {x : Fx} {g : Gl} {cw : Gl → Hp → va_W} {nL dR : Nat} {QR : ρ → QT} {cc : ByteArray} {ret : Option FieldType} {pc n : Nat} {L : List (Option Value)} {st : List Value} {h : Hp} {E : Option ρ} (C : Ok x g RX1 cc nL ret) (q0 : Nat) {a : Nat} {fs : List Value} (he : (cw g h)[q0]? = some (a, .inr (1, fs))) {v : Value} (hv : fs[14]? = some v) (d : decode cc pc = .ok (.getfield 46, 3)) (hn : pc + 3 = n) (k : J x g cw nL dR QR n L (v :: st) h E) : J x g cw nL dR QR pc L (.ref a :: st) h E := j_get C q0 he rfl vi_1 14 (Nat.le_of_ble_eq_true rfl) fl_X1_46 hv d hn k
theorem kc_X1_147 : Cond.constant RX1 147 (1103515245 : Int32) ∈ gT := gT_in (tb3 (List.mem_of_getElem? (i := 173) rfl)) rfl
theorem sp_12345 : (Int16.ofInt (12345)).toInt32 = (12345 : Int32) := by decide
theorem pf_X1_46 {ρ : Type} {x : Fx} {g : Gl} {cw : Gl → Hp → va_W} {nL dR : Nat} {QR : ρ → QT} {cc : ByteArray} {ret : Option FieldType} {pc n : Nat} {L : List (Option Value)} {st : List Value} {h : Hp} {E : Option ρ} (C : Ok x g RX1 cc nL ret) (q0 : Nat) {a : Nat} {fs : List Value} {v : Int32} (he : (cw g h)[q0]? = some (a, .inr (1, fs))) (hs : (cw g h).set q0 (a, .inr (1, fs.set 14 (.int v))) = cw g (up h q0 14 v)) (hlt : (Nat.ble (14 + 1) fs.length) = true) (d : decode cc pc = .ok (.putfield 46, 3)) (hn : pc + 3 = n) (k : J x g cw nL dR QR n L st (up h q0 14 v) E) : J x g cw nL dR QR pc L (.int v :: .ref a :: st) h E := j_put C q0 he rfl vi_1 tyX1 tyX1_ok nmX1 14 (Nat.le_of_ble_eq_true rfl) fl_X1_46 rfl (ty0_X1_14) (⟨rfl, rfl⟩) (Nat.le_of_ble_eq_true hlt) hs d hn k
theorem fl_X5_9 : Cond.fieldLink RX5 9 "SameHeads$Tape" "bytes" "[B" ∈ gT := gT_in (tb1 (List.mem_of_getElem? (i := 146) rfl)) rfl
theorem gf_X5_9 {ρ : Type} {x : Fx} {g : Gl} {cw : Gl → Hp → va_W} {nL dR : Nat} {QR : ρ → QT} {cc : ByteArray} {ret : Option FieldType} {pc n : Nat} {L : List (Option Value)} {st : List Value} {h : Hp} {E : Option ρ} (C : Ok x g RX5 cc nL ret) (q0 : Nat) {a : Nat} {fs : List Value} (he : (cw g h)[q0]? = some (a, .inr (4, fs))) {v : Value} (hv : fs[0]? = some v) (d : decode cc pc = .ok (.getfield 9, 3)) (hn : pc + 3 = n) (k : J x g cw nL dR QR n L (v :: st) h E) : J x g cw nL dR QR pc L (.ref a :: st) h E := j_get C q0 he rfl vi_4 0 (Nat.le_of_ble_eq_true rfl) fl_X5_9 hv d hn k
theorem fl_X5_15 : Cond.fieldLink RX5 15 "SameHeads$Tape" "length" "I" ∈ gT := gT_in (tb1 (List.mem_of_getElem? (i := 148) rfl)) rfl
theorem gf_X5_15 {ρ : Type} {x : Fx} {g : Gl} {cw : Gl → Hp → va_W} {nL dR : Nat} {QR : ρ → QT} {cc : ByteArray} {ret : Option FieldType} {pc n : Nat} {L : List (Option Value)} {st : List Value} {h : Hp} {E : Option ρ} (C : Ok x g RX5 cc nL ret) (q0 : Nat) {a : Nat} {fs : List Value} (he : (cw g h)[q0]? = some (a, .inr (4, fs))) {v : Value} (hv : fs[1]? = some v) (d : decode cc pc = .ok (.getfield 15, 3)) (hn : pc + 3 = n) (k : J x g cw nL dR QR n L (v :: st) h E) : J x g cw nL dR QR pc L (.ref a :: st) h E := j_get C q0 he rfl vi_4 1 (Nat.le_of_ble_eq_true rfl) fl_X5_15 hv d hn k
theorem pf_X5_15 {ρ : Type} {x : Fx} {g : Gl} {cw : Gl → Hp → va_W} {nL dR : Nat} {QR : ρ → QT} {cc : ByteArray} {ret : Option FieldType} {pc n : Nat} {L : List (Option Value)} {st : List Value} {h : Hp} {E : Option ρ} (C : Ok x g RX5 cc nL ret) (q0 : Nat) {a : Nat} {fs : List Value} {v : Int32} (he : (cw g h)[q0]? = some (a, .inr (4, fs))) (hs : (cw g h).set q0 (a, .inr (4, fs.set 1 (.int v))) = cw g (up h q0 1 v)) (hlt : (Nat.ble (1 + 1) fs.length) = true) (d : decode cc pc = .ok (.putfield 15, 3)) (hn : pc + 3 = n) (k : J x g cw nL dR QR n L st (up h q0 1 v) E) : J x g cw nL dR QR pc L (.int v :: .ref a :: st) h E := j_put C q0 he rfl vi_4 tyX5 tyX5_ok nmX5 1 (Nat.le_of_ble_eq_true rfl) fl_X5_15 rfl (ty0_X5_1) (⟨rfl, rfl⟩) (Nat.le_of_ble_eq_true hlt) hs d hn k
theorem lm_X1_55 : Cond.methodLink RX1 55 arraycopyName ∈ gT := gT_in (tb3 (List.mem_of_getElem? (i := 198) rfl)) rfl
theorem fl_X1_39 : Cond.fieldLink RX1 39 "SameHeads$House" "held" "[I" ∈ gT := gT_in (tb1 (List.mem_of_getElem? (i := 60) rfl)) rfl
theorem gf_X1_39 {ρ : Type} {x : Fx} {g : Gl} {cw : Gl → Hp → va_W} {nL dR : Nat} {QR : ρ → QT} {cc : ByteArray} {ret : Option FieldType} {pc n : Nat} {L : List (Option Value)} {st : List Value} {h : Hp} {E : Option ρ} (C : Ok x g RX1 cc nL ret) (q0 : Nat) {a : Nat} {fs : List Value} (he : (cw g h)[q0]? = some (a, .inr (1, fs))) {v : Value} (hv : fs[9]? = some v) (d : decode cc pc = .ok (.getfield 39, 3)) (hn : pc + 3 = n) (k : J x g cw nL dR QR n L (v :: st) h E) : J x g cw nL dR QR pc L (.ref a :: st) h E := j_get C q0 he rfl vi_1 9 (Nat.le_of_ble_eq_true rfl) fl_X1_39 hv d hn k
theorem pf_X1_42 {ρ : Type} {x : Fx} {g : Gl} {cw : Gl → Hp → va_W} {nL dR : Nat} {QR : ρ → QT} {cc : ByteArray} {ret : Option FieldType} {pc n : Nat} {L : List (Option Value)} {st : List Value} {h : Hp} {E : Option ρ} (C : Ok x g RX1 cc nL ret) (q0 : Nat) {a : Nat} {fs : List Value} {v : Int32} (he : (cw g h)[q0]? = some (a, .inr (1, fs))) (hs : (cw g h).set q0 (a, .inr (1, fs.set 13 (.int v))) = cw g (up h q0 13 v)) (hlt : (Nat.ble (13 + 1) fs.length) = true) (d : decode cc pc = .ok (.putfield 42, 3)) (hn : pc + 3 = n) (k : J x g cw nL dR QR n L st (up h q0 13 v) E) : J x g cw nL dR QR pc L (.int v :: .ref a :: st) h E := j_put C q0 he rfl vi_1 tyX1 tyX1_ok nmX1 13 (Nat.le_of_ble_eq_true rfl) fl_X1_42 rfl (ty0_X1_13) (⟨rfl, rfl⟩) (Nat.le_of_ble_eq_true hlt) hs d hn k
theorem mi_X3_cut : MI yX3_cut cX3_cut 5 none 0 := ⟨gT_in (tb3 (List.mem_of_getElem? (i := 208) rfl)) rfl, gT_in (tb1 (List.mem_of_getElem? (i := 7) rfl)) rfl, by decide +kernel⟩
theorem iv_X3_cut : Cond.instanceMethod yX3_cut ∈ gT ∧ Cond.selects RX3 yX3_cut yX3_cut ∈ gT := ⟨gT_in (tb3 (List.mem_of_getElem? (i := 207) rfl)) rfl, gT_in (List.mem_append_left _ (List.mem_of_getElem? (i := 10) rfl)) rfl⟩
theorem lm_X3_29 : Cond.methodLink RX3 29 yX3_cut ∈ gT := gT_in (tb3 (List.mem_of_getElem? (i := 205) rfl)) rfl
theorem fl_X3_32 : Cond.fieldLink RX3 32 "SameHeads$Reader" "at" "I" ∈ gT := gT_in (tb1 (List.mem_of_getElem? (i := 169) rfl)) rfl
theorem ty0_X3_6 : parseFieldDescriptor (TX3 6).2.2.1 = some .int := by decide +kernel
theorem pf_X3_32 {ρ : Type} {x : Fx} {g : Gl} {cw : Gl → Hp → va_W} {nL dR : Nat} {QR : ρ → QT} {cc : ByteArray} {ret : Option FieldType} {pc n : Nat} {L : List (Option Value)} {st : List Value} {h : Hp} {E : Option ρ} (C : Ok x g RX3 cc nL ret) (q0 : Nat) {a : Nat} {fs : List Value} {v : Int32} (he : (cw g h)[q0]? = some (a, .inr (2, fs))) (hs : (cw g h).set q0 (a, .inr (2, fs.set 6 (.int v))) = cw g (up h q0 6 v)) (hlt : (Nat.ble (6 + 1) fs.length) = true) (d : decode cc pc = .ok (.putfield 32, 3)) (hn : pc + 3 = n) (k : J x g cw nL dR QR n L st (up h q0 6 v) E) : J x g cw nL dR QR pc L (.int v :: .ref a :: st) h E := j_put C q0 he rfl vi_2 tyX3 tyX3_ok nmX3 6 (Nat.le_of_ble_eq_true rfl) fl_X3_32 rfl (ty0_X3_6) (⟨rfl, rfl⟩) (Nat.le_of_ble_eq_true hlt) hs d hn k
theorem fl_X3_15 : Cond.fieldLink RX3 15 "SameHeads$Reader" "start" "[I" ∈ gT := gT_in (tb1 (List.mem_of_getElem? (i := 166) rfl)) rfl
theorem gf_X3_15 {ρ : Type} {x : Fx} {g : Gl} {cw : Gl → Hp → va_W} {nL dR : Nat} {QR : ρ → QT} {cc : ByteArray} {ret : Option FieldType} {pc n : Nat} {L : List (Option Value)} {st : List Value} {h : Hp} {E : Option ρ} (C : Ok x g RX3 cc nL ret) (q0 : Nat) {a : Nat} {fs : List Value} (he : (cw g h)[q0]? = some (a, .inr (2, fs))) {v : Value} (hv : fs[3]? = some v) (d : decode cc pc = .ok (.getfield 15, 3)) (hn : pc + 3 = n) (k : J x g cw nL dR QR n L (v :: st) h E) : J x g cw nL dR QR pc L (.ref a :: st) h E := j_get C q0 he rfl vi_2 3 (Nat.le_of_ble_eq_true rfl) fl_X3_15 hv d hn k
theorem gf_X3_32 {ρ : Type} {x : Fx} {g : Gl} {cw : Gl → Hp → va_W} {nL dR : Nat} {QR : ρ → QT} {cc : ByteArray} {ret : Option FieldType} {pc n : Nat} {L : List (Option Value)} {st : List Value} {h : Hp} {E : Option ρ} (C : Ok x g RX3 cc nL ret) (q0 : Nat) {a : Nat} {fs : List Value} (he : (cw g h)[q0]? = some (a, .inr (2, fs))) {v : Value} (hv : fs[6]? = some v) (d : decode cc pc = .ok (.getfield 32, 3)) (hn : pc + 3 = n) (k : J x g cw nL dR QR n L (v :: st) h E) : J x g cw nL dR QR pc L (.ref a :: st) h E := j_get C q0 he rfl vi_2 6 (Nat.le_of_ble_eq_true rfl) fl_X3_32 hv d hn k
theorem mi_X3_readItem : MI yX3_readItem cX3_readItem 2 (some .boolean) 0 := ⟨gT_in (tb3 (List.mem_of_getElem? (i := 224) rfl)) rfl, gT_in (tb1 (List.mem_of_getElem? (i := 7) rfl)) rfl, by decide +kernel⟩
theorem iv_X3_readItem : Cond.instanceMethod yX3_readItem ∈ gT ∧ Cond.selects RX3 yX3_readItem yX3_readItem ∈ gT := ⟨gT_in (tb3 (List.mem_of_getElem? (i := 223) rfl)) rfl, gT_in (List.mem_append_left _ (List.mem_of_getElem? (i := 13) rfl)) rfl⟩
theorem lm_X3_36 : Cond.methodLink RX3 36 yX3_readItem ∈ gT := gT_in (tb3 (List.mem_of_getElem? (i := 221) rfl)) rfl
theorem fl_X3_9 : Cond.fieldLink RX3 9 "SameHeads$Reader" "sort" "[I" ∈ gT := gT_in (tb1 (List.mem_of_getElem? (i := 165) rfl)) rfl
theorem gf_X3_9 {ρ : Type} {x : Fx} {g : Gl} {cw : Gl → Hp → va_W} {nL dR : Nat} {QR : ρ → QT} {cc : ByteArray} {ret : Option FieldType} {pc n : Nat} {L : List (Option Value)} {st : List Value} {h : Hp} {E : Option ρ} (C : Ok x g RX3 cc nL ret) (q0 : Nat) {a : Nat} {fs : List Value} (he : (cw g h)[q0]? = some (a, .inr (2, fs))) {v : Value} (hv : fs[2]? = some v) (d : decode cc pc = .ok (.getfield 9, 3)) (hn : pc + 3 = n) (k : J x g cw nL dR QR n L (v :: st) h E) : J x g cw nL dR QR pc L (.ref a :: st) h E := j_get C q0 he rfl vi_2 2 (Nat.le_of_ble_eq_true rfl) fl_X3_9 hv d hn k
theorem bp_9 : (Int8.ofInt (9)).toInt32 = (9 : Int32) := by decide
theorem fl_X2_11 : Cond.fieldLink RX2 11 "SameHeads$Kinds" "ABOVE" "[I" ∈ gT := gT_in (tb2 (List.mem_of_getElem? (i := 212) rfl)) rfl
theorem of_7 : Int32.ofNat 7 = (7 : Int32) := by decide
theorem fl_X4_9 : Cond.fieldLink RX4 9 "SameHeads$Sheet" "numbers" "[I" ∈ gT := gT_in (tb1 (List.mem_of_getElem? (i := 192) rfl)) rfl
theorem gf_X4_9 {ρ : Type} {x : Fx} {g : Gl} {cw : Gl → Hp → va_W} {nL dR : Nat} {QR : ρ → QT} {cc : ByteArray} {ret : Option FieldType} {pc n : Nat} {L : List (Option Value)} {st : List Value} {h : Hp} {E : Option ρ} (C : Ok x g RX4 cc nL ret) (q0 : Nat) {a : Nat} {fs : List Value} (he : (cw g h)[q0]? = some (a, .inr (3, fs))) {v : Value} (hv : fs[0]? = some v) (d : decode cc pc = .ok (.getfield 9, 3)) (hn : pc + 3 = n) (k : J x g cw nL dR QR n L (v :: st) h E) : J x g cw nL dR QR pc L (.ref a :: st) h E := j_get C q0 he rfl vi_3 0 (Nat.le_of_ble_eq_true rfl) fl_X4_9 hv d hn k
theorem mi_J7_fill_53178 : MI yJ7_fill_53178 cJ7_fill_53178 4 none 2 := ⟨gT_in (tb1 (List.mem_of_getElem? (i := 34) rfl)) rfl, gT_in (tb1 (List.mem_of_getElem? (i := 3) rfl)) rfl, by decide +kernel⟩
theorem st_J7_fill_53178 : Cond.static yJ7_fill_53178 ∈ gT := gT_in (tb1 (List.mem_of_getElem? (i := 33) rfl)) rfl
theorem lm_X4_19 : Cond.methodLink RX4 19 yJ7_fill_53178 ∈ gT := gT_in (tb4 (List.mem_of_getElem? (i := 106) rfl)) rfl
theorem ty0_X4_1 : parseFieldDescriptor (TX4 1).2.2.1 = some .int := by decide +kernel
theorem pf_X4_15 {ρ : Type} {x : Fx} {g : Gl} {cw : Gl → Hp → va_W} {nL dR : Nat} {QR : ρ → QT} {cc : ByteArray} {ret : Option FieldType} {pc n : Nat} {L : List (Option Value)} {st : List Value} {h : Hp} {E : Option ρ} (C : Ok x g RX4 cc nL ret) (q0 : Nat) {a : Nat} {fs : List Value} {v : Int32} (he : (cw g h)[q0]? = some (a, .inr (3, fs))) (hs : (cw g h).set q0 (a, .inr (3, fs.set 1 (.int v))) = cw g (up h q0 1 v)) (hlt : (Nat.ble (1 + 1) fs.length) = true) (d : decode cc pc = .ok (.putfield 15, 3)) (hn : pc + 3 = n) (k : J x g cw nL dR QR n L st (up h q0 1 v) E) : J x g cw nL dR QR pc L (.int v :: .ref a :: st) h E := j_put C q0 he rfl vi_3 tyX4 tyX4_ok nmX4 1 (Nat.le_of_ble_eq_true rfl) fl_X4_15 rfl (ty0_X4_1) (⟨rfl, rfl⟩) (Nat.le_of_ble_eq_true hlt) hs d hn k
theorem fl_X4_25 : Cond.fieldLink RX4 25 "SameHeads$Sheet" "size" "I" ∈ gT := gT_in (tb1 (List.mem_of_getElem? (i := 197) rfl)) rfl
theorem ty0_X4_2 : parseFieldDescriptor (TX4 2).2.2.1 = some .int := by decide +kernel
theorem pf_X4_25 {ρ : Type} {x : Fx} {g : Gl} {cw : Gl → Hp → va_W} {nL dR : Nat} {QR : ρ → QT} {cc : ByteArray} {ret : Option FieldType} {pc n : Nat} {L : List (Option Value)} {st : List Value} {h : Hp} {E : Option ρ} (C : Ok x g RX4 cc nL ret) (q0 : Nat) {a : Nat} {fs : List Value} {v : Int32} (he : (cw g h)[q0]? = some (a, .inr (3, fs))) (hs : (cw g h).set q0 (a, .inr (3, fs.set 2 (.int v))) = cw g (up h q0 2 v)) (hlt : (Nat.ble (2 + 1) fs.length) = true) (d : decode cc pc = .ok (.putfield 25, 3)) (hn : pc + 3 = n) (k : J x g cw nL dR QR n L st (up h q0 2 v) E) : J x g cw nL dR QR pc L (.int v :: .ref a :: st) h E := j_put C q0 he rfl vi_3 tyX4 tyX4_ok nmX4 2 (Nat.le_of_ble_eq_true rfl) fl_X4_25 rfl (ty0_X4_2) (⟨rfl, rfl⟩) (Nat.le_of_ble_eq_true hlt) hs d hn k
theorem gf_X4_25 {ρ : Type} {x : Fx} {g : Gl} {cw : Gl → Hp → va_W} {nL dR : Nat} {QR : ρ → QT} {cc : ByteArray} {ret : Option FieldType} {pc n : Nat} {L : List (Option Value)} {st : List Value} {h : Hp} {E : Option ρ} (C : Ok x g RX4 cc nL ret) (q0 : Nat) {a : Nat} {fs : List Value} (he : (cw g h)[q0]? = some (a, .inr (3, fs))) {v : Value} (hv : fs[2]? = some v) (d : decode cc pc = .ok (.getfield 25, 3)) (hn : pc + 3 = n) (k : J x g cw nL dR QR n L (v :: st) h E) : J x g cw nL dR QR pc L (.ref a :: st) h E := j_get C q0 he rfl vi_3 2 (Nat.le_of_ble_eq_true rfl) fl_X4_25 hv d hn k
theorem ir_0_8 : inR (0 : Int32) 8 = true ∧ ((0 : Int32)).toNatClampNeg = 0 := by decide
theorem bp_33 : (Int8.ofInt (33)).toInt32 = (33 : Int32) := by decide
theorem mi_X8_likeBy : MI yX8_likeBy cX8_likeBy 4 (some .int) 3 := ⟨gT_in (tb5 (List.mem_of_getElem? (i := 95) rfl)) rfl, gT_in (tb1 (List.mem_of_getElem? (i := 9) rfl)) rfl, by decide +kernel⟩
theorem st_X8_likeBy : Cond.static yX8_likeBy ∈ gT := gT_in (tb5 (List.mem_of_getElem? (i := 94) rfl)) rfl
theorem lm_X8_128 : Cond.methodLink RX8 128 yX8_likeBy ∈ gT := gT_in (tb5 (List.mem_of_getElem? (i := 93) rfl)) rfl
theorem lm_X8_147 : Cond.methodLink RX8 147 Lib.Math.abs.name ∈ gT := gT_in (tb5 (List.mem_of_getElem? (i := 124) rfl)) rfl
theorem tabout_2_6 {x1 : Int32} (h2 : ¬ x1 = (2 : Int32)) (h3 : ¬ x1 = (3 : Int32)) (h4 : ¬ x1 = (4 : Int32)) (h5 : ¬ x1 = (5 : Int32)) (h6 : ¬ x1 = (6 : Int32)) : x1.toInt < 2 ∨ 6 < x1.toInt := by
  have e2 : x1.toInt ≠ 2 := fun q => h2 (Int32.toInt_inj.mp q)
  have e3 : x1.toInt ≠ 3 := fun q => h3 (Int32.toInt_inj.mp q)
  have e4 : x1.toInt ≠ 4 := fun q => h4 (Int32.toInt_inj.mp q)
  have e5 : x1.toInt ≠ 5 := fun q => h5 (Int32.toInt_inj.mp q)
  have e6 : x1.toInt ≠ 6 := fun q => h6 (Int32.toInt_inj.mp q)
  omega
theorem bp_77 : (Int8.ofInt (77)).toInt32 = (77 : Int32) := by decide
theorem bp_m2 : (Int8.ofInt (-2)).toInt32 = (-2 : Int32) := by decide
theorem mi_X8_minute : MI yX8_minute cX8_minute 4 none 0 := ⟨gT_in (tb5 (List.mem_of_getElem? (i := 156) rfl)) rfl, gT_in (tb1 (List.mem_of_getElem? (i := 9) rfl)) rfl, by decide +kernel⟩
theorem iv_X8_minute : Cond.instanceMethod yX8_minute ∈ gT ∧ Cond.selects RX8 yX8_minute yX8_minute ∈ gT := ⟨gT_in (tb5 (List.mem_of_getElem? (i := 155) rfl)) rfl, gT_in (List.mem_append_left _ (List.mem_of_getElem? (i := 37) rfl)) rfl⟩
theorem lm_X8_161 : Cond.methodLink RX8 161 yX8_minute ∈ gT := gT_in (tb5 (List.mem_of_getElem? (i := 153) rfl)) rfl
theorem fl_X8_178 : Cond.fieldLink RX8 178 "SameHeadsModel" "lost" "I" ∈ gT := gT_in (tb4 (List.mem_of_getElem? (i := 183) rfl)) rfl
theorem ty0_X8_6 : parseFieldDescriptor (TX8 6).2.2.1 = some .int := by decide +kernel
theorem pf_X8_178 {ρ : Type} {x : Fx} {g : Gl} {cw : Gl → Hp → va_W} {nL dR : Nat} {QR : ρ → QT} {cc : ByteArray} {ret : Option FieldType} {pc n : Nat} {L : List (Option Value)} {st : List Value} {h : Hp} {E : Option ρ} (C : Ok x g RX8 cc nL ret) (q0 : Nat) {a : Nat} {fs : List Value} {v : Int32} (he : (cw g h)[q0]? = some (a, .inr (7, fs))) (hs : (cw g h).set q0 (a, .inr (7, fs.set 6 (.int v))) = cw g (up h q0 6 v)) (hlt : (Nat.ble (6 + 1) fs.length) = true) (d : decode cc pc = .ok (.putfield 178, 3)) (hn : pc + 3 = n) (k : J x g cw nL dR QR n L st (up h q0 6 v) E) : J x g cw nL dR QR pc L (.int v :: .ref a :: st) h E := j_put C q0 he rfl vi_7 tyX8 tyX8_ok nmX8 6 (Nat.le_of_ble_eq_true rfl) fl_X8_178 rfl (ty0_X8_6) (⟨rfl, rfl⟩) (Nat.le_of_ble_eq_true hlt) hs d hn k
theorem mi_X8_noHeads : MI yX8_noHeads cX8_noHeads 3 (some .int) 0 := ⟨gT_in (tb5 (List.mem_of_getElem? (i := 184) rfl)) rfl, gT_in (tb1 (List.mem_of_getElem? (i := 9) rfl)) rfl, by decide +kernel⟩
theorem iv_X8_noHeads : Cond.instanceMethod yX8_noHeads ∈ gT ∧ Cond.selects RX8 yX8_noHeads yX8_noHeads ∈ gT := ⟨gT_in (tb5 (List.mem_of_getElem? (i := 183) rfl)) rfl, gT_in (List.mem_append_left _ (List.mem_of_getElem? (i := 41) rfl)) rfl⟩
theorem lm_X8_185 : Cond.methodLink RX8 185 yX8_noHeads ∈ gT := gT_in (tb5 (List.mem_of_getElem? (i := 181) rfl)) rfl
theorem sp_1024 : (Int16.ofInt (1024)).toInt32 = (1024 : Int32) := by decide
theorem fl_X8_22 : Cond.fieldLink RX8 22 "SameHeadsModel" "worths" "[I" ∈ gT := gT_in (tb4 (List.mem_of_getElem? (i := 182) rfl)) rfl
theorem gf_X8_22 {ρ : Type} {x : Fx} {g : Gl} {cw : Gl → Hp → va_W} {nL dR : Nat} {QR : ρ → QT} {cc : ByteArray} {ret : Option FieldType} {pc n : Nat} {L : List (Option Value)} {st : List Value} {h : Hp} {E : Option ρ} (C : Ok x g RX8 cc nL ret) (q0 : Nat) {a : Nat} {fs : List Value} (he : (cw g h)[q0]? = some (a, .inr (7, fs))) {v : Value} (hv : fs[5]? = some v) (d : decode cc pc = .ok (.getfield 22, 3)) (hn : pc + 3 = n) (k : J x g cw nL dR QR n L (v :: st) h E) : J x g cw nL dR QR pc L (.ref a :: st) h E := j_get C q0 he rfl vi_7 5 (Nat.le_of_ble_eq_true rfl) fl_X8_22 hv d hn k
theorem sp_6144 : (Int16.ofInt (6144)).toInt32 = (6144 : Int32) := by decide
theorem mi_X8_has : MI yX8_has cX8_has 2 (some .boolean) 2 := ⟨gT_in (tb5 (List.mem_of_getElem? (i := 101) rfl)) rfl, gT_in (tb1 (List.mem_of_getElem? (i := 9) rfl)) rfl, by decide +kernel⟩
theorem st_X8_has : Cond.static yX8_has ∈ gT := gT_in (tb5 (List.mem_of_getElem? (i := 100) rfl)) rfl
theorem lm_X8_120 : Cond.methodLink RX8 120 yX8_has ∈ gT := gT_in (tb5 (List.mem_of_getElem? (i := 99) rfl)) rfl
theorem gf_X8_178 {ρ : Type} {x : Fx} {g : Gl} {cw : Gl → Hp → va_W} {nL dR : Nat} {QR : ρ → QT} {cc : ByteArray} {ret : Option FieldType} {pc n : Nat} {L : List (Option Value)} {st : List Value} {h : Hp} {E : Option ρ} (C : Ok x g RX8 cc nL ret) (q0 : Nat) {a : Nat} {fs : List Value} (he : (cw g h)[q0]? = some (a, .inr (7, fs))) {v : Value} (hv : fs[6]? = some v) (d : decode cc pc = .ok (.getfield 178, 3)) (hn : pc + 3 = n) (k : J x g cw nL dR QR n L (v :: st) h E) : J x g cw nL dR QR pc L (.ref a :: st) h E := j_get C q0 he rfl vi_7 6 (Nat.le_of_ble_eq_true rfl) fl_X8_178 hv d hn k
theorem fl_X8_16 : Cond.fieldLink RX8 16 "SameHeadsModel" "aside" "[I" ∈ gT := gT_in (tb4 (List.mem_of_getElem? (i := 179) rfl)) rfl
theorem gf_X8_16 {ρ : Type} {x : Fx} {g : Gl} {cw : Gl → Hp → va_W} {nL dR : Nat} {QR : ρ → QT} {cc : ByteArray} {ret : Option FieldType} {pc n : Nat} {L : List (Option Value)} {st : List Value} {h : Hp} {E : Option ρ} (C : Ok x g RX8 cc nL ret) (q0 : Nat) {a : Nat} {fs : List Value} (he : (cw g h)[q0]? = some (a, .inr (7, fs))) {v : Value} (hv : fs[2]? = some v) (d : decode cc pc = .ok (.getfield 16, 3)) (hn : pc + 3 = n) (k : J x g cw nL dR QR n L (v :: st) h E) : J x g cw nL dR QR pc L (.ref a :: st) h E := j_get C q0 he rfl vi_7 2 (Nat.le_of_ble_eq_true rfl) fl_X8_16 hv d hn k
theorem bp_21 : (Int8.ofInt (21)).toInt32 = (21 : Int32) := by decide
theorem mi_X8_cutOf : MI yX8_cutOf cX8_cutOf 3 (some .int) 2 := ⟨gT_in (tb6 (List.mem_of_getElem? (i := 46) rfl)) rfl, gT_in (tb1 (List.mem_of_getElem? (i := 9) rfl)) rfl, by decide +kernel⟩
theorem iv_X8_cutOf : Cond.instanceMethod yX8_cutOf ∈ gT ∧ Cond.selects RX8 yX8_cutOf yX8_cutOf ∈ gT := ⟨gT_in (tb6 (List.mem_of_getElem? (i := 45) rfl)) rfl, gT_in (List.mem_append_left _ (List.mem_of_getElem? (i := 51) rfl)) rfl⟩
theorem lm_X8_218 : Cond.methodLink RX8 218 yX8_cutOf ∈ gT := gT_in (tb6 (List.mem_of_getElem? (i := 43) rfl)) rfl
theorem fl_X8_231 : Cond.fieldLink RX8 231 "SameHeadsModel" "askedFace" "I" ∈ gT := gT_in (tb4 (List.mem_of_getElem? (i := 184) rfl)) rfl
theorem ty0_X8_7 : parseFieldDescriptor (TX8 7).2.2.1 = some .int := by decide +kernel
theorem pf_X8_231 {ρ : Type} {x : Fx} {g : Gl} {cw : Gl → Hp → va_W} {nL dR : Nat} {QR : ρ → QT} {cc : ByteArray} {ret : Option FieldType} {pc n : Nat} {L : List (Option Value)} {st : List Value} {h : Hp} {E : Option ρ} (C : Ok x g RX8 cc nL ret) (q0 : Nat) {a : Nat} {fs : List Value} {v : Int32} (he : (cw g h)[q0]? = some (a, .inr (7, fs))) (hs : (cw g h).set q0 (a, .inr (7, fs.set 7 (.int v))) = cw g (up h q0 7 v)) (hlt : (Nat.ble (7 + 1) fs.length) = true) (d : decode cc pc = .ok (.putfield 231, 3)) (hn : pc + 3 = n) (k : J x g cw nL dR QR n L st (up h q0 7 v) E) : J x g cw nL dR QR pc L (.int v :: .ref a :: st) h E := j_put C q0 he rfl vi_7 tyX8 tyX8_ok nmX8 7 (Nat.le_of_ble_eq_true rfl) fl_X8_231 rfl (ty0_X8_7) (⟨rfl, rfl⟩) (Nat.le_of_ble_eq_true hlt) hs d hn k
theorem ty0_X8_8 : parseFieldDescriptor (TX8 8).2.2.1 = some .int := by decide +kernel
theorem pf_X8_228 {ρ : Type} {x : Fx} {g : Gl} {cw : Gl → Hp → va_W} {nL dR : Nat} {QR : ρ → QT} {cc : ByteArray} {ret : Option FieldType} {pc n : Nat} {L : List (Option Value)} {st : List Value} {h : Hp} {E : Option ρ} (C : Ok x g RX8 cc nL ret) (q0 : Nat) {a : Nat} {fs : List Value} {v : Int32} (he : (cw g h)[q0]? = some (a, .inr (7, fs))) (hs : (cw g h).set q0 (a, .inr (7, fs.set 8 (.int v))) = cw g (up h q0 8 v)) (hlt : (Nat.ble (8 + 1) fs.length) = true) (d : decode cc pc = .ok (.putfield 228, 3)) (hn : pc + 3 = n) (k : J x g cw nL dR QR n L st (up h q0 8 v) E) : J x g cw nL dR QR pc L (.int v :: .ref a :: st) h E := j_put C q0 he rfl vi_7 tyX8 tyX8_ok nmX8 8 (Nat.le_of_ble_eq_true rfl) fl_X8_228 rfl (ty0_X8_8) (⟨rfl, rfl⟩) (Nat.le_of_ble_eq_true hlt) hs d hn k
theorem mi_X8_waysFrom : MI yX8_waysFrom cX8_waysFrom 8 (some .int) 4 := ⟨gT_in (tb6 (List.mem_of_getElem? (i := 67) rfl)) rfl, gT_in (tb1 (List.mem_of_getElem? (i := 9) rfl)) rfl, by decide +kernel⟩
theorem iv_X8_waysFrom : Cond.instanceMethod yX8_waysFrom ∈ gT ∧ Cond.selects RX8 yX8_waysFrom yX8_waysFrom ∈ gT := ⟨gT_in (tb6 (List.mem_of_getElem? (i := 66) rfl)) rfl, gT_in (List.mem_append_left _ (List.mem_of_getElem? (i := 53) rfl)) rfl⟩
theorem lm_X8_225 : Cond.methodLink RX8 225 yX8_waysFrom ∈ gT := gT_in (tb6 (List.mem_of_getElem? (i := 64) rfl)) rfl
theorem kc_X8_247 : Cond.constant RX8 247 (1103515245 : Int32) ∈ gT := gT_in (tb6 (List.mem_of_getElem? (i := 92) rfl)) rfl
theorem gf_X8_254 {ρ : Type} {x : Fx} {g : Gl} {cw : Gl → Hp → va_W} {nL dR : Nat} {QR : ρ → QT} {cc : ByteArray} {ret : Option FieldType} {pc n : Nat} {L : List (Option Value)} {st : List Value} {h : Hp} {E : Option ρ} (C : Ok x g RX8 cc nL ret) (q0 : Nat) {a : Nat} {fs : List Value} (he : (cw g h)[q0]? = some (a, .inr (7, fs))) {v : Value} (hv : fs[12]? = some v) (d : decode cc pc = .ok (.getfield 254, 3)) (hn : pc + 3 = n) (k : J x g cw nL dR QR n L (v :: st) h E) : J x g cw nL dR QR pc L (.ref a :: st) h E := j_get C q0 he rfl vi_7 12 (Nat.le_of_ble_eq_true rfl) fl_X8_254 hv d hn k
theorem ty0_X8_11 : parseFieldDescriptor (TX8 11).2.2.1 = some .int := by decide +kernel
theorem pf_X8_257 {ρ : Type} {x : Fx} {g : Gl} {cw : Gl → Hp → va_W} {nL dR : Nat} {QR : ρ → QT} {cc : ByteArray} {ret : Option FieldType} {pc n : Nat} {L : List (Option Value)} {st : List Value} {h : Hp} {E : Option ρ} (C : Ok x g RX8 cc nL ret) (q0 : Nat) {a : Nat} {fs : List Value} {v : Int32} (he : (cw g h)[q0]? = some (a, .inr (7, fs))) (hs : (cw g h).set q0 (a, .inr (7, fs.set 11 (.int v))) = cw g (up h q0 11 v)) (hlt : (Nat.ble (11 + 1) fs.length) = true) (d : decode cc pc = .ok (.putfield 257, 3)) (hn : pc + 3 = n) (k : J x g cw nL dR QR n L st (up h q0 11 v) E) : J x g cw nL dR QR pc L (.int v :: .ref a :: st) h E := j_put C q0 he rfl vi_7 tyX8 tyX8_ok nmX8 11 (Nat.le_of_ble_eq_true rfl) fl_X8_257 rfl (ty0_X8_11) (⟨rfl, rfl⟩) (Nat.le_of_ble_eq_true hlt) hs d hn k
theorem mi_X8_byteAt : MI yX8_byteAt cX8_byteAt 2 (some .int) 1 := ⟨gT_in (tb6 (List.mem_of_getElem? (i := 116) rfl)) rfl, gT_in (tb1 (List.mem_of_getElem? (i := 9) rfl)) rfl, by decide +kernel⟩
theorem iv_X8_byteAt : Cond.instanceMethod yX8_byteAt ∈ gT ∧ Cond.selects RX8 yX8_byteAt yX8_byteAt ∈ gT := ⟨gT_in (tb6 (List.mem_of_getElem? (i := 115) rfl)) rfl, gT_in (List.mem_append_left _ (List.mem_of_getElem? (i := 57) rfl)) rfl⟩
theorem lm_X8_260 : Cond.methodLink RX8 260 yX8_byteAt ∈ gT := gT_in (tb6 (List.mem_of_getElem? (i := 113) rfl)) rfl
theorem fl_X8_263 : Cond.fieldLink RX8 263 "SameHeadsModel" "value" "I" ∈ gT := gT_in (tb4 (List.mem_of_getElem? (i := 191) rfl)) rfl
theorem ty0_X8_14 : parseFieldDescriptor (TX8 14).2.2.1 = some .int := by decide +kernel
theorem pf_X8_263 {ρ : Type} {x : Fx} {g : Gl} {cw : Gl → Hp → va_W} {nL dR : Nat} {QR : ρ → QT} {cc : ByteArray} {ret : Option FieldType} {pc n : Nat} {L : List (Option Value)} {st : List Value} {h : Hp} {E : Option ρ} (C : Ok x g RX8 cc nL ret) (q0 : Nat) {a : Nat} {fs : List Value} {v : Int32} (he : (cw g h)[q0]? = some (a, .inr (7, fs))) (hs : (cw g h).set q0 (a, .inr (7, fs.set 14 (.int v))) = cw g (up h q0 14 v)) (hlt : (Nat.ble (14 + 1) fs.length) = true) (d : decode cc pc = .ok (.putfield 263, 3)) (hn : pc + 3 = n) (k : J x g cw nL dR QR n L st (up h q0 14 v) E) : J x g cw nL dR QR pc L (.int v :: .ref a :: st) h E := j_put C q0 he rfl vi_7 tyX8 tyX8_ok nmX8 14 (Nat.le_of_ble_eq_true rfl) fl_X8_263 rfl (ty0_X8_14) (⟨rfl, rfl⟩) (Nat.le_of_ble_eq_true hlt) hs d hn k
theorem bp_97 : (Int8.ofInt (97)).toInt32 = (97 : Int32) := by decide
theorem bp_122 : (Int8.ofInt (122)).toInt32 = (122 : Int32) := by decide
theorem bp_48 : (Int8.ofInt (48)).toInt32 = (48 : Int32) := by decide
theorem bp_57 : (Int8.ofInt (57)).toInt32 = (57 : Int32) := by decide
theorem ty0_X8_13 : parseFieldDescriptor (TX8 13).2.2.1 = some .int := by decide +kernel
theorem pf_X8_266 {ρ : Type} {x : Fx} {g : Gl} {cw : Gl → Hp → va_W} {nL dR : Nat} {QR : ρ → QT} {cc : ByteArray} {ret : Option FieldType} {pc n : Nat} {L : List (Option Value)} {st : List Value} {h : Hp} {E : Option ρ} (C : Ok x g RX8 cc nL ret) (q0 : Nat) {a : Nat} {fs : List Value} {v : Int32} (he : (cw g h)[q0]? = some (a, .inr (7, fs))) (hs : (cw g h).set q0 (a, .inr (7, fs.set 13 (.int v))) = cw g (up h q0 13 v)) (hlt : (Nat.ble (13 + 1) fs.length) = true) (d : decode cc pc = .ok (.putfield 266, 3)) (hn : pc + 3 = n) (k : J x g cw nL dR QR n L st (up h q0 13 v) E) : J x g cw nL dR QR pc L (.int v :: .ref a :: st) h E := j_put C q0 he rfl vi_7 tyX8 tyX8_ok nmX8 13 (Nat.le_of_ble_eq_true rfl) fl_X8_266 rfl (ty0_X8_13) (⟨rfl, rfl⟩) (Nat.le_of_ble_eq_true hlt) hs d hn k
theorem sp_1000 : (Int16.ofInt (1000)).toInt32 = (1000 : Int32) := by decide
theorem gf_X8_263 {ρ : Type} {x : Fx} {g : Gl} {cw : Gl → Hp → va_W} {nL dR : Nat} {QR : ρ → QT} {cc : ByteArray} {ret : Option FieldType} {pc n : Nat} {L : List (Option Value)} {st : List Value} {h : Hp} {E : Option ρ} (C : Ok x g RX8 cc nL ret) (q0 : Nat) {a : Nat} {fs : List Value} (he : (cw g h)[q0]? = some (a, .inr (7, fs))) {v : Value} (hv : fs[14]? = some v) (d : decode cc pc = .ok (.getfield 263, 3)) (hn : pc + 3 = n) (k : J x g cw nL dR QR n L (v :: st) h E) : J x g cw nL dR QR pc L (.ref a :: st) h E := j_get C q0 he rfl vi_7 14 (Nat.le_of_ble_eq_true rfl) fl_X8_263 hv d hn k
theorem mi_X8_kindTold : MI yX8_kindTold cX8_kindTold 3 (some .int) 0 := ⟨gT_in (tb6 (List.mem_of_getElem? (i := 124) rfl)) rfl, gT_in (tb1 (List.mem_of_getElem? (i := 9) rfl)) rfl, by decide +kernel⟩
theorem iv_X8_kindTold : Cond.instanceMethod yX8_kindTold ∈ gT ∧ Cond.selects RX8 yX8_kindTold yX8_kindTold ∈ gT := ⟨gT_in (tb6 (List.mem_of_getElem? (i := 123) rfl)) rfl, gT_in (List.mem_append_left _ (List.mem_of_getElem? (i := 59) rfl)) rfl⟩
theorem lm_X8_294 : Cond.methodLink RX8 294 yX8_kindTold ∈ gT := gT_in (tb6 (List.mem_of_getElem? (i := 121) rfl)) rfl
theorem sx_X8_316 : (RX8, 316, "face", 10) ∈ stR := List.mem_of_getElem? (i := 24) rfl
theorem mi_X8_isNext : MI yX8_isNext cX8_isNext 3 (some .boolean) 1 := ⟨gT_in (tb6 (List.mem_of_getElem? (i := 139) rfl)) rfl, gT_in (tb1 (List.mem_of_getElem? (i := 9) rfl)) rfl, by decide +kernel⟩
theorem iv_X8_isNext : Cond.instanceMethod yX8_isNext ∈ gT ∧ Cond.selects RX8 yX8_isNext yX8_isNext ∈ gT := ⟨gT_in (tb6 (List.mem_of_getElem? (i := 138) rfl)) rfl, gT_in (List.mem_append_left _ (List.mem_of_getElem? (i := 62) rfl)) rfl⟩
theorem lm_X8_302 : Cond.methodLink RX8 302 yX8_isNext ∈ gT := gT_in (tb6 (List.mem_of_getElem? (i := 136) rfl)) rfl
theorem sx_X8_320 : (RX8, 320, "show", 12) ∈ stR := List.mem_of_getElem? (i := 26) rfl
theorem sx_X8_322 : (RX8, 322, "pace", 13) ∈ stR := List.mem_of_getElem? (i := 27) rfl
theorem mi_X8_isWord : MI yX8_isWord cX8_isWord 4 (some .boolean) 1 := ⟨gT_in (tb6 (List.mem_of_getElem? (i := 128) rfl)) rfl, gT_in (tb1 (List.mem_of_getElem? (i := 9) rfl)) rfl, by decide +kernel⟩
theorem iv_X8_isWord : Cond.instanceMethod yX8_isWord ∈ gT ∧ Cond.selects RX8 yX8_isWord yX8_isWord ∈ gT := ⟨gT_in (tb6 (List.mem_of_getElem? (i := 127) rfl)) rfl, gT_in (List.mem_append_left _ (List.mem_of_getElem? (i := 60) rfl)) rfl⟩
theorem lm_X8_290 : Cond.methodLink RX8 290 yX8_isWord ∈ gT := gT_in (tb6 (List.mem_of_getElem? (i := 125) rfl)) rfl
theorem mi_X8_number : MI yX8_number cX8_number 4 (some .int) 2 := ⟨gT_in (tb6 (List.mem_of_getElem? (i := 143) rfl)) rfl, gT_in (tb1 (List.mem_of_getElem? (i := 9) rfl)) rfl, by decide +kernel⟩
theorem iv_X8_number : Cond.instanceMethod yX8_number ∈ gT ∧ Cond.selects RX8 yX8_number yX8_number ∈ gT := ⟨gT_in (tb6 (List.mem_of_getElem? (i := 142) rfl)) rfl, gT_in (List.mem_append_left _ (List.mem_of_getElem? (i := 63) rfl)) rfl⟩
theorem lm_X8_305 : Cond.methodLink RX8 305 yX8_number ∈ gT := gT_in (tb6 (List.mem_of_getElem? (i := 140) rfl)) rfl
theorem mi_X8_item : MI yX8_item cX8_item 6 none 4 := ⟨gT_in (tb6 (List.mem_of_getElem? (i := 149) rfl)) rfl, gT_in (tb1 (List.mem_of_getElem? (i := 9) rfl)) rfl, by decide +kernel⟩
theorem iv_X8_item : Cond.instanceMethod yX8_item ∈ gT ∧ Cond.selects RX8 yX8_item yX8_item ∈ gT := ⟨gT_in (tb6 (List.mem_of_getElem? (i := 148) rfl)) rfl, gT_in (List.mem_append_left _ (List.mem_of_getElem? (i := 64) rfl)) rfl⟩
theorem lm_X8_312 : Cond.methodLink RX8 312 yX8_item ∈ gT := gT_in (tb6 (List.mem_of_getElem? (i := 146) rfl)) rfl
theorem bp_11 : (Int8.ofInt (11)).toInt32 = (11 : Int32) := by decide
theorem sx_X8_300 : (RX8, 300, "looks", 7) ∈ stR := List.mem_of_getElem? (i := 21) rfl
theorem sx_X8_318 : (RX8, 318, "chance", 11) ∈ stR := List.mem_of_getElem? (i := 25) rfl
theorem gf_X8_297 {ρ : Type} {x : Fx} {g : Gl} {cw : Gl → Hp → va_W} {nL dR : Nat} {QR : ρ → QT} {cc : ByteArray} {ret : Option FieldType} {pc n : Nat} {L : List (Option Value)} {st : List Value} {h : Hp} {E : Option ρ} (C : Ok x g RX8 cc nL ret) (q0 : Nat) {a : Nat} {fs : List Value} (he : (cw g h)[q0]? = some (a, .inr (7, fs))) {v : Value} (hv : fs[19]? = some v) (d : decode cc pc = .ok (.getfield 297, 3)) (hn : pc + 3 = n) (k : J x g cw nL dR QR n L (v :: st) h E) : J x g cw nL dR QR pc L (.ref a :: st) h E := j_get C q0 he rfl vi_7 19 (Nat.le_of_ble_eq_true rfl) fl_X8_297 hv d hn k
theorem sx_X8_308 : (RX8, 308, "wax", 8) ∈ stR := List.mem_of_getElem? (i := 22) rfl
theorem sx_X8_310 : (RX8, 310, "in", 9) ∈ stR := List.mem_of_getElem? (i := 23) rfl
theorem fl_X8_48 : Cond.fieldLink RX8 48 "SameHeadsModel" "items" "[I" ∈ gT := gT_in (tb4 (List.mem_of_getElem? (i := 194) rfl)) rfl
theorem gf_X8_48 {ρ : Type} {x : Fx} {g : Gl} {cw : Gl → Hp → va_W} {nL dR : Nat} {QR : ρ → QT} {cc : ByteArray} {ret : Option FieldType} {pc n : Nat} {L : List (Option Value)} {st : List Value} {h : Hp} {E : Option ρ} (C : Ok x g RX8 cc nL ret) (q0 : Nat) {a : Nat} {fs : List Value} (he : (cw g h)[q0]? = some (a, .inr (7, fs))) {v : Value} (hv : fs[17]? = some v) (d : decode cc pc = .ok (.getfield 48, 3)) (hn : pc + 3 = n) (k : J x g cw nL dR QR n L (v :: st) h E) : J x g cw nL dR QR pc L (.ref a :: st) h E := j_get C q0 he rfl vi_7 17 (Nat.le_of_ble_eq_true rfl) fl_X8_48 hv d hn k
theorem tabout_10_12 {x1 : Int32} (h10 : ¬ x1 = (10 : Int32)) (h11 : ¬ x1 = (11 : Int32)) (h12 : ¬ x1 = (12 : Int32)) : x1.toInt < 10 ∨ 12 < x1.toInt := by
  have e10 : x1.toInt ≠ 10 := fun q => h10 (Int32.toInt_inj.mp q)
  have e11 : x1.toInt ≠ 11 := fun q => h11 (Int32.toInt_inj.mp q)
  have e12 : x1.toInt ≠ 12 := fun q => h12 (Int32.toInt_inj.mp q)
  omega
theorem mi_X8_above : MI yX8_above cX8_above 1 (some .int) 1 := ⟨gT_in (tb5 (List.mem_of_getElem? (i := 194) rfl)) rfl, gT_in (tb1 (List.mem_of_getElem? (i := 9) rfl)) rfl, by decide +kernel⟩
theorem st_X8_above : Cond.static yX8_above ∈ gT := gT_in (tb5 (List.mem_of_getElem? (i := 193) rfl)) rfl
theorem lm_X8_89 : Cond.methodLink RX8 89 yX8_above ∈ gT := gT_in (tb5 (List.mem_of_getElem? (i := 192) rfl)) rfl
theorem bp_117 : (Int8.ofInt (117)).toInt32 = (117 : Int32) := by decide
theorem lm_X2_21 : Cond.methodLink RX2 21 yX2_unlike ∈ gT := gT_in (tb2 (List.mem_of_getElem? (i := 77) rfl)) rfl
theorem tabout_1_6 {x1 : Int32} (h1 : ¬ x1 = (1 : Int32)) (h2 : ¬ x1 = (2 : Int32)) (h3 : ¬ x1 = (3 : Int32)) (h4 : ¬ x1 = (4 : Int32)) (h5 : ¬ x1 = (5 : Int32)) (h6 : ¬ x1 = (6 : Int32)) : x1.toInt < 1 ∨ 6 < x1.toInt := by
  have e1 : x1.toInt ≠ 1 := fun q => h1 (Int32.toInt_inj.mp q)
  have e2 : x1.toInt ≠ 2 := fun q => h2 (Int32.toInt_inj.mp q)
  have e3 : x1.toInt ≠ 3 := fun q => h3 (Int32.toInt_inj.mp q)
  have e4 : x1.toInt ≠ 4 := fun q => h4 (Int32.toInt_inj.mp q)
  have e5 : x1.toInt ≠ 5 := fun q => h5 (Int32.toInt_inj.mp q)
  have e6 : x1.toInt ≠ 6 := fun q => h6 (Int32.toInt_inj.mp q)
  omega
theorem sp_128 : (Int16.ofInt (128)).toInt32 = (128 : Int32) := by decide
theorem bp_m5 : (Int8.ofInt (-5)).toInt32 = (-5 : Int32) := by decide
theorem lm_X2_25 : Cond.methodLink RX2 25 Lib.Math.max.name ∈ gT := gT_in (tb2 (List.mem_of_getElem? (i := 86) rfl)) rfl
theorem lm_X1_115 : Cond.methodLink RX1 115 Lib.Math.min.name ∈ gT := gT_in (tb2 (List.mem_of_getElem? (i := 161) rfl)) rfl
theorem lm_X0_50 : Cond.methodLink RX0 50 yX1_roomsShown ∈ gT := gT_in (tb2 (List.mem_of_getElem? (i := 201) rfl)) rfl
theorem fl_X0_54 : Cond.fieldLink RX0 54 "SameHeads$House" "parts" "I" ∈ gT := gT_in (tb1 (List.mem_of_getElem? (i := 66) rfl)) rfl
theorem gf_X0_54 {ρ : Type} {x : Fx} {g : Gl} {cw : Gl → Hp → va_W} {nL dR : Nat} {QR : ρ → QT} {cc : ByteArray} {ret : Option FieldType} {pc n : Nat} {L : List (Option Value)} {st : List Value} {h : Hp} {E : Option ρ} (C : Ok x g RX0 cc nL ret) (q0 : Nat) {a : Nat} {fs : List Value} (he : (cw g h)[q0]? = some (a, .inr (1, fs))) {v : Value} (hv : fs[10]? = some v) (d : decode cc pc = .ok (.getfield 54, 3)) (hn : pc + 3 = n) (k : J x g cw nL dR QR n L (v :: st) h E) : J x g cw nL dR QR pc L (.ref a :: st) h E := j_get C q0 he rfl vi_1 10 (Nat.le_of_ble_eq_true rfl) fl_X0_54 hv d hn k
theorem lm_X0_57 : Cond.methodLink RX0 57 yX1_isHead ∈ gT := gT_in (tb2 (List.mem_of_getElem? (i := 205) rfl)) rfl
theorem fl_X0_61 : Cond.fieldLink RX0 61 "SameHeads$House" "shown" "[I" ∈ gT := gT_in (tb1 (List.mem_of_getElem? (i := 56) rfl)) rfl
theorem gf_X0_61 {ρ : Type} {x : Fx} {g : Gl} {cw : Gl → Hp → va_W} {nL dR : Nat} {QR : ρ → QT} {cc : ByteArray} {ret : Option FieldType} {pc n : Nat} {L : List (Option Value)} {st : List Value} {h : Hp} {E : Option ρ} (C : Ok x g RX0 cc nL ret) (q0 : Nat) {a : Nat} {fs : List Value} (he : (cw g h)[q0]? = some (a, .inr (1, fs))) {v : Value} (hv : fs[6]? = some v) (d : decode cc pc = .ok (.getfield 61, 3)) (hn : pc + 3 = n) (k : J x g cw nL dR QR n L (v :: st) h E) : J x g cw nL dR QR pc L (.ref a :: st) h E := j_get C q0 he rfl vi_1 6 (Nat.le_of_ble_eq_true rfl) fl_X0_61 hv d hn k
theorem ns_X0_64 : (RX0, 64, yX7_isFace, "SameHeads") ∈ neR := List.mem_of_getElem? (i := 7) rfl
theorem lm_X0_67 : Cond.methodLink RX0 67 yX1_likeTo ∈ gT := gT_in (tb2 (List.mem_of_getElem? (i := 215) rfl)) rfl
theorem fl_X0_15 : Cond.fieldLink RX0 15 "SameHeads$Givings" "best" "[I" ∈ gT := gT_in (tb1 (List.mem_of_getElem? (i := 115) rfl)) rfl
theorem gf_X0_15 {ρ : Type} {x : Fx} {g : Gl} {cw : Gl → Hp → va_W} {nL dR : Nat} {QR : ρ → QT} {cc : ByteArray} {ret : Option FieldType} {pc n : Nat} {L : List (Option Value)} {st : List Value} {h : Hp} {E : Option ρ} (C : Ok x g RX0 cc nL ret) (q0 : Nat) {a : Nat} {fs : List Value} (he : (cw g h)[q0]? = some (a, .inr (0, fs))) {v : Value} (hv : fs[1]? = some v) (d : decode cc pc = .ok (.getfield 15, 3)) (hn : pc + 3 = n) (k : J x g cw nL dR QR n L (v :: st) h E) : J x g cw nL dR QR pc L (.ref a :: st) h E := j_get C q0 he rfl vi_0 1 (Nat.le_of_ble_eq_true rfl) fl_X0_15 hv d hn k
theorem lm_X0_70 : Cond.methodLink RX0 70 yJ7_fill_53178 ∈ gT := gT_in (tb2 (List.mem_of_getElem? (i := 220) rfl)) rfl
theorem mi_X0_offer : MI yX0_offer cX0_offer 4 none 2 := ⟨gT_in (tb2 (List.mem_of_getElem? (i := 224) rfl)) rfl, gT_in (tb1 (List.mem_of_getElem? (i := 4) rfl)) rfl, by decide +kernel⟩
theorem iv_X0_offer : Cond.instanceMethod yX0_offer ∈ gT ∧ Cond.selects RX0 yX0_offer yX0_offer ∈ gT := ⟨gT_in (tb2 (List.mem_of_getElem? (i := 223) rfl)) rfl, gT_in (List.mem_append_left _ (List.mem_of_getElem? (i := 3) rfl)) rfl⟩
theorem lm_X0_75 : Cond.methodLink RX0 75 yX0_offer ∈ gT := gT_in (tb2 (List.mem_of_getElem? (i := 221) rfl)) rfl
theorem lm_X0_87 : Cond.methodLink RX0 87 yX2_isUnder ∈ gT := gT_in (tb3 (List.mem_of_getElem? (i := 41) rfl)) rfl
theorem fl_X0_91 : Cond.fieldLink RX0 91 "SameHeads$House" "faceLooks" "[I" ∈ gT := gT_in (tb1 (List.mem_of_getElem? (i := 50) rfl)) rfl
theorem gf_X0_91 {ρ : Type} {x : Fx} {g : Gl} {cw : Gl → Hp → va_W} {nL dR : Nat} {QR : ρ → QT} {cc : ByteArray} {ret : Option FieldType} {pc n : Nat} {L : List (Option Value)} {st : List Value} {h : Hp} {E : Option ρ} (C : Ok x g RX0 cc nL ret) (q0 : Nat) {a : Nat} {fs : List Value} (he : (cw g h)[q0]? = some (a, .inr (1, fs))) {v : Value} (hv : fs[4]? = some v) (d : decode cc pc = .ok (.getfield 91, 3)) (hn : pc + 3 = n) (k : J x g cw nL dR QR n L (v :: st) h E) : J x g cw nL dR QR pc L (.ref a :: st) h E := j_get C q0 he rfl vi_1 4 (Nat.le_of_ble_eq_true rfl) fl_X0_91 hv d hn k
theorem lm_X0_94 : Cond.methodLink RX0 94 yX2_likeness ∈ gT := gT_in (tb3 (List.mem_of_getElem? (i := 42) rfl)) rfl
theorem lm_X0_82 : Cond.methodLink RX0 82 Lib.Math.max.name ∈ gT := gT_in (tb2 (List.mem_of_getElem? (i := 229) rfl)) rfl
theorem lm_X2_15 : Cond.methodLink RX2 15 yJ6_bitCount_0f7a4 ∈ gT := gT_in (tb2 (List.mem_of_getElem? (i := 80) rfl)) rfl
theorem lm_X6_41 : Cond.methodLink RX6 41 yJ7_fill_53178 ∈ gT := gT_in (tb3 (List.mem_of_getElem? (i := 129) rfl)) rfl
theorem fl_X6_47 : Cond.fieldLink RX6 47 "SameHeads$House" "parts" "I" ∈ gT := gT_in (tb1 (List.mem_of_getElem? (i := 64) rfl)) rfl
theorem gf_X6_47 {ρ : Type} {x : Fx} {g : Gl} {cw : Gl → Hp → va_W} {nL dR : Nat} {QR : ρ → QT} {cc : ByteArray} {ret : Option FieldType} {pc n : Nat} {L : List (Option Value)} {st : List Value} {h : Hp} {E : Option ρ} (C : Ok x g RX6 cc nL ret) (q0 : Nat) {a : Nat} {fs : List Value} (he : (cw g h)[q0]? = some (a, .inr (1, fs))) {v : Value} (hv : fs[10]? = some v) (d : decode cc pc = .ok (.getfield 47, 3)) (hn : pc + 3 = n) (k : J x g cw nL dR QR n L (v :: st) h E) : J x g cw nL dR QR pc L (.ref a :: st) h E := j_get C q0 he rfl vi_1 10 (Nat.le_of_ble_eq_true rfl) fl_X6_47 hv d hn k
theorem fl_X6_30 : Cond.fieldLink RX6 30 "SameHeads$Sheet" "size" "I" ∈ gT := gT_in (tb1 (List.mem_of_getElem? (i := 198) rfl)) rfl
theorem gf_X6_30 {ρ : Type} {x : Fx} {g : Gl} {cw : Gl → Hp → va_W} {nL dR : Nat} {QR : ρ → QT} {cc : ByteArray} {ret : Option FieldType} {pc n : Nat} {L : List (Option Value)} {st : List Value} {h : Hp} {E : Option ρ} (C : Ok x g RX6 cc nL ret) (q0 : Nat) {a : Nat} {fs : List Value} (he : (cw g h)[q0]? = some (a, .inr (3, fs))) {v : Value} (hv : fs[2]? = some v) (d : decode cc pc = .ok (.getfield 30, 3)) (hn : pc + 3 = n) (k : J x g cw nL dR QR n L (v :: st) h E) : J x g cw nL dR QR pc L (.ref a :: st) h E := j_get C q0 he rfl vi_3 2 (Nat.le_of_ble_eq_true rfl) fl_X6_30 hv d hn k
theorem lm_X6_52 : Cond.methodLink RX6 52 yX1_isHead ∈ gT := gT_in (tb3 (List.mem_of_getElem? (i := 130) rfl)) rfl
theorem lm_X6_56 : Cond.methodLink RX6 56 yX1_likeTo ∈ gT := gT_in (tb3 (List.mem_of_getElem? (i := 131) rfl)) rfl
theorem fl_X6_59 : Cond.fieldLink RX6 59 "SameHeads$Sheet" "numbers" "[I" ∈ gT := gT_in (tb1 (List.mem_of_getElem? (i := 193) rfl)) rfl
theorem gf_X6_59 {ρ : Type} {x : Fx} {g : Gl} {cw : Gl → Hp → va_W} {nL dR : Nat} {QR : ρ → QT} {cc : ByteArray} {ret : Option FieldType} {pc n : Nat} {L : List (Option Value)} {st : List Value} {h : Hp} {E : Option ρ} (C : Ok x g RX6 cc nL ret) (q0 : Nat) {a : Nat} {fs : List Value} (he : (cw g h)[q0]? = some (a, .inr (3, fs))) {v : Value} (hv : fs[0]? = some v) (d : decode cc pc = .ok (.getfield 59, 3)) (hn : pc + 3 = n) (k : J x g cw nL dR QR n L (v :: st) h E) : J x g cw nL dR QR pc L (.ref a :: st) h E := j_get C q0 he rfl vi_3 0 (Nat.le_of_ble_eq_true rfl) fl_X6_59 hv d hn k
theorem lm_X6_36 : Cond.methodLink RX6 36 Lib.Math.min.name ∈ gT := gT_in (tb3 (List.mem_of_getElem? (i := 135) rfl)) rfl
theorem fl_X6_15 : Cond.fieldLink RX6 15 "SameHeads$Tellings" "ways" "[I" ∈ gT := gT_in (tb1 (List.mem_of_getElem? (i := 134) rfl)) rfl
theorem gf_X6_15 {ρ : Type} {x : Fx} {g : Gl} {cw : Gl → Hp → va_W} {nL dR : Nat} {QR : ρ → QT} {cc : ByteArray} {ret : Option FieldType} {pc n : Nat} {L : List (Option Value)} {st : List Value} {h : Hp} {E : Option ρ} (C : Ok x g RX6 cc nL ret) (q0 : Nat) {a : Nat} {fs : List Value} (he : (cw g h)[q0]? = some (a, .inr (5, fs))) {v : Value} (hv : fs[1]? = some v) (d : decode cc pc = .ok (.getfield 15, 3)) (hn : pc + 3 = n) (k : J x g cw nL dR QR n L (v :: st) h E) : J x g cw nL dR QR pc L (.ref a :: st) h E := j_get C q0 he rfl vi_5 1 (Nat.le_of_ble_eq_true rfl) fl_X6_15 hv d hn k
theorem ir_0_64 : inR (0 : Int32) 64 = true ∧ ((0 : Int32)).toNatClampNeg = 0 := by decide
theorem mi_X6_offer : MI yX6_offer cX6_offer 5 none 2 := ⟨gT_in (tb3 (List.mem_of_getElem? (i := 143) rfl)) rfl, gT_in (tb1 (List.mem_of_getElem? (i := 5) rfl)) rfl, by decide +kernel⟩
theorem iv_X6_offer : Cond.instanceMethod yX6_offer ∈ gT ∧ Cond.selects RX6 yX6_offer yX6_offer ∈ gT := ⟨gT_in (tb3 (List.mem_of_getElem? (i := 142) rfl)) rfl, gT_in (List.mem_append_left _ (List.mem_of_getElem? (i := 9) rfl)) rfl⟩
theorem lm_X6_62 : Cond.methodLink RX6 62 yX6_offer ∈ gT := gT_in (tb3 (List.mem_of_getElem? (i := 140) rfl)) rfl
theorem fl_X3_40 : Cond.fieldLink RX3 40 "SameHeads$Reader" "tokens" "I" ∈ gT := gT_in (tb1 (List.mem_of_getElem? (i := 168) rfl)) rfl
theorem ty0_X3_5 : parseFieldDescriptor (TX3 5).2.2.1 = some .int := by decide +kernel
theorem pf_X3_40 {ρ : Type} {x : Fx} {g : Gl} {cw : Gl → Hp → va_W} {nL dR : Nat} {QR : ρ → QT} {cc : ByteArray} {ret : Option FieldType} {pc n : Nat} {L : List (Option Value)} {st : List Value} {h : Hp} {E : Option ρ} (C : Ok x g RX3 cc nL ret) (q0 : Nat) {a : Nat} {fs : List Value} {v : Int32} (he : (cw g h)[q0]? = some (a, .inr (2, fs))) (hs : (cw g h).set q0 (a, .inr (2, fs.set 5 (.int v))) = cw g (up h q0 5 v)) (hlt : (Nat.ble (5 + 1) fs.length) = true) (d : decode cc pc = .ok (.putfield 40, 3)) (hn : pc + 3 = n) (k : J x g cw nL dR QR n L st (up h q0 5 v) E) : J x g cw nL dR QR pc L (.int v :: .ref a :: st) h E := j_put C q0 he rfl vi_2 tyX3 tyX3_ok nmX3 5 (Nat.le_of_ble_eq_true rfl) fl_X3_40 rfl (ty0_X3_5) (⟨rfl, rfl⟩) (Nat.le_of_ble_eq_true hlt) hs d hn k
theorem fl_X3_21 : Cond.fieldLink RX3 21 "SameHeads$Reader" "tape" "LSameHeads$Tape;" ∈ gT := gT_in (tb1 (List.mem_of_getElem? (i := 163) rfl)) rfl
theorem gf_X3_21 {ρ : Type} {x : Fx} {g : Gl} {cw : Gl → Hp → va_W} {nL dR : Nat} {QR : ρ → QT} {cc : ByteArray} {ret : Option FieldType} {pc n : Nat} {L : List (Option Value)} {st : List Value} {h : Hp} {E : Option ρ} (C : Ok x g RX3 cc nL ret) (q0 : Nat) {a : Nat} {fs : List Value} (he : (cw g h)[q0]? = some (a, .inr (2, fs))) {v : Value} (hv : fs[0]? = some v) (d : decode cc pc = .ok (.getfield 21, 3)) (hn : pc + 3 = n) (k : J x g cw nL dR QR n L (v :: st) h E) : J x g cw nL dR QR pc L (.ref a :: st) h E := j_get C q0 he rfl vi_2 0 (Nat.le_of_ble_eq_true rfl) fl_X3_21 hv d hn k
theorem fl_X3_43 : Cond.fieldLink RX3 43 "SameHeads$Tape" "length" "I" ∈ gT := gT_in (tb1 (List.mem_of_getElem? (i := 149) rfl)) rfl
theorem gf_X3_43 {ρ : Type} {x : Fx} {g : Gl} {cw : Gl → Hp → va_W} {nL dR : Nat} {QR : ρ → QT} {cc : ByteArray} {ret : Option FieldType} {pc n : Nat} {L : List (Option Value)} {st : List Value} {h : Hp} {E : Option ρ} (C : Ok x g RX3 cc nL ret) (q0 : Nat) {a : Nat} {fs : List Value} (he : (cw g h)[q0]? = some (a, .inr (4, fs))) {v : Value} (hv : fs[1]? = some v) (d : decode cc pc = .ok (.getfield 43, 3)) (hn : pc + 3 = n) (k : J x g cw nL dR QR n L (v :: st) h E) : J x g cw nL dR QR pc L (.ref a :: st) h E := j_get C q0 he rfl vi_4 1 (Nat.le_of_ble_eq_true rfl) fl_X3_43 hv d hn k
theorem mi_X3_begin : MI yX3_begin cX3_begin 3 none 2 := ⟨gT_in (tb3 (List.mem_of_getElem? (i := 215) rfl)) rfl, gT_in (tb1 (List.mem_of_getElem? (i := 7) rfl)) rfl, by decide +kernel⟩
theorem iv_X3_begin : Cond.instanceMethod yX3_begin ∈ gT ∧ Cond.selects RX3 yX3_begin yX3_begin ∈ gT := ⟨gT_in (tb3 (List.mem_of_getElem? (i := 214) rfl)) rfl, gT_in (List.mem_append_left _ (List.mem_of_getElem? (i := 11) rfl)) rfl⟩
theorem lm_X3_56 : Cond.methodLink RX3 56 yX3_begin ∈ gT := gT_in (tb3 (List.mem_of_getElem? (i := 212) rfl)) rfl
theorem fl_X3_48 : Cond.fieldLink RX3 48 "SameHeads$Tape" "bytes" "[B" ∈ gT := gT_in (tb1 (List.mem_of_getElem? (i := 147) rfl)) rfl
theorem gf_X3_48 {ρ : Type} {x : Fx} {g : Gl} {cw : Gl → Hp → va_W} {nL dR : Nat} {QR : ρ → QT} {cc : ByteArray} {ret : Option FieldType} {pc n : Nat} {L : List (Option Value)} {st : List Value} {h : Hp} {E : Option ρ} (C : Ok x g RX3 cc nL ret) (q0 : Nat) {a : Nat} {fs : List Value} (he : (cw g h)[q0]? = some (a, .inr (4, fs))) {v : Value} (hv : fs[0]? = some v) (d : decode cc pc = .ok (.getfield 48, 3)) (hn : pc + 3 = n) (k : J x g cw nL dR QR n L (v :: st) h E) : J x g cw nL dR QR pc L (.ref a :: st) h E := j_get C q0 he rfl vi_4 0 (Nat.le_of_ble_eq_true rfl) fl_X3_48 hv d hn k
theorem mi_X3_sortOf : MI yX3_sortOf cX3_sortOf 1 (some .int) 1 := ⟨gT_in (tb3 (List.mem_of_getElem? (i := 211) rfl)) rfl, gT_in (tb1 (List.mem_of_getElem? (i := 7) rfl)) rfl, by decide +kernel⟩
theorem st_X3_sortOf : Cond.static yX3_sortOf ∈ gT := gT_in (tb3 (List.mem_of_getElem? (i := 210) rfl)) rfl
theorem lm_X3_52 : Cond.methodLink RX3 52 yX3_sortOf ∈ gT := gT_in (tb3 (List.mem_of_getElem? (i := 209) rfl)) rfl
theorem gf_X3_40 {ρ : Type} {x : Fx} {g : Gl} {cw : Gl → Hp → va_W} {nL dR : Nat} {QR : ρ → QT} {cc : ByteArray} {ret : Option FieldType} {pc n : Nat} {L : List (Option Value)} {st : List Value} {h : Hp} {E : Option ρ} (C : Ok x g RX3 cc nL ret) (q0 : Nat) {a : Nat} {fs : List Value} (he : (cw g h)[q0]? = some (a, .inr (2, fs))) {v : Value} (hv : fs[5]? = some v) (d : decode cc pc = .ok (.getfield 40, 3)) (hn : pc + 3 = n) (k : J x g cw nL dR QR n L (v :: st) h E) : J x g cw nL dR QR pc L (.ref a :: st) h E := j_get C q0 he rfl vi_2 5 (Nat.le_of_ble_eq_true rfl) fl_X3_40 hv d hn k
theorem mi_X3_lengthen : MI yX3_lengthen cX3_lengthen 3 none 2 := ⟨gT_in (tb3 (List.mem_of_getElem? (i := 219) rfl)) rfl, gT_in (tb1 (List.mem_of_getElem? (i := 7) rfl)) rfl, by decide +kernel⟩
theorem iv_X3_lengthen : Cond.instanceMethod yX3_lengthen ∈ gT ∧ Cond.selects RX3 yX3_lengthen yX3_lengthen ∈ gT := ⟨gT_in (tb3 (List.mem_of_getElem? (i := 218) rfl)) rfl, gT_in (List.mem_append_left _ (List.mem_of_getElem? (i := 12) rfl)) rfl⟩
theorem lm_X3_60 : Cond.methodLink RX3 60 yX3_lengthen ∈ gT := gT_in (tb3 (List.mem_of_getElem? (i := 216) rfl)) rfl
theorem fl_X3_25 : Cond.fieldLink RX3 25 "SameHeads$Reader" "house" "LSameHeads$House;" ∈ gT := gT_in (tb1 (List.mem_of_getElem? (i := 164) rfl)) rfl
theorem gf_X3_25 {ρ : Type} {x : Fx} {g : Gl} {cw : Gl → Hp → va_W} {nL dR : Nat} {QR : ρ → QT} {cc : ByteArray} {ret : Option FieldType} {pc n : Nat} {L : List (Option Value)} {st : List Value} {h : Hp} {E : Option ρ} (C : Ok x g RX3 cc nL ret) (q0 : Nat) {a : Nat} {fs : List Value} (he : (cw g h)[q0]? = some (a, .inr (2, fs))) {v : Value} (hv : fs[1]? = some v) (d : decode cc pc = .ok (.getfield 25, 3)) (hn : pc + 3 = n) (k : J x g cw nL dR QR n L (v :: st) h E) : J x g cw nL dR QR pc L (.ref a :: st) h E := j_get C q0 he rfl vi_2 1 (Nat.le_of_ble_eq_true rfl) fl_X3_25 hv d hn k
theorem fl_X3_71 : Cond.fieldLink RX3 71 "SameHeads$House" "parts" "I" ∈ gT := gT_in (tb1 (List.mem_of_getElem? (i := 65) rfl)) rfl
theorem gf_X3_71 {ρ : Type} {x : Fx} {g : Gl} {cw : Gl → Hp → va_W} {nL dR : Nat} {QR : ρ → QT} {cc : ByteArray} {ret : Option FieldType} {pc n : Nat} {L : List (Option Value)} {st : List Value} {h : Hp} {E : Option ρ} (C : Ok x g RX3 cc nL ret) (q0 : Nat) {a : Nat} {fs : List Value} (he : (cw g h)[q0]? = some (a, .inr (1, fs))) {v : Value} (hv : fs[10]? = some v) (d : decode cc pc = .ok (.getfield 71, 3)) (hn : pc + 3 = n) (k : J x g cw nL dR QR n L (v :: st) h E) : J x g cw nL dR QR pc L (.ref a :: st) h E := j_get C q0 he rfl vi_1 10 (Nat.le_of_ble_eq_true rfl) fl_X3_71 hv d hn k
theorem lm_X3_76 : Cond.methodLink RX3 76 yX3_wordOf ∈ gT := gT_in (tb3 (List.mem_of_getElem? (i := 225) rfl)) rfl
theorem mi_X3_wordOf : MI yX3_wordOf cX3_wordOf 1 (some (.object "java/lang/String")) 1 := ⟨gT_in (tb3 (List.mem_of_getElem? (i := 227) rfl)) rfl, gT_in (tb1 (List.mem_of_getElem? (i := 7) rfl)) rfl, by decide +kernel⟩
theorem st_X3_wordOf : Cond.static yX3_wordOf ∈ gT := gT_in (tb3 (List.mem_of_getElem? (i := 226) rfl)) rfl
theorem mi_X3_takes : MI yX3_takes cX3_takes 3 (some .boolean) 1 := ⟨gT_in (tb3 (List.mem_of_getElem? (i := 238) rfl)) rfl, gT_in (tb1 (List.mem_of_getElem? (i := 7) rfl)) rfl, by decide +kernel⟩
theorem iv_X3_takes : Cond.instanceMethod yX3_takes ∈ gT ∧ Cond.selects RX3 yX3_takes yX3_takes ∈ gT := ⟨gT_in (tb3 (List.mem_of_getElem? (i := 237) rfl)) rfl, gT_in (List.mem_append_left _ (List.mem_of_getElem? (i := 14) rfl)) rfl⟩
theorem lm_X3_80 : Cond.methodLink RX3 80 yX3_takes ∈ gT := gT_in (tb3 (List.mem_of_getElem? (i := 235) rfl)) rfl
theorem mi_X3_readPart : MI yX3_readPart cX3_readPart 3 (some .boolean) 1 := ⟨gT_in (tb4 (List.mem_of_getElem? (i := 50) rfl)) rfl, gT_in (tb1 (List.mem_of_getElem? (i := 7) rfl)) rfl, by decide +kernel⟩
theorem iv_X3_readPart : Cond.instanceMethod yX3_readPart ∈ gT ∧ Cond.selects RX3 yX3_readPart yX3_readPart ∈ gT := ⟨gT_in (tb4 (List.mem_of_getElem? (i := 49) rfl)) rfl, gT_in (List.mem_append_left _ (List.mem_of_getElem? (i := 15) rfl)) rfl⟩
theorem lm_X3_84 : Cond.methodLink RX3 84 yX3_readPart ∈ gT := gT_in (tb4 (List.mem_of_getElem? (i := 47) rfl)) rfl
theorem sx_X3_88 : (RX3, 88, "face", 10) ∈ stR := List.mem_of_getElem? (i := 10) rfl
theorem sx_X3_93 : (RX3, 93, "show", 12) ∈ stR := List.mem_of_getElem? (i := 12) rfl
theorem sx_X3_98 : (RX3, 98, "pace", 13) ∈ stR := List.mem_of_getElem? (i := 13) rfl
theorem mi_X3_readPace : MI yX3_readPace cX3_readPace 2 (some .boolean) 0 := ⟨gT_in (tb4 (List.mem_of_getElem? (i := 84) rfl)) rfl, gT_in (tb1 (List.mem_of_getElem? (i := 7) rfl)) rfl, by decide +kernel⟩
theorem iv_X3_readPace : Cond.instanceMethod yX3_readPace ∈ gT ∧ Cond.selects RX3 yX3_readPace yX3_readPace ∈ gT := ⟨gT_in (tb4 (List.mem_of_getElem? (i := 83) rfl)) rfl, gT_in (List.mem_append_left _ (List.mem_of_getElem? (i := 21) rfl)) rfl⟩
theorem lm_X3_100 : Cond.methodLink RX3 100 yX3_readPace ∈ gT := gT_in (tb4 (List.mem_of_getElem? (i := 81) rfl)) rfl
theorem mi_X3_readShow : MI yX3_readShow cX3_readShow 2 (some .boolean) 0 := ⟨gT_in (tb4 (List.mem_of_getElem? (i := 78) rfl)) rfl, gT_in (tb1 (List.mem_of_getElem? (i := 7) rfl)) rfl, by decide +kernel⟩
theorem iv_X3_readShow : Cond.instanceMethod yX3_readShow ∈ gT ∧ Cond.selects RX3 yX3_readShow yX3_readShow ∈ gT := ⟨gT_in (tb4 (List.mem_of_getElem? (i := 77) rfl)) rfl, gT_in (List.mem_append_left _ (List.mem_of_getElem? (i := 20) rfl)) rfl⟩
theorem lm_X3_95 : Cond.methodLink RX3 95 yX3_readShow ∈ gT := gT_in (tb4 (List.mem_of_getElem? (i := 75) rfl)) rfl
theorem mi_X3_readFace : MI yX3_readFace cX3_readFace 2 (some .boolean) 0 := ⟨gT_in (tb4 (List.mem_of_getElem? (i := 71) rfl)) rfl, gT_in (tb1 (List.mem_of_getElem? (i := 7) rfl)) rfl, by decide +kernel⟩
theorem iv_X3_readFace : Cond.instanceMethod yX3_readFace ∈ gT ∧ Cond.selects RX3 yX3_readFace yX3_readFace ∈ gT := ⟨gT_in (tb4 (List.mem_of_getElem? (i := 70) rfl)) rfl, gT_in (List.mem_append_left _ (List.mem_of_getElem? (i := 19) rfl)) rfl⟩
theorem lm_X3_90 : Cond.methodLink RX3 90 yX3_readFace ∈ gT := gT_in (tb4 (List.mem_of_getElem? (i := 68) rfl)) rfl
theorem of_40 : Int32.ofNat 40 = (40 : Int32) := by decide
theorem gf_X8_231 {ρ : Type} {x : Fx} {g : Gl} {cw : Gl → Hp → va_W} {nL dR : Nat} {QR : ρ → QT} {cc : ByteArray} {ret : Option FieldType} {pc n : Nat} {L : List (Option Value)} {st : List Value} {h : Hp} {E : Option ρ} (C : Ok x g RX8 cc nL ret) (q0 : Nat) {a : Nat} {fs : List Value} (he : (cw g h)[q0]? = some (a, .inr (7, fs))) {v : Value} (hv : fs[7]? = some v) (d : decode cc pc = .ok (.getfield 231, 3)) (hn : pc + 3 = n) (k : J x g cw nL dR QR n L (v :: st) h E) : J x g cw nL dR QR pc L (.ref a :: st) h E := j_get C q0 he rfl vi_7 7 (Nat.le_of_ble_eq_true rfl) fl_X8_231 hv d hn k
theorem fl_X8_44 : Cond.fieldLink RX8 44 "SameHeadsModel" "kinds" "[Ljava/lang/String;" ∈ gT := gT_in (tb4 (List.mem_of_getElem? (i := 193) rfl)) rfl
theorem gf_X8_44 {ρ : Type} {x : Fx} {g : Gl} {cw : Gl → Hp → va_W} {nL dR : Nat} {QR : ρ → QT} {cc : ByteArray} {ret : Option FieldType} {pc n : Nat} {L : List (Option Value)} {st : List Value} {h : Hp} {E : Option ρ} (C : Ok x g RX8 cc nL ret) (q0 : Nat) {a : Nat} {fs : List Value} (he : (cw g h)[q0]? = some (a, .inr (7, fs))) {v : Value} (hv : fs[16]? = some v) (d : decode cc pc = .ok (.getfield 44, 3)) (hn : pc + 3 = n) (k : J x g cw nL dR QR n L (v :: st) h E) : J x g cw nL dR QR pc L (.ref a :: st) h E := j_get C q0 he rfl vi_7 16 (Nat.le_of_ble_eq_true rfl) fl_X8_44 hv d hn k
theorem lm_X8_269 : Cond.methodLink RX8 269 yJ0_length_8abf5 ∈ gT := gT_in (tb6 (List.mem_of_getElem? (i := 129) rfl)) rfl
theorem lm_X8_272 : Cond.methodLink RX8 272 yJ0_charAt_5068e ∈ gT := gT_in (tb6 (List.mem_of_getElem? (i := 130) rfl)) rfl
theorem of_64 : Int32.ofNat 64 = (64 : Int32) := by decide
theorem mi_X0_worthIn : MI yX0_worthIn cX0_worthIn 5 (some .int) 2 := ⟨gT_in (tb2 (List.mem_of_getElem? (i := 228) rfl)) rfl, gT_in (tb1 (List.mem_of_getElem? (i := 4) rfl)) rfl, by decide +kernel⟩
theorem iv_X0_worthIn : Cond.instanceMethod yX0_worthIn ∈ gT ∧ Cond.selects RX0 yX0_worthIn yX0_worthIn ∈ gT := ⟨gT_in (tb2 (List.mem_of_getElem? (i := 227) rfl)) rfl, gT_in (List.mem_append_left _ (List.mem_of_getElem? (i := 4) rfl)) rfl⟩
theorem lm_X0_79 : Cond.methodLink RX0 79 yX0_worthIn ∈ gT := gT_in (tb2 (List.mem_of_getElem? (i := 225) rfl)) rfl
theorem of_10 : Int32.ofNat 10 = (10 : Int32) := by decide
theorem of_121 : Int32.ofNat 121 = (121 : Int32) := by decide
theorem fl_X3_18 : Cond.fieldLink RX3 18 "SameHeads$Reader" "value" "[I" ∈ gT := gT_in (tb1 (List.mem_of_getElem? (i := 167) rfl)) rfl
theorem gf_X3_18 {ρ : Type} {x : Fx} {g : Gl} {cw : Gl → Hp → va_W} {nL dR : Nat} {QR : ρ → QT} {cc : ByteArray} {ret : Option FieldType} {pc n : Nat} {L : List (Option Value)} {st : List Value} {h : Hp} {E : Option ρ} (C : Ok x g RX3 cc nL ret) (q0 : Nat) {a : Nat} {fs : List Value} (he : (cw g h)[q0]? = some (a, .inr (2, fs))) {v : Value} (hv : fs[4]? = some v) (d : decode cc pc = .ok (.getfield 18, 3)) (hn : pc + 3 = n) (k : J x g cw nL dR QR n L (v :: st) h E) : J x g cw nL dR QR pc L (.ref a :: st) h E := j_get C q0 he rfl vi_2 4 (Nat.le_of_ble_eq_true rfl) fl_X3_18 hv d hn k
theorem lm_X3_63 : Cond.methodLink RX3 63 Lib.Math.min.name ∈ gT := gT_in (tb3 (List.mem_of_getElem? (i := 220) rfl)) rfl
theorem sx_X3_103 : (RX3, 103, "head", 1) ∈ stR := List.mem_of_getElem? (i := 0) rfl
theorem sx_X3_105 : (RX3, 105, "wigged", 2) ∈ stR := List.mem_of_getElem? (i := 1) rfl
theorem sx_X3_107 : (RX3, 107, "crowned", 3) ∈ stR := List.mem_of_getElem? (i := 2) rfl
theorem sx_X3_109 : (RX3, 109, "body", 4) ∈ stR := List.mem_of_getElem? (i := 3) rfl
theorem sx_X3_111 : (RX3, 111, "hands", 5) ∈ stR := List.mem_of_getElem? (i := 4) rfl
theorem sx_X3_113 : (RX3, 113, "gloved", 6) ∈ stR := List.mem_of_getElem? (i := 5) rfl
theorem sx_X3_115 : (RX3, 115, "part", 0) ∈ stR := List.mem_of_getElem? (i := 6) rfl
theorem lm_X3_163 : Cond.methodLink RX3 163 yJ0_length_8abf5 ∈ gT := gT_in (tb3 (List.mem_of_getElem? (i := 239) rfl)) rfl
theorem lm_X3_168 : Cond.methodLink RX3 168 yJ0_charAt_5068e ∈ gT := gT_in (tb4 (List.mem_of_getElem? (i := 9) rfl)) rfl
theorem lm_X3_117 : Cond.methodLink RX3 117 yX1_addPart ∈ gT := gT_in (tb4 (List.mem_of_getElem? (i := 51) rfl)) rfl
theorem sx_X3_121 : (RX3, 121, "looks", 7) ∈ stR := List.mem_of_getElem? (i := 7) rfl
theorem fl_X3_123 : Cond.fieldLink RX3 123 "SameHeads$House" "looks" "[I" ∈ gT := gT_in (tb1 (List.mem_of_getElem? (i := 40) rfl)) rfl
theorem gf_X3_123 {ρ : Type} {x : Fx} {g : Gl} {cw : Gl → Hp → va_W} {nL dR : Nat} {QR : ρ → QT} {cc : ByteArray} {ret : Option FieldType} {pc n : Nat} {L : List (Option Value)} {st : List Value} {h : Hp} {E : Option ρ} (C : Ok x g RX3 cc nL ret) (q0 : Nat) {a : Nat} {fs : List Value} (he : (cw g h)[q0]? = some (a, .inr (1, fs))) {v : Value} (hv : fs[1]? = some v) (d : decode cc pc = .ok (.getfield 123, 3)) (hn : pc + 3 = n) (k : J x g cw nL dR QR n L (v :: st) h E) : J x g cw nL dR QR pc L (.ref a :: st) h E := j_get C q0 he rfl vi_1 1 (Nat.le_of_ble_eq_true rfl) fl_X3_123 hv d hn k
theorem mi_X3_mayTell : MI yX3_mayTell cX3_mayTell 6 (some .boolean) 5 := ⟨gT_in (tb4 (List.mem_of_getElem? (i := 56) rfl)) rfl, gT_in (tb1 (List.mem_of_getElem? (i := 7) rfl)) rfl, by decide +kernel⟩
theorem iv_X3_mayTell : Cond.instanceMethod yX3_mayTell ∈ gT ∧ Cond.selects RX3 yX3_mayTell yX3_mayTell ∈ gT := ⟨gT_in (tb4 (List.mem_of_getElem? (i := 55) rfl)) rfl, gT_in (List.mem_append_left _ (List.mem_of_getElem? (i := 16) rfl)) rfl⟩
theorem lm_X3_125 : Cond.methodLink RX3 125 yX3_mayTell ∈ gT := gT_in (tb4 (List.mem_of_getElem? (i := 53) rfl)) rfl
theorem sx_X3_129 : (RX3, 129, "wax", 8) ∈ stR := List.mem_of_getElem? (i := 8) rfl
theorem fl_X3_131 : Cond.fieldLink RX3 131 "SameHeads$House" "wax" "[I" ∈ gT := gT_in (tb1 (List.mem_of_getElem? (i := 42) rfl)) rfl
theorem gf_X3_131 {ρ : Type} {x : Fx} {g : Gl} {cw : Gl → Hp → va_W} {nL dR : Nat} {QR : ρ → QT} {cc : ByteArray} {ret : Option FieldType} {pc n : Nat} {L : List (Option Value)} {st : List Value} {h : Hp} {E : Option ρ} (C : Ok x g RX3 cc nL ret) (q0 : Nat) {a : Nat} {fs : List Value} (he : (cw g h)[q0]? = some (a, .inr (1, fs))) {v : Value} (hv : fs[2]? = some v) (d : decode cc pc = .ok (.getfield 131, 3)) (hn : pc + 3 = n) (k : J x g cw nL dR QR n L (v :: st) h E) : J x g cw nL dR QR pc L (.ref a :: st) h E := j_get C q0 he rfl vi_1 2 (Nat.le_of_ble_eq_true rfl) fl_X3_131 hv d hn k
theorem sx_X3_133 : (RX3, 133, "in", 9) ∈ stR := List.mem_of_getElem? (i := 9) rfl
theorem fl_X3_135 : Cond.fieldLink RX3 135 "SameHeads$House" "place" "[I" ∈ gT := gT_in (tb1 (List.mem_of_getElem? (i := 45) rfl)) rfl
theorem gf_X3_135 {ρ : Type} {x : Fx} {g : Gl} {cw : Gl → Hp → va_W} {nL dR : Nat} {QR : ρ → QT} {cc : ByteArray} {ret : Option FieldType} {pc n : Nat} {L : List (Option Value)} {st : List Value} {h : Hp} {E : Option ρ} (C : Ok x g RX3 cc nL ret) (q0 : Nat) {a : Nat} {fs : List Value} (he : (cw g h)[q0]? = some (a, .inr (1, fs))) {v : Value} (hv : fs[3]? = some v) (d : decode cc pc = .ok (.getfield 135, 3)) (hn : pc + 3 = n) (k : J x g cw nL dR QR n L (v :: st) h E) : J x g cw nL dR QR pc L (.ref a :: st) h E := j_get C q0 he rfl vi_1 3 (Nat.le_of_ble_eq_true rfl) fl_X3_135 hv d hn k
theorem mi_X3_takeNumber : MI yX3_takeNumber cX3_takeNumber 3 (some .int) 2 := ⟨gT_in (tb4 (List.mem_of_getElem? (i := 64) rfl)) rfl, gT_in (tb1 (List.mem_of_getElem? (i := 7) rfl)) rfl, by decide +kernel⟩
theorem iv_X3_takeNumber : Cond.instanceMethod yX3_takeNumber ∈ gT ∧ Cond.selects RX3 yX3_takeNumber yX3_takeNumber ∈ gT := ⟨gT_in (tb4 (List.mem_of_getElem? (i := 63) rfl)) rfl, gT_in (List.mem_append_left _ (List.mem_of_getElem? (i := 18) rfl)) rfl⟩
theorem lm_X3_138 : Cond.methodLink RX3 138 yX3_takeNumber ∈ gT := gT_in (tb4 (List.mem_of_getElem? (i := 61) rfl)) rfl
theorem fl_X3_161 : Cond.fieldLink RX3 161 "SameHeads$House" "pace" "I" ∈ gT := gT_in (tb1 (List.mem_of_getElem? (i := 73) rfl)) rfl
theorem pf_X3_161 {ρ : Type} {x : Fx} {g : Gl} {cw : Gl → Hp → va_W} {nL dR : Nat} {QR : ρ → QT} {cc : ByteArray} {ret : Option FieldType} {pc n : Nat} {L : List (Option Value)} {st : List Value} {h : Hp} {E : Option ρ} (C : Ok x g RX3 cc nL ret) (q0 : Nat) {a : Nat} {fs : List Value} {v : Int32} (he : (cw g h)[q0]? = some (a, .inr (1, fs))) (hs : (cw g h).set q0 (a, .inr (1, fs.set 13 (.int v))) = cw g (up h q0 13 v)) (hlt : (Nat.ble (13 + 1) fs.length) = true) (d : decode cc pc = .ok (.putfield 161, 3)) (hn : pc + 3 = n) (k : J x g cw nL dR QR n L st (up h q0 13 v) E) : J x g cw nL dR QR pc L (.int v :: .ref a :: st) h E := j_put C q0 he rfl vi_1 tyX1 tyX1_ok nmX1 13 (Nat.le_of_ble_eq_true rfl) fl_X3_161 rfl (ty0_X1_13) (⟨rfl, rfl⟩) (Nat.le_of_ble_eq_true hlt) hs d hn k
theorem ns_X3_155 : (RX3, 155, yX7_isRoom, "SameHeads") ∈ neR := List.mem_of_getElem? (i := 9) rfl
theorem fl_X3_158 : Cond.fieldLink RX3 158 "SameHeads$House" "shown" "[I" ∈ gT := gT_in (tb1 (List.mem_of_getElem? (i := 57) rfl)) rfl
theorem gf_X3_158 {ρ : Type} {x : Fx} {g : Gl} {cw : Gl → Hp → va_W} {nL dR : Nat} {QR : ρ → QT} {cc : ByteArray} {ret : Option FieldType} {pc n : Nat} {L : List (Option Value)} {st : List Value} {h : Hp} {E : Option ρ} (C : Ok x g RX3 cc nL ret) (q0 : Nat) {a : Nat} {fs : List Value} (he : (cw g h)[q0]? = some (a, .inr (1, fs))) {v : Value} (hv : fs[6]? = some v) (d : decode cc pc = .ok (.getfield 158, 3)) (hn : pc + 3 = n) (k : J x g cw nL dR QR n L (v :: st) h E) : J x g cw nL dR QR pc L (.ref a :: st) h E := j_get C q0 he rfl vi_1 6 (Nat.le_of_ble_eq_true rfl) fl_X3_158 hv d hn k
theorem mi_X3_tells : MI yX3_tells cX3_tells 6 (some .boolean) 4 := ⟨gT_in (tb4 (List.mem_of_getElem? (i := 60) rfl)) rfl, gT_in (tb1 (List.mem_of_getElem? (i := 7) rfl)) rfl, by decide +kernel⟩
theorem iv_X3_tells : Cond.instanceMethod yX3_tells ∈ gT ∧ Cond.selects RX3 yX3_tells yX3_tells ∈ gT := ⟨gT_in (tb4 (List.mem_of_getElem? (i := 59) rfl)) rfl, gT_in (List.mem_append_left _ (List.mem_of_getElem? (i := 17) rfl)) rfl⟩
theorem lm_X3_147 : Cond.methodLink RX3 147 yX3_tells ∈ gT := gT_in (tb4 (List.mem_of_getElem? (i := 57) rfl)) rfl
theorem ns_X3_141 : (RX3, 141, yX7_isFace, "SameHeads") ∈ neR := List.mem_of_getElem? (i := 8) rfl
theorem fl_X3_144 : Cond.fieldLink RX3 144 "SameHeads$House" "faceLooks" "[I" ∈ gT := gT_in (tb1 (List.mem_of_getElem? (i := 49) rfl)) rfl
theorem gf_X3_144 {ρ : Type} {x : Fx} {g : Gl} {cw : Gl → Hp → va_W} {nL dR : Nat} {QR : ρ → QT} {cc : ByteArray} {ret : Option FieldType} {pc n : Nat} {L : List (Option Value)} {st : List Value} {h : Hp} {E : Option ρ} (C : Ok x g RX3 cc nL ret) (q0 : Nat) {a : Nat} {fs : List Value} (he : (cw g h)[q0]? = some (a, .inr (1, fs))) {v : Value} (hv : fs[4]? = some v) (d : decode cc pc = .ok (.getfield 144, 3)) (hn : pc + 3 = n) (k : J x g cw nL dR QR n L (v :: st) h E) : J x g cw nL dR QR pc L (.ref a :: st) h E := j_get C q0 he rfl vi_1 4 (Nat.le_of_ble_eq_true rfl) fl_X3_144 hv d hn k
theorem sx_X3_151 : (RX3, 151, "chance", 11) ∈ stR := List.mem_of_getElem? (i := 11) rfl
theorem fl_X3_153 : Cond.fieldLink RX3 153 "SameHeads$House" "chance" "[I" ∈ gT := gT_in (tb1 (List.mem_of_getElem? (i := 53) rfl)) rfl
theorem gf_X3_153 {ρ : Type} {x : Fx} {g : Gl} {cw : Gl → Hp → va_W} {nL dR : Nat} {QR : ρ → QT} {cc : ByteArray} {ret : Option FieldType} {pc n : Nat} {L : List (Option Value)} {st : List Value} {h : Hp} {E : Option ρ} (C : Ok x g RX3 cc nL ret) (q0 : Nat) {a : Nat} {fs : List Value} (he : (cw g h)[q0]? = some (a, .inr (1, fs))) {v : Value} (hv : fs[5]? = some v) (d : decode cc pc = .ok (.getfield 153, 3)) (hn : pc + 3 = n) (k : J x g cw nL dR QR n L (v :: st) h E) : J x g cw nL dR QR pc L (.ref a :: st) h E := j_get C q0 he rfl vi_1 5 (Nat.le_of_ble_eq_true rfl) fl_X3_153 hv d hn k
theorem sZ_0 (g : Gl) : ∀ (A : Nat → Prop) (U : State) (H : Heap), SX g A U H → va_Z "SameHeads" "LEAST_TRAIT" "[I" (.ref (g.2.2.2.1 0)) A U H := fun _ _ _ h => h.1.1
theorem sT_0 (g : Gl) : ∀ (A : Nat → Prop) (U : State) (H : Heap), SX g A U H → va_T .int (g.2.2.2.1 0) 4 (fun j => .int (LTr j)) A U H := fun _ _ _ h => h.1.2
theorem sZ_1 (g : Gl) : ∀ (A : Nat → Prop) (U : State) (H : Heap), SX g A U H → va_Z "SameHeads" "MOST_TRAIT" "[I" (.ref (g.2.2.2.1 1)) A U H := fun _ _ _ h => h.2.1.1
theorem sT_1 (g : Gl) : ∀ (A : Nat → Prop) (U : State) (H : Heap), SX g A U H → va_T .int (g.2.2.2.1 1) 4 (fun j => .int (MTr j)) A U H := fun _ _ _ h => h.2.1.2
theorem sZ_2 (g : Gl) : ∀ (A : Nat → Prop) (U : State) (H : Heap), SX g A U H → va_Z "SameHeads$Kinds" "ABOVE" "[I" (.ref (g.2.2.2.1 2)) A U H := fun _ _ _ h => h.2.2.1.1
theorem sT_2 (g : Gl) : ∀ (A : Nat → Prop) (U : State) (H : Heap), SX g A U H → va_T .int (g.2.2.2.1 2) 7 (fun j => .int (ABv j)) A U H := fun _ _ _ h => h.2.2.1.2
theorem aM_1 (g : Gl) (h : Hp) (i : Nat) (v : Int32) : (cwM g h).set 1 (g.2.1 1, .inl (g.2.2.1 0, 117, .inl (upd (h 1) i v))) = cwM g (up h 1 i v) := rfl
theorem aM_2 (g : Gl) (h : Hp) (i : Nat) (v : Int32) : (cwM g h).set 2 (g.2.1 2, .inl (g.2.2.1 0, 117, .inl (upd (h 2) i v))) = cwM g (up h 2 i v) := rfl
theorem aM_3 (g : Gl) (h : Hp) (i : Nat) (v : Int32) : (cwM g h).set 3 (g.2.1 3, .inl (g.2.2.1 0, 117, .inl (upd (h 3) i v))) = cwM g (up h 3 i v) := rfl
theorem aM_4 (g : Gl) (h : Hp) (i : Nat) (v : Int32) : (cwM g h).set 4 (g.2.1 4, .inl (g.2.2.1 0, 8, .inl (upd (h 4) i v))) = cwM g (up h 4 i v) := rfl
theorem aM_5 (g : Gl) (h : Hp) (i : Nat) (v : Int32) : (cwM g h).set 5 (g.2.1 5, .inl (g.2.2.1 0, 7168, .inl (upd (h 5) i v))) = cwM g (up h 5 i v) := rfl
theorem aM_6 (g : Gl) (h : Hp) (i : Nat) (v : Int32) : (cwM g h).set 6 (g.2.1 6, .inl (g.2.2.1 0, 120, .inl (upd (h 6) i v))) = cwM g (up h 6 i v) := rfl
theorem aM_8 (g : Gl) (h : Hp) (i : Nat) (v : Int32) : (cwM g h).set 8 (g.2.1 8, .inl (g.2.2.1 0, 480, .inl (upd (h 8) i v))) = cwM g (up h 8 i v) := rfl
theorem aM_9 (g : Gl) (h : Hp) (i : Nat) (v : Int32) : (cwM g h).set 9 (g.2.1 9, .inl (g.2.2.1 0, 4, .inl (upd (h 9) i v))) = cwM g (up h 9 i v) := rfl
theorem aM_10 (g : Gl) (h : Hp) (i : Nat) (v : Int32) : (cwM g h).set 10 (g.2.1 10, .inl (g.2.2.1 0, 4, .inl (upd (h 10) i v))) = cwM g (up h 10 i v) := rfl
theorem aM_11 (g : Gl) (h : Hp) (i : Nat) (v : Int32) : (cwM g h).set 11 (g.2.1 11, .inl (g.2.2.1 0, 160, .inl (upd (h 11) i v))) = cwM g (up h 11 i v) := rfl
theorem aM_12 (g : Gl) (h : Hp) (i : Nat) (v : Int32) : (cwM g h).set 12 (g.2.1 12, .inl (g.2.2.1 0, 40, .inl (upd (h 12) i v))) = cwM g (up h 12 i v) := rfl
theorem aX_2 (g : Gl) (h : Hp) (i : Nat) (v : Int32) : (cwX g h).set 2 (g.2.1 2, .inl (g.2.2.1 0, 10, .inl (upd (h 2) i v))) = cwX g (up h 2 i v) := rfl
theorem aX_3 (g : Gl) (h : Hp) (i : Nat) (v : Int32) : (cwX g h).set 3 (g.2.1 3, .inl (g.2.2.1 0, 10, .inl (upd (h 3) i v))) = cwX g (up h 3 i v) := rfl
theorem aX_4 (g : Gl) (h : Hp) (i : Nat) (v : Int32) : (cwX g h).set 4 (g.2.1 4, .inl (g.2.2.1 0, 10, .inl (upd (h 4) i v))) = cwX g (up h 4 i v) := rfl
theorem aX_5 (g : Gl) (h : Hp) (i : Nat) (v : Int32) : (cwX g h).set 5 (g.2.1 5, .inl (g.2.2.1 0, 10, .inl (upd (h 5) i v))) = cwX g (up h 5 i v) := rfl
theorem aX_6 (g : Gl) (h : Hp) (i : Nat) (v : Int32) : (cwX g h).set 6 (g.2.1 6, .inl (g.2.2.1 0, 6, .inl (upd (h 6) i v))) = cwX g (up h 6 i v) := rfl
theorem aX_7 (g : Gl) (h : Hp) (i : Nat) (v : Int32) : (cwX g h).set 7 (g.2.1 7, .inl (g.2.2.1 0, 6, .inl (upd (h 7) i v))) = cwX g (up h 7 i v) := rfl
theorem aX_8 (g : Gl) (h : Hp) (i : Nat) (v : Int32) : (cwX g h).set 8 (g.2.1 8, .inl (g.2.2.1 0, 6, .inl (upd (h 8) i v))) = cwX g (up h 8 i v) := rfl
theorem aX_9 (g : Gl) (h : Hp) (i : Nat) (v : Int32) : (cwX g h).set 9 (g.2.1 9, .inl (g.2.2.1 0, 4, .inl (upd (h 9) i v))) = cwX g (up h 9 i v) := rfl
theorem aX_10 (g : Gl) (h : Hp) (i : Nat) (v : Int32) : (cwX g h).set 10 (g.2.1 10, .inl (g.2.2.1 0, 40, .inl (upd (h 10) i v))) = cwX g (up h 10 i v) := rfl
theorem aX_11 (g : Gl) (h : Hp) (i : Nat) (v : Int32) : (cwX g h).set 11 (g.2.1 11, .inl (g.2.2.1 0, 10, .inl (upd (h 11) i v))) = cwX g (up h 11 i v) := rfl
theorem aX_24 (g : Gl) (h : Hp) (i : Nat) (v : Int32) : (cwX g h).set 24 (g.2.1 24, .inl (g.2.2.1 0, 10, .inl (upd (h 24) i v))) = cwX g (up h 24 i v) := rfl
theorem aX_25 (g : Gl) (h : Hp) (i : Nat) (v : Int32) : (cwX g h).set 25 (g.2.1 25, .inl (g.2.2.1 0, 10, .inl (upd (h 25) i v))) = cwX g (up h 25 i v) := rfl
theorem aX_26 (g : Gl) (h : Hp) (i : Nat) (v : Int32) : (cwX g h).set 26 (g.2.1 26, .inl (g.2.2.1 0, 10, .inl (upd (h 26) i v))) = cwX g (up h 26 i v) := rfl
theorem aX_27 (g : Gl) (h : Hp) (i : Nat) (v : Int32) : (cwX g h).set 27 (g.2.1 27, .inl (g.2.2.1 0, 10, .inl (upd (h 27) i v))) = cwX g (up h 27 i v) := rfl
theorem aX_28 (g : Gl) (h : Hp) (i : Nat) (v : Int32) : (cwX g h).set 28 (g.2.1 28, .inl (g.2.2.1 0, 6, .inl (upd (h 28) i v))) = cwX g (up h 28 i v) := rfl
theorem aX_29 (g : Gl) (h : Hp) (i : Nat) (v : Int32) : (cwX g h).set 29 (g.2.1 29, .inl (g.2.2.1 0, 6, .inl (upd (h 29) i v))) = cwX g (up h 29 i v) := rfl
theorem aX_30 (g : Gl) (h : Hp) (i : Nat) (v : Int32) : (cwX g h).set 30 (g.2.1 30, .inl (g.2.2.1 0, 6, .inl (upd (h 30) i v))) = cwX g (up h 30 i v) := rfl
theorem aX_35 (g : Gl) (h : Hp) (i : Nat) (v : Int32) : (cwX g h).set 35 (g.2.1 35, .inl (g.2.2.1 0, 60, .inl (upd (h 35) i v))) = cwX g (up h 35 i v) := rfl
theorem aX_36 (g : Gl) (h : Hp) (i : Nat) (v : Int32) : (cwX g h).set 36 (g.2.1 36, .inl (g.2.2.1 0, 64, .inl (upd (h 36) i v))) = cwX g (up h 36 i v) := rfl
theorem aX_38 (g : Gl) (h : Hp) (i : Nat) (v : Int32) : (cwX g h).set 38 (g.2.1 38, .inl (g.2.2.1 0, 10, .inl (upd (h 38) i v))) = cwX g (up h 38 i v) := rfl
theorem aX_39 (g : Gl) (h : Hp) (i : Nat) (v : Int32) : (cwX g h).set 39 (g.2.1 39, .inl (g.2.2.1 0, 64, .inl (upd (h 39) i v))) = cwX g (up h 39 i v) := rfl
theorem aX_41 (g : Gl) (h : Hp) (i : Nat) (v : Int32) : (cwX g h).set 41 (g.2.1 41, .inl (g.2.2.1 1, 120, .inl (upd (h 41) i v))) = cwX g (up h 41 i v) := rfl
theorem aX_43 (g : Gl) (h : Hp) (i : Nat) (v : Int32) : (cwX g h).set 43 (g.2.1 43, .inl (g.2.2.1 0, 121, .inl (upd (h 43) i v))) = cwX g (up h 43 i v) := rfl
theorem aX_44 (g : Gl) (h : Hp) (i : Nat) (v : Int32) : (cwX g h).set 44 (g.2.1 44, .inl (g.2.2.1 0, 121, .inl (upd (h 44) i v))) = cwX g (up h 44 i v) := rfl
theorem aX_45 (g : Gl) (h : Hp) (i : Nat) (v : Int32) : (cwX g h).set 45 (g.2.1 45, .inl (g.2.2.1 0, 121, .inl (upd (h 45) i v))) = cwX g (up h 45 i v) := rfl
theorem aX_48 (g : Gl) (h : Hp) (i : Nat) (v : Int32) : (cwX g h).set 48 (g.2.1 48, .inl (g.2.2.1 0, 40, .inl (upd (h 48) i v))) = cwX g (up h 48 i v) := rfl
theorem aX_50 (g : Gl) (h : Hp) (i : Nat) (v : Int32) : (cwX g h).set 50 (g.2.1 50, .inl (g.2.2.1 0, 40, .inl (upd (h 50) i v))) = cwX g (up h 50 i v) := rfl
theorem aX_52 (g : Gl) (h : Hp) (i : Nat) (v : Int32) : (cwX g h).set 52 (g.2.1 52, .inl (g.2.2.1 0, 40, .inl (upd (h 52) i v))) = cwX g (up h 52 i v) := rfl
theorem aX_54 (g : Gl) (h : Hp) (i : Nat) (v : Int32) : (cwX g h).set 54 (g.2.1 54, .inl (g.2.2.1 0, 40, .inl (upd (h 54) i v))) = cwX g (up h 54 i v) := rfl
theorem aX_55 (g : Gl) (h : Hp) (i : Nat) (v : Int32) : (cwX g h).set 55 (g.2.1 55, .inl (g.2.2.1 0, 7, .inl (upd (h 55) i v))) = cwX g (up h 55 i v) := rfl
theorem sM_0_3 (g : Gl) (h : Hp) (v : Int32) : (cwM g h).set 0 (g.2.1 0, .inr (7, List.set [rf g 1, rf g 2, rf g 3, .int (h 0 3), rf g 4, rf g 5, .int (h 0 6), .int (h 0 7), .int (h 0 8), rf g 6, .int (h 0 10), .int (h 0 11), .int (h 0 12), .int (h 0 13), .int (h 0 14), .int (h 0 15), rf g 7, rf g 8, .int (h 0 18), .int (h 0 19), rf g 9, rf g 10, rf g 11, rf g 12] 3 (.int v))) = cwM g (up h 0 3 v) := rfl
theorem sM_0_6 (g : Gl) (h : Hp) (v : Int32) : (cwM g h).set 0 (g.2.1 0, .inr (7, List.set [rf g 1, rf g 2, rf g 3, .int (h 0 3), rf g 4, rf g 5, .int (h 0 6), .int (h 0 7), .int (h 0 8), rf g 6, .int (h 0 10), .int (h 0 11), .int (h 0 12), .int (h 0 13), .int (h 0 14), .int (h 0 15), rf g 7, rf g 8, .int (h 0 18), .int (h 0 19), rf g 9, rf g 10, rf g 11, rf g 12] 6 (.int v))) = cwM g (up h 0 6 v) := rfl
theorem sM_0_7 (g : Gl) (h : Hp) (v : Int32) : (cwM g h).set 0 (g.2.1 0, .inr (7, List.set [rf g 1, rf g 2, rf g 3, .int (h 0 3), rf g 4, rf g 5, .int (h 0 6), .int (h 0 7), .int (h 0 8), rf g 6, .int (h 0 10), .int (h 0 11), .int (h 0 12), .int (h 0 13), .int (h 0 14), .int (h 0 15), rf g 7, rf g 8, .int (h 0 18), .int (h 0 19), rf g 9, rf g 10, rf g 11, rf g 12] 7 (.int v))) = cwM g (up h 0 7 v) := rfl
theorem sM_0_8 (g : Gl) (h : Hp) (v : Int32) : (cwM g h).set 0 (g.2.1 0, .inr (7, List.set [rf g 1, rf g 2, rf g 3, .int (h 0 3), rf g 4, rf g 5, .int (h 0 6), .int (h 0 7), .int (h 0 8), rf g 6, .int (h 0 10), .int (h 0 11), .int (h 0 12), .int (h 0 13), .int (h 0 14), .int (h 0 15), rf g 7, rf g 8, .int (h 0 18), .int (h 0 19), rf g 9, rf g 10, rf g 11, rf g 12] 8 (.int v))) = cwM g (up h 0 8 v) := rfl
theorem sM_0_10 (g : Gl) (h : Hp) (v : Int32) : (cwM g h).set 0 (g.2.1 0, .inr (7, List.set [rf g 1, rf g 2, rf g 3, .int (h 0 3), rf g 4, rf g 5, .int (h 0 6), .int (h 0 7), .int (h 0 8), rf g 6, .int (h 0 10), .int (h 0 11), .int (h 0 12), .int (h 0 13), .int (h 0 14), .int (h 0 15), rf g 7, rf g 8, .int (h 0 18), .int (h 0 19), rf g 9, rf g 10, rf g 11, rf g 12] 10 (.int v))) = cwM g (up h 0 10 v) := rfl
theorem sM_0_11 (g : Gl) (h : Hp) (v : Int32) : (cwM g h).set 0 (g.2.1 0, .inr (7, List.set [rf g 1, rf g 2, rf g 3, .int (h 0 3), rf g 4, rf g 5, .int (h 0 6), .int (h 0 7), .int (h 0 8), rf g 6, .int (h 0 10), .int (h 0 11), .int (h 0 12), .int (h 0 13), .int (h 0 14), .int (h 0 15), rf g 7, rf g 8, .int (h 0 18), .int (h 0 19), rf g 9, rf g 10, rf g 11, rf g 12] 11 (.int v))) = cwM g (up h 0 11 v) := rfl
theorem sM_0_12 (g : Gl) (h : Hp) (v : Int32) : (cwM g h).set 0 (g.2.1 0, .inr (7, List.set [rf g 1, rf g 2, rf g 3, .int (h 0 3), rf g 4, rf g 5, .int (h 0 6), .int (h 0 7), .int (h 0 8), rf g 6, .int (h 0 10), .int (h 0 11), .int (h 0 12), .int (h 0 13), .int (h 0 14), .int (h 0 15), rf g 7, rf g 8, .int (h 0 18), .int (h 0 19), rf g 9, rf g 10, rf g 11, rf g 12] 12 (.int v))) = cwM g (up h 0 12 v) := rfl
theorem sM_0_13 (g : Gl) (h : Hp) (v : Int32) : (cwM g h).set 0 (g.2.1 0, .inr (7, List.set [rf g 1, rf g 2, rf g 3, .int (h 0 3), rf g 4, rf g 5, .int (h 0 6), .int (h 0 7), .int (h 0 8), rf g 6, .int (h 0 10), .int (h 0 11), .int (h 0 12), .int (h 0 13), .int (h 0 14), .int (h 0 15), rf g 7, rf g 8, .int (h 0 18), .int (h 0 19), rf g 9, rf g 10, rf g 11, rf g 12] 13 (.int v))) = cwM g (up h 0 13 v) := rfl
theorem sM_0_14 (g : Gl) (h : Hp) (v : Int32) : (cwM g h).set 0 (g.2.1 0, .inr (7, List.set [rf g 1, rf g 2, rf g 3, .int (h 0 3), rf g 4, rf g 5, .int (h 0 6), .int (h 0 7), .int (h 0 8), rf g 6, .int (h 0 10), .int (h 0 11), .int (h 0 12), .int (h 0 13), .int (h 0 14), .int (h 0 15), rf g 7, rf g 8, .int (h 0 18), .int (h 0 19), rf g 9, rf g 10, rf g 11, rf g 12] 14 (.int v))) = cwM g (up h 0 14 v) := rfl
theorem sM_0_15 (g : Gl) (h : Hp) (v : Int32) : (cwM g h).set 0 (g.2.1 0, .inr (7, List.set [rf g 1, rf g 2, rf g 3, .int (h 0 3), rf g 4, rf g 5, .int (h 0 6), .int (h 0 7), .int (h 0 8), rf g 6, .int (h 0 10), .int (h 0 11), .int (h 0 12), .int (h 0 13), .int (h 0 14), .int (h 0 15), rf g 7, rf g 8, .int (h 0 18), .int (h 0 19), rf g 9, rf g 10, rf g 11, rf g 12] 15 (.int v))) = cwM g (up h 0 15 v) := rfl
theorem sM_0_18 (g : Gl) (h : Hp) (v : Int32) : (cwM g h).set 0 (g.2.1 0, .inr (7, List.set [rf g 1, rf g 2, rf g 3, .int (h 0 3), rf g 4, rf g 5, .int (h 0 6), .int (h 0 7), .int (h 0 8), rf g 6, .int (h 0 10), .int (h 0 11), .int (h 0 12), .int (h 0 13), .int (h 0 14), .int (h 0 15), rf g 7, rf g 8, .int (h 0 18), .int (h 0 19), rf g 9, rf g 10, rf g 11, rf g 12] 18 (.int v))) = cwM g (up h 0 18 v) := rfl
theorem sM_0_19 (g : Gl) (h : Hp) (v : Int32) : (cwM g h).set 0 (g.2.1 0, .inr (7, List.set [rf g 1, rf g 2, rf g 3, .int (h 0 3), rf g 4, rf g 5, .int (h 0 6), .int (h 0 7), .int (h 0 8), rf g 6, .int (h 0 10), .int (h 0 11), .int (h 0 12), .int (h 0 13), .int (h 0 14), .int (h 0 15), rf g 7, rf g 8, .int (h 0 18), .int (h 0 19), rf g 9, rf g 10, rf g 11, rf g 12] 19 (.int v))) = cwM g (up h 0 19 v) := rfl
theorem sX_0_9 (g : Gl) (h : Hp) (v : Int32) : (cwX g h).set 0 (g.2.1 0, .inr (6, List.set [rf g 1, rf g 12, rf g 23, rf g 34, rf g 37, rf g 40, rf g 42, rf g 46, rf g 55, .int (h 0 9)] 9 (.int v))) = cwX g (up h 0 9 v) := rfl
theorem sX_1_10 (g : Gl) (h : Hp) (v : Int32) : (cwX g h).set 1 (g.2.1 1, .inr (1, List.set [rf g 2, rf g 3, rf g 4, rf g 5, rf g 6, rf g 7, rf g 8, rf g 9, rf g 10, rf g 11, .int (h 1 10), .int (h 1 11), .int (h 1 12), .int (h 1 13), .int (h 1 14)] 10 (.int v))) = cwX g (up h 1 10 v) := rfl
theorem sX_1_11 (g : Gl) (h : Hp) (v : Int32) : (cwX g h).set 1 (g.2.1 1, .inr (1, List.set [rf g 2, rf g 3, rf g 4, rf g 5, rf g 6, rf g 7, rf g 8, rf g 9, rf g 10, rf g 11, .int (h 1 10), .int (h 1 11), .int (h 1 12), .int (h 1 13), .int (h 1 14)] 11 (.int v))) = cwX g (up h 1 11 v) := rfl
theorem sX_1_12 (g : Gl) (h : Hp) (v : Int32) : (cwX g h).set 1 (g.2.1 1, .inr (1, List.set [rf g 2, rf g 3, rf g 4, rf g 5, rf g 6, rf g 7, rf g 8, rf g 9, rf g 10, rf g 11, .int (h 1 10), .int (h 1 11), .int (h 1 12), .int (h 1 13), .int (h 1 14)] 12 (.int v))) = cwX g (up h 1 12 v) := rfl
theorem sX_1_13 (g : Gl) (h : Hp) (v : Int32) : (cwX g h).set 1 (g.2.1 1, .inr (1, List.set [rf g 2, rf g 3, rf g 4, rf g 5, rf g 6, rf g 7, rf g 8, rf g 9, rf g 10, rf g 11, .int (h 1 10), .int (h 1 11), .int (h 1 12), .int (h 1 13), .int (h 1 14)] 13 (.int v))) = cwX g (up h 1 13 v) := rfl
theorem sX_1_14 (g : Gl) (h : Hp) (v : Int32) : (cwX g h).set 1 (g.2.1 1, .inr (1, List.set [rf g 2, rf g 3, rf g 4, rf g 5, rf g 6, rf g 7, rf g 8, rf g 9, rf g 10, rf g 11, .int (h 1 10), .int (h 1 11), .int (h 1 12), .int (h 1 13), .int (h 1 14)] 14 (.int v))) = cwX g (up h 1 14 v) := rfl
theorem sX_12_10 (g : Gl) (h : Hp) (v : Int32) : (cwX g h).set 12 (g.2.1 12, .inr (1, List.set [rf g 13, rf g 14, rf g 15, rf g 16, rf g 17, rf g 18, rf g 19, rf g 20, rf g 21, rf g 22, .int (h 12 10), .int (h 12 11), .int (h 12 12), .int (h 12 13), .int (h 12 14)] 10 (.int v))) = cwX g (up h 12 10 v) := rfl
theorem sX_12_11 (g : Gl) (h : Hp) (v : Int32) : (cwX g h).set 12 (g.2.1 12, .inr (1, List.set [rf g 13, rf g 14, rf g 15, rf g 16, rf g 17, rf g 18, rf g 19, rf g 20, rf g 21, rf g 22, .int (h 12 10), .int (h 12 11), .int (h 12 12), .int (h 12 13), .int (h 12 14)] 11 (.int v))) = cwX g (up h 12 11 v) := rfl
theorem sX_12_12 (g : Gl) (h : Hp) (v : Int32) : (cwX g h).set 12 (g.2.1 12, .inr (1, List.set [rf g 13, rf g 14, rf g 15, rf g 16, rf g 17, rf g 18, rf g 19, rf g 20, rf g 21, rf g 22, .int (h 12 10), .int (h 12 11), .int (h 12 12), .int (h 12 13), .int (h 12 14)] 12 (.int v))) = cwX g (up h 12 12 v) := rfl
theorem sX_12_13 (g : Gl) (h : Hp) (v : Int32) : (cwX g h).set 12 (g.2.1 12, .inr (1, List.set [rf g 13, rf g 14, rf g 15, rf g 16, rf g 17, rf g 18, rf g 19, rf g 20, rf g 21, rf g 22, .int (h 12 10), .int (h 12 11), .int (h 12 12), .int (h 12 13), .int (h 12 14)] 13 (.int v))) = cwX g (up h 12 13 v) := rfl
theorem sX_12_14 (g : Gl) (h : Hp) (v : Int32) : (cwX g h).set 12 (g.2.1 12, .inr (1, List.set [rf g 13, rf g 14, rf g 15, rf g 16, rf g 17, rf g 18, rf g 19, rf g 20, rf g 21, rf g 22, .int (h 12 10), .int (h 12 11), .int (h 12 12), .int (h 12 13), .int (h 12 14)] 14 (.int v))) = cwX g (up h 12 14 v) := rfl
theorem sX_23_10 (g : Gl) (h : Hp) (v : Int32) : (cwX g h).set 23 (g.2.1 23, .inr (1, List.set [rf g 24, rf g 25, rf g 26, rf g 27, rf g 28, rf g 29, rf g 30, rf g 31, rf g 32, rf g 33, .int (h 23 10), .int (h 23 11), .int (h 23 12), .int (h 23 13), .int (h 23 14)] 10 (.int v))) = cwX g (up h 23 10 v) := rfl
theorem sX_23_11 (g : Gl) (h : Hp) (v : Int32) : (cwX g h).set 23 (g.2.1 23, .inr (1, List.set [rf g 24, rf g 25, rf g 26, rf g 27, rf g 28, rf g 29, rf g 30, rf g 31, rf g 32, rf g 33, .int (h 23 10), .int (h 23 11), .int (h 23 12), .int (h 23 13), .int (h 23 14)] 11 (.int v))) = cwX g (up h 23 11 v) := rfl
theorem sX_23_12 (g : Gl) (h : Hp) (v : Int32) : (cwX g h).set 23 (g.2.1 23, .inr (1, List.set [rf g 24, rf g 25, rf g 26, rf g 27, rf g 28, rf g 29, rf g 30, rf g 31, rf g 32, rf g 33, .int (h 23 10), .int (h 23 11), .int (h 23 12), .int (h 23 13), .int (h 23 14)] 12 (.int v))) = cwX g (up h 23 12 v) := rfl
theorem sX_23_13 (g : Gl) (h : Hp) (v : Int32) : (cwX g h).set 23 (g.2.1 23, .inr (1, List.set [rf g 24, rf g 25, rf g 26, rf g 27, rf g 28, rf g 29, rf g 30, rf g 31, rf g 32, rf g 33, .int (h 23 10), .int (h 23 11), .int (h 23 12), .int (h 23 13), .int (h 23 14)] 13 (.int v))) = cwX g (up h 23 13 v) := rfl
theorem sX_23_14 (g : Gl) (h : Hp) (v : Int32) : (cwX g h).set 23 (g.2.1 23, .inr (1, List.set [rf g 24, rf g 25, rf g 26, rf g 27, rf g 28, rf g 29, rf g 30, rf g 31, rf g 32, rf g 33, .int (h 23 10), .int (h 23 11), .int (h 23 12), .int (h 23 13), .int (h 23 14)] 14 (.int v))) = cwX g (up h 23 14 v) := rfl
theorem sX_34_2 (g : Gl) (h : Hp) (v : Int32) : (cwX g h).set 34 (g.2.1 34, .inr (0, List.set [rf g 35, rf g 36, .int (h 34 2), .int (h 34 3)] 2 (.int v))) = cwX g (up h 34 2 v) := rfl
theorem sX_34_3 (g : Gl) (h : Hp) (v : Int32) : (cwX g h).set 34 (g.2.1 34, .inr (0, List.set [rf g 35, rf g 36, .int (h 34 2), .int (h 34 3)] 3 (.int v))) = cwX g (up h 34 3 v) := rfl
theorem sX_40_1 (g : Gl) (h : Hp) (v : Int32) : (cwX g h).set 40 (g.2.1 40, .inr (4, List.set [rf g 41, .int (h 40 1)] 1 (.int v))) = cwX g (up h 40 1 v) := rfl
theorem sX_42_5 (g : Gl) (h : Hp) (v : Int32) : (cwX g h).set 42 (g.2.1 42, .inr (2, List.set [rf g 40, rf g 23, rf g 43, rf g 44, rf g 45, .int (h 42 5), .int (h 42 6)] 5 (.int v))) = cwX g (up h 42 5 v) := rfl
theorem sX_42_6 (g : Gl) (h : Hp) (v : Int32) : (cwX g h).set 42 (g.2.1 42, .inr (2, List.set [rf g 40, rf g 23, rf g 43, rf g 44, rf g 45, .int (h 42 5), .int (h 42 6)] 6 (.int v))) = cwX g (up h 42 6 v) := rfl
theorem sX_47_1 (g : Gl) (h : Hp) (v : Int32) : (cwX g h).set 47 (g.2.1 47, .inr (3, List.set [rf g 48, .int (h 47 1), .int (h 47 2)] 1 (.int v))) = cwX g (up h 47 1 v) := rfl
theorem sX_47_2 (g : Gl) (h : Hp) (v : Int32) : (cwX g h).set 47 (g.2.1 47, .inr (3, List.set [rf g 48, .int (h 47 1), .int (h 47 2)] 2 (.int v))) = cwX g (up h 47 2 v) := rfl
theorem sX_49_1 (g : Gl) (h : Hp) (v : Int32) : (cwX g h).set 49 (g.2.1 49, .inr (3, List.set [rf g 50, .int (h 49 1), .int (h 49 2)] 1 (.int v))) = cwX g (up h 49 1 v) := rfl
theorem sX_49_2 (g : Gl) (h : Hp) (v : Int32) : (cwX g h).set 49 (g.2.1 49, .inr (3, List.set [rf g 50, .int (h 49 1), .int (h 49 2)] 2 (.int v))) = cwX g (up h 49 2 v) := rfl
theorem sX_51_1 (g : Gl) (h : Hp) (v : Int32) : (cwX g h).set 51 (g.2.1 51, .inr (3, List.set [rf g 52, .int (h 51 1), .int (h 51 2)] 1 (.int v))) = cwX g (up h 51 1 v) := rfl
theorem sX_51_2 (g : Gl) (h : Hp) (v : Int32) : (cwX g h).set 51 (g.2.1 51, .inr (3, List.set [rf g 52, .int (h 51 1), .int (h 51 2)] 2 (.int v))) = cwX g (up h 51 2 v) := rfl
theorem sX_53_1 (g : Gl) (h : Hp) (v : Int32) : (cwX g h).set 53 (g.2.1 53, .inr (3, List.set [rf g 54, .int (h 53 1), .int (h 53 2)] 1 (.int v))) = cwX g (up h 53 1 v) := rfl
theorem sX_53_2 (g : Gl) (h : Hp) (v : Int32) : (cwX g h).set 53 (g.2.1 53, .inr (3, List.set [rf g 54, .int (h 53 1), .int (h 53 2)] 2 (.int v))) = cwX g (up h 53 2 v) := rfl
theorem wX_2 (g : Gl) (h : Hp) (f : Nat → Int32) : (cwX g h).set 2 (g.2.1 2, .inl (g.2.2.1 0, 10, .inl f)) = cwX g (upA h 2 f) := rfl
theorem wX_3 (g : Gl) (h : Hp) (f : Nat → Int32) : (cwX g h).set 3 (g.2.1 3, .inl (g.2.2.1 0, 10, .inl f)) = cwX g (upA h 3 f) := rfl
theorem wX_4 (g : Gl) (h : Hp) (f : Nat → Int32) : (cwX g h).set 4 (g.2.1 4, .inl (g.2.2.1 0, 10, .inl f)) = cwX g (upA h 4 f) := rfl
theorem wX_5 (g : Gl) (h : Hp) (f : Nat → Int32) : (cwX g h).set 5 (g.2.1 5, .inl (g.2.2.1 0, 10, .inl f)) = cwX g (upA h 5 f) := rfl
theorem wX_6 (g : Gl) (h : Hp) (f : Nat → Int32) : (cwX g h).set 6 (g.2.1 6, .inl (g.2.2.1 0, 6, .inl f)) = cwX g (upA h 6 f) := rfl
theorem wX_7 (g : Gl) (h : Hp) (f : Nat → Int32) : (cwX g h).set 7 (g.2.1 7, .inl (g.2.2.1 0, 6, .inl f)) = cwX g (upA h 7 f) := rfl
theorem wX_8 (g : Gl) (h : Hp) (f : Nat → Int32) : (cwX g h).set 8 (g.2.1 8, .inl (g.2.2.1 0, 6, .inl f)) = cwX g (upA h 8 f) := rfl
theorem wX_9 (g : Gl) (h : Hp) (f : Nat → Int32) : (cwX g h).set 9 (g.2.1 9, .inl (g.2.2.1 0, 4, .inl f)) = cwX g (upA h 9 f) := rfl
theorem wX_10 (g : Gl) (h : Hp) (f : Nat → Int32) : (cwX g h).set 10 (g.2.1 10, .inl (g.2.2.1 0, 40, .inl f)) = cwX g (upA h 10 f) := rfl
theorem wX_11 (g : Gl) (h : Hp) (f : Nat → Int32) : (cwX g h).set 11 (g.2.1 11, .inl (g.2.2.1 0, 10, .inl f)) = cwX g (upA h 11 f) := rfl
theorem wX_13 (g : Gl) (h : Hp) (f : Nat → Int32) : (cwX g h).set 13 (g.2.1 13, .inl (g.2.2.1 0, 10, .inl f)) = cwX g (upA h 13 f) := rfl
theorem wX_14 (g : Gl) (h : Hp) (f : Nat → Int32) : (cwX g h).set 14 (g.2.1 14, .inl (g.2.2.1 0, 10, .inl f)) = cwX g (upA h 14 f) := rfl
theorem wX_15 (g : Gl) (h : Hp) (f : Nat → Int32) : (cwX g h).set 15 (g.2.1 15, .inl (g.2.2.1 0, 10, .inl f)) = cwX g (upA h 15 f) := rfl
theorem wX_16 (g : Gl) (h : Hp) (f : Nat → Int32) : (cwX g h).set 16 (g.2.1 16, .inl (g.2.2.1 0, 10, .inl f)) = cwX g (upA h 16 f) := rfl
theorem wX_17 (g : Gl) (h : Hp) (f : Nat → Int32) : (cwX g h).set 17 (g.2.1 17, .inl (g.2.2.1 0, 6, .inl f)) = cwX g (upA h 17 f) := rfl
theorem wX_18 (g : Gl) (h : Hp) (f : Nat → Int32) : (cwX g h).set 18 (g.2.1 18, .inl (g.2.2.1 0, 6, .inl f)) = cwX g (upA h 18 f) := rfl
theorem wX_19 (g : Gl) (h : Hp) (f : Nat → Int32) : (cwX g h).set 19 (g.2.1 19, .inl (g.2.2.1 0, 6, .inl f)) = cwX g (upA h 19 f) := rfl
theorem wX_20 (g : Gl) (h : Hp) (f : Nat → Int32) : (cwX g h).set 20 (g.2.1 20, .inl (g.2.2.1 0, 4, .inl f)) = cwX g (upA h 20 f) := rfl
theorem wX_21 (g : Gl) (h : Hp) (f : Nat → Int32) : (cwX g h).set 21 (g.2.1 21, .inl (g.2.2.1 0, 40, .inl f)) = cwX g (upA h 21 f) := rfl
theorem wX_22 (g : Gl) (h : Hp) (f : Nat → Int32) : (cwX g h).set 22 (g.2.1 22, .inl (g.2.2.1 0, 10, .inl f)) = cwX g (upA h 22 f) := rfl
theorem wX_24 (g : Gl) (h : Hp) (f : Nat → Int32) : (cwX g h).set 24 (g.2.1 24, .inl (g.2.2.1 0, 10, .inl f)) = cwX g (upA h 24 f) := rfl
theorem wX_25 (g : Gl) (h : Hp) (f : Nat → Int32) : (cwX g h).set 25 (g.2.1 25, .inl (g.2.2.1 0, 10, .inl f)) = cwX g (upA h 25 f) := rfl
theorem wX_26 (g : Gl) (h : Hp) (f : Nat → Int32) : (cwX g h).set 26 (g.2.1 26, .inl (g.2.2.1 0, 10, .inl f)) = cwX g (upA h 26 f) := rfl
theorem wX_27 (g : Gl) (h : Hp) (f : Nat → Int32) : (cwX g h).set 27 (g.2.1 27, .inl (g.2.2.1 0, 10, .inl f)) = cwX g (upA h 27 f) := rfl
theorem wX_28 (g : Gl) (h : Hp) (f : Nat → Int32) : (cwX g h).set 28 (g.2.1 28, .inl (g.2.2.1 0, 6, .inl f)) = cwX g (upA h 28 f) := rfl
theorem wX_29 (g : Gl) (h : Hp) (f : Nat → Int32) : (cwX g h).set 29 (g.2.1 29, .inl (g.2.2.1 0, 6, .inl f)) = cwX g (upA h 29 f) := rfl
theorem wX_30 (g : Gl) (h : Hp) (f : Nat → Int32) : (cwX g h).set 30 (g.2.1 30, .inl (g.2.2.1 0, 6, .inl f)) = cwX g (upA h 30 f) := rfl
theorem wX_31 (g : Gl) (h : Hp) (f : Nat → Int32) : (cwX g h).set 31 (g.2.1 31, .inl (g.2.2.1 0, 4, .inl f)) = cwX g (upA h 31 f) := rfl
theorem wX_32 (g : Gl) (h : Hp) (f : Nat → Int32) : (cwX g h).set 32 (g.2.1 32, .inl (g.2.2.1 0, 40, .inl f)) = cwX g (upA h 32 f) := rfl
theorem wX_33 (g : Gl) (h : Hp) (f : Nat → Int32) : (cwX g h).set 33 (g.2.1 33, .inl (g.2.2.1 0, 10, .inl f)) = cwX g (upA h 33 f) := rfl
theorem wX_48 (g : Gl) (h : Hp) (f : Nat → Int32) : (cwX g h).set 48 (g.2.1 48, .inl (g.2.2.1 0, 40, .inl f)) = cwX g (upA h 48 f) := rfl
theorem wX_50 (g : Gl) (h : Hp) (f : Nat → Int32) : (cwX g h).set 50 (g.2.1 50, .inl (g.2.2.1 0, 40, .inl f)) = cwX g (upA h 50 f) := rfl
theorem wX_52 (g : Gl) (h : Hp) (f : Nat → Int32) : (cwX g h).set 52 (g.2.1 52, .inl (g.2.2.1 0, 40, .inl f)) = cwX g (upA h 52 f) := rfl
theorem wX_54 (g : Gl) (h : Hp) (f : Nat → Int32) : (cwX g h).set 54 (g.2.1 54, .inl (g.2.2.1 0, 40, .inl f)) = cwX g (upA h 54 f) := rfl
