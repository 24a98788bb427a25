-- X0_survey
set_option maxRecDepth 20000 in
theorem j_X0_survey_45 {x : Fx} {g : Gl} (C : Ok x g RX0 cX0_survey 5 none) (fu : Nat) (k15 : Int32 → Hp → Option (Hp)) (hk15 : ∀ (x2 : Int32) (h : Hp), J x g cwX 5 4 (fun r : Hp => qV cwX r) 15 [some (rf g 34), some (rf g 1), some (.int x2)] [] h (k15 x2 h)) : ∀ (n : Nat) (x2 : Int32) (x3 : Int32) (h : Hp), J x g cwX 5 4 (fun r : Hp => qV cwX r) 45 [some (rf g 34), some (rf g 1), some (.int x2), some (.int x3)] [] h (X0_survey_45 fu k15 n x2 x3 h) := by
  intro n
  induction n with
  | zero =>
    intro x2 x3 h
    rw [X0_survey_45]
    exact j_none
  | succ n ih =>
    intro x2 x3 h
    rw [X0_survey_45]
    refine j_iload_n C dX0_survey_45 rfl (n := 46) rfl ?_
    refine j_bipush C dX0_survey_46 bp_6 (n := 48) rfl ?_
    refine j_icmp_ge C dX0_survey_48 (tgt := 95) (n := 51) (by decide) rfl (fun q1 => ?_) (fun q1 => ?_)
    · refine j_iinc C dX0_survey_95 rfl ic_1 (Nat.le_of_ble_eq_true rfl) (n := 98) rfl ?_
      refine j_goto C dX0_survey_98 (n := 15) (by decide) ?_
      exact j_to (hk15 _ _) ⟨rfl, ⟨rfl, ⟨rfl, trivial⟩⟩⟩
    · refine j_aload_n C dX0_survey_51 rfl (n := 52) rfl ?_
      refine gf_X0_61 C 1 (cX_1 g _) rfl dX0_survey_52 (n := 55) rfl ?_
      refine j_iload_n C dX0_survey_55 rfl (n := 56) rfl ?_
      refine j_iald C 8 (cX_8 g _) dX0_survey_56 (n := 57) rfl ?_
      refine j_istore C dX0_survey_57 (Nat.le_of_ble_eq_true rfl) (n := 59) rfl ?_
      refine j_aload_n C dX0_survey_59 rfl (n := 60) rfl ?_
      refine gf_X0_9 C 34 (cX_34 g _) rfl dX0_survey_60 (n := 63) rfl ?_
      refine j_iload_n C dX0_survey_63 rfl (n := 64) rfl ?_
      refine j_bipush C dX0_survey_64 bp_6 (n := 66) rfl ?_
      refine j_imul C dX0_survey_66 (n := 67) rfl ?_
      refine j_iload_n C dX0_survey_67 rfl (n := 68) rfl ?_
      refine j_iadd C dX0_survey_68 (n := 69) rfl ?_
      refine j_iload C dX0_survey_69 rfl (n := 71) rfl ?_
      refine j_cz C (run_SN C mi_X7_isFace ns_X0_64 st_X7_isFace ⟨Nat.le_of_ble_eq_true rfl, Nat.le_of_ble_eq_true rfl⟩ (m_X7_isFace _ _ _) rfl rfl rfl (Nat.le_of_ble_eq_true rfl) dX0_survey_71) (n := 74) rfl (fun b2 => ?_)
      refine j_if_eq C dX0_survey_74 (tgt := 87) (n := 77) (by decide) rfl (fun q3 => ?_) (fun q3 => ?_)
      · refine j_iconst C dX0_survey_87 ic_0 (n := 88) rfl ?_
        refine j_iast C 35 (cX_35 g _) (aX_35 g _ _ _) dX0_survey_88 (n := 89) rfl ?_
        refine j_iinc C dX0_survey_89 rfl ic_1 (Nat.le_of_ble_eq_true rfl) (n := 92) rfl ?_
        refine j_goto C dX0_survey_92 (n := 45) (by decide) ?_
        exact j_to (ih _ _ _) ⟨rfl, ⟨rfl, ⟨rfl, ⟨rfl, trivial⟩⟩⟩⟩
      · refine j_aload_n C dX0_survey_77 rfl (n := 78) rfl ?_
        refine j_iload_n C dX0_survey_78 rfl (n := 79) rfl ?_
        refine j_iload C dX0_survey_79 rfl (n := 81) rfl ?_
        refine j_bnd (fun r5 q4 => ?_)
        refine j_ci C (run_V C mi_X1_likeTo lm_X0_67 iv_X1_likeTo ⟨Nat.le_of_ble_eq_true rfl, Nat.le_of_ble_eq_true rfl⟩ (m_X1_likeTo _ _ _ _ q4) (cX_1 g _) rfl rfl rfl rfl (Nat.le_of_ble_eq_true rfl) dX0_survey_81) (n := 84) rfl ?_
        refine j_goto C dX0_survey_84 (n := 88) (by decide) ?_
        refine j_iast C 35 (cX_35 g _) (aX_35 g _ _ _) dX0_survey_88 (n := 89) rfl ?_
        refine j_iinc C dX0_survey_89 rfl ic_1 (Nat.le_of_ble_eq_true rfl) (n := 92) rfl ?_
        refine j_goto C dX0_survey_92 (n := 45) (by decide) ?_
        exact j_to (ih _ _ _) ⟨rfl, ⟨rfl, ⟨rfl, ⟨rfl, trivial⟩⟩⟩⟩
set_option maxRecDepth 20000 in
theorem j_X0_survey_15 {x : Fx} {g : Gl} (C : Ok x g RX0 cX0_survey 5 none) (fu : Nat) : ∀ (n : Nat) (x2 : Int32) (h : Hp), J x g cwX 5 4 (fun r : Hp => qV cwX r) 15 [some (rf g 34), some (rf g 1), some (.int x2)] [] h (X0_survey_15 fu n x2 h) := by
  intro n
  induction n with
  | zero =>
    intro x2 h
    rw [X0_survey_15]
    exact j_none
  | succ n ih =>
    intro x2 h
    rw [X0_survey_15]
    refine j_iload_n C dX0_survey_15 rfl (n := 16) rfl ?_
    refine j_aload_n C dX0_survey_16 rfl (n := 17) rfl ?_
    refine gf_X0_54 C 1 (cX_1 g _) rfl dX0_survey_17 (n := 20) rfl ?_
    refine j_icmp_ge C dX0_survey_20 (tgt := 101) (n := 23) (by decide) rfl (fun q1 => ?_) (fun q1 => ?_)
    · exact j_retV C dX0_survey_101
    · refine j_aload_n C dX0_survey_23 rfl (n := 24) rfl ?_
      refine j_iload_n C dX0_survey_24 rfl (n := 25) rfl ?_
      refine j_bnd (fun r3 q2 => ?_)
      refine j_cz C (run_V C mi_X1_isHead lm_X0_57 iv_X1_isHead ⟨Nat.le_of_ble_eq_true rfl, Nat.le_of_ble_eq_true rfl⟩ (m_X1_isHead _ _ _ _ q2) (cX_1 g _) rfl rfl rfl rfl (Nat.le_of_ble_eq_true rfl) dX0_survey_25) (n := 28) rfl (fun b4 => ?_)
      refine j_if_eq C dX0_survey_28 (tgt := 95) (n := 31) (by decide) rfl (fun q5 => ?_) (fun q5 => ?_)
      · refine j_iinc C dX0_survey_95 rfl ic_1 (Nat.le_of_ble_eq_true rfl) (n := 98) rfl ?_
        refine j_goto C dX0_survey_98 (n := 15) (by decide) ?_
        exact j_to (ih _ _) ⟨rfl, ⟨rfl, ⟨rfl, trivial⟩⟩⟩
      · refine j_aload_n C dX0_survey_31 rfl (n := 32) rfl ?_
        refine j_dup C dX0_survey_32 rfl (n := 33) rfl ?_
        refine gf_X0_26 C 34 (cX_34 g _) rfl dX0_survey_33 (n := 36) rfl ?_
        refine j_iconst C dX0_survey_36 ic_1 (n := 37) rfl ?_
        refine j_iload_n C dX0_survey_37 rfl (n := 38) rfl ?_
        refine j_ishl C dX0_survey_38 (n := 39) rfl ?_
        refine j_ior C dX0_survey_39 (n := 40) rfl ?_
        refine pf_X0_26 C 34 (cX_34 g _) (sX_34_2 g _ _) rfl dX0_survey_40 (n := 43) rfl ?_
        refine j_iconst C dX0_survey_43 ic_0 (n := 44) rfl ?_
        refine j_istore_n C dX0_survey_44 (Nat.le_of_ble_eq_true rfl) (n := 45) rfl ?_
        exact j_to (j_X0_survey_45 C _ _ ih _ _ _ _) ⟨rfl, ⟨rfl, ⟨rfl, ⟨rfl, trivial⟩⟩⟩⟩
set_option maxRecDepth 20000 in
theorem m_X0_survey (l : Launch) (fu : Nat) (h : Hp) {r : Hp} (e : X0_survey fu h = some r) : CT l yX0_survey cX0_survey 5 none 4 cwX (fun g => [rf g 34, rf g 1]) h (qV cwX r) := by
  refine ct_of (QR := (fun r : Hp => qV cwX r)) (by decide +kernel) (fun g => ⟨rfl, Nat.le_of_ble_eq_true rfl⟩) e (fun x g hl C => ?_)
  unfold X0_survey
  refine j_aload_n C dX0_survey_0 rfl (n := 1) rfl ?_
  refine j_aload_n C dX0_survey_1 rfl (n := 2) rfl ?_
  refine j_bnd (fun r2 q1 => ?_)
  refine j_ci C (run_V C mi_X1_roomsShown lm_X0_50 iv_X1_roomsShown ⟨Nat.le_of_ble_eq_true rfl, Nat.le_of_ble_eq_true rfl⟩ (m_X1_roomsShown _ _ _ q1) (cX_1 g _) rfl rfl rfl rfl (Nat.le_of_ble_eq_true rfl) dX0_survey_2) (n := 5) rfl ?_
  refine pf_X0_22 C 34 (cX_34 g _) (sX_34_3 g _ _) rfl dX0_survey_5 (n := 8) rfl ?_
  refine j_aload_n C dX0_survey_8 rfl (n := 9) rfl ?_
  refine j_iconst C dX0_survey_9 ic_0 (n := 10) rfl ?_
  refine pf_X0_26 C 34 (cX_34 g _) (sX_34_2 g _ _) rfl dX0_survey_10 (n := 13) rfl ?_
  refine j_iconst C dX0_survey_13 ic_0 (n := 14) rfl ?_
  refine j_istore_n C dX0_survey_14 (Nat.le_of_ble_eq_true rfl) (n := 15) rfl ?_
  exact j_to (j_X0_survey_15 C _ _ _ _) ⟨rfl, ⟨rfl, ⟨rfl, trivial⟩⟩⟩
-- J7_fill_53178
set_option maxRecDepth 20000 in
theorem j_J7_fill_53178_5_48 {x : Fx} {g : Gl} (C : Ok x g RJ7 cJ7_fill_53178 4 none) (fu : Nat) : ∀ (n : Nat) (x1 : Int32) (x2 : Int32) (x3 : Int32) (h : Hp), J x g cwX 4 0 (fun r : Hp => qV cwX r) 5 [some (rf g 48), some (.int x1), some (.int x2), some (.int x3)] [] h (J7_fill_53178_5 fu 48 n x1 x2 x3 h) := by
  intro n
  induction n with
  | zero =>
    intro x1 x2 x3 h
    rw [J7_fill_53178_5]
    exact j_none
  | succ n ih =>
    intro x1 x2 x3 h
    rw [J7_fill_53178_5]
    refine j_iload_n C dJ7_fill_53178_5 rfl (n := 6) rfl ?_
    refine j_iload_n C dJ7_fill_53178_6 rfl (n := 7) rfl ?_
    refine j_icmp_ge C dJ7_fill_53178_7 (tgt := 20) (n := 10) (by decide) rfl (fun q1 => ?_) (fun q1 => ?_)
    · exact j_retV C dJ7_fill_53178_20
    · refine j_aload_n C dJ7_fill_53178_10 rfl (n := 11) rfl ?_
      refine j_iload_n C dJ7_fill_53178_11 rfl (n := 12) rfl ?_
      refine j_iload_n C dJ7_fill_53178_12 rfl (n := 13) rfl ?_
      refine j_iast C 48 (cX_48 g _) (aX_48 g _ _ _) dJ7_fill_53178_13 (n := 14) rfl ?_
      refine j_iinc C dJ7_fill_53178_14 rfl ic_1 (Nat.le_of_ble_eq_true rfl) (n := 17) rfl ?_
      refine j_goto C dJ7_fill_53178_17 (n := 5) (by decide) ?_
      exact j_to (ih _ _ _ _) ⟨rfl, ⟨rfl, ⟨rfl, ⟨rfl, trivial⟩⟩⟩⟩
set_option maxRecDepth 20000 in
theorem m_J7_fill_53178_48 (l : Launch) (fu : Nat) (x1 : Int32) (h : Hp) {r : Hp} (e : J7_fill_53178 fu 48 x1 h = some r) : CT l yJ7_fill_53178 cJ7_fill_53178 4 none 0 cwX (fun g => [rf g 48, .int x1]) h (qV cwX r) := by
  refine ct_of (QR := (fun r : Hp => qV cwX r)) (by decide +kernel) (fun g => ⟨rfl, Nat.le_of_ble_eq_true rfl⟩) e (fun x g hl C => ?_)
  unfold J7_fill_53178
  refine j_iconst C dJ7_fill_53178_0 ic_0 (n := 1) rfl ?_
  refine j_istore_n C dJ7_fill_53178_1 (Nat.le_of_ble_eq_true rfl) (n := 2) rfl ?_
  refine j_aload_n C dJ7_fill_53178_2 rfl (n := 3) rfl ?_
  refine j_alen C 48 0 (cX_48 g _) rfl rfl dJ7_fill_53178_3 (n := 4) rfl ?_
  refine j_istore_n C dJ7_fill_53178_4 (Nat.le_of_ble_eq_true rfl) (n := 5) rfl ?_
  exact j_to (j_J7_fill_53178_5_48 C _ _ _ _ _ _) ⟨rfl, ⟨rfl, ⟨rfl, ⟨rfl, trivial⟩⟩⟩⟩
-- J7_fill_53178
set_option maxRecDepth 20000 in
theorem j_J7_fill_53178_5_50 {x : Fx} {g : Gl} (C : Ok x g RJ7 cJ7_fill_53178 4 none) (fu : Nat) : ∀ (n : Nat) (x1 : Int32) (x2 : Int32) (x3 : Int32) (h : Hp), J x g cwX 4 0 (fun r : Hp => qV cwX r) 5 [some (rf g 50), some (.int x1), some (.int x2), some (.int x3)] [] h (J7_fill_53178_5 fu 50 n x1 x2 x3 h) := by
  intro n
  induction n with
  | zero =>
    intro x1 x2 x3 h
    rw [J7_fill_53178_5]
    exact j_none
  | succ n ih =>
    intro x1 x2 x3 h
    rw [J7_fill_53178_5]
    refine j_iload_n C dJ7_fill_53178_5 rfl (n := 6) rfl ?_
    refine j_iload_n C dJ7_fill_53178_6 rfl (n := 7) rfl ?_
    refine j_icmp_ge C dJ7_fill_53178_7 (tgt := 20) (n := 10) (by decide) rfl (fun q1 => ?_) (fun q1 => ?_)
    · exact j_retV C dJ7_fill_53178_20
    · refine j_aload_n C dJ7_fill_53178_10 rfl (n := 11) rfl ?_
      refine j_iload_n C dJ7_fill_53178_11 rfl (n := 12) rfl ?_
      refine j_iload_n C dJ7_fill_53178_12 rfl (n := 13) rfl ?_
      refine j_iast C 50 (cX_50 g _) (aX_50 g _ _ _) dJ7_fill_53178_13 (n := 14) rfl ?_
      refine j_iinc C dJ7_fill_53178_14 rfl ic_1 (Nat.le_of_ble_eq_true rfl) (n := 17) rfl ?_
      refine j_goto C dJ7_fill_53178_17 (n := 5) (by decide) ?_
      exact j_to (ih _ _ _ _) ⟨rfl, ⟨rfl, ⟨rfl, ⟨rfl, trivial⟩⟩⟩⟩
set_option maxRecDepth 20000 in
theorem m_J7_fill_53178_50 (l : Launch) (fu : Nat) (x1 : Int32) (h : Hp) {r : Hp} (e : J7_fill_53178 fu 50 x1 h = some r) : CT l yJ7_fill_53178 cJ7_fill_53178 4 none 0 cwX (fun g => [rf g 50, .int x1]) h (qV cwX r) := by
  refine ct_of (QR := (fun r : Hp => qV cwX r)) (by decide +kernel) (fun g => ⟨rfl, Nat.le_of_ble_eq_true rfl⟩) e (fun x g hl C => ?_)
  unfold J7_fill_53178
  refine j_iconst C dJ7_fill_53178_0 ic_0 (n := 1) rfl ?_
  refine j_istore_n C dJ7_fill_53178_1 (Nat.le_of_ble_eq_true rfl) (n := 2) rfl ?_
  refine j_aload_n C dJ7_fill_53178_2 rfl (n := 3) rfl ?_
  refine j_alen C 50 0 (cX_50 g _) rfl rfl dJ7_fill_53178_3 (n := 4) rfl ?_
  refine j_istore_n C dJ7_fill_53178_4 (Nat.le_of_ble_eq_true rfl) (n := 5) rfl ?_
  exact j_to (j_J7_fill_53178_5_50 C _ _ _ _ _ _) ⟨rfl, ⟨rfl, ⟨rfl, ⟨rfl, trivial⟩⟩⟩⟩
-- J7_fill_53178
set_option maxRecDepth 20000 in
theorem j_J7_fill_53178_5_52 {x : Fx} {g : Gl} (C : Ok x g RJ7 cJ7_fill_53178 4 none) (fu : Nat) : ∀ (n : Nat) (x1 : Int32) (x2 : Int32) (x3 : Int32) (h : Hp), J x g cwX 4 0 (fun r : Hp => qV cwX r) 5 [some (rf g 52), some (.int x1), some (.int x2), some (.int x3)] [] h (J7_fill_53178_5 fu 52 n x1 x2 x3 h) := by
  intro n
  induction n with
  | zero =>
    intro x1 x2 x3 h
    rw [J7_fill_53178_5]
    exact j_none
  | succ n ih =>
    intro x1 x2 x3 h
    rw [J7_fill_53178_5]
    refine j_iload_n C dJ7_fill_53178_5 rfl (n := 6) rfl ?_
    refine j_iload_n C dJ7_fill_53178_6 rfl (n := 7) rfl ?_
    refine j_icmp_ge C dJ7_fill_53178_7 (tgt := 20) (n := 10) (by decide) rfl (fun q1 => ?_) (fun q1 => ?_)
    · exact j_retV C dJ7_fill_53178_20
    · refine j_aload_n C dJ7_fill_53178_10 rfl (n := 11) rfl ?_
      refine j_iload_n C dJ7_fill_53178_11 rfl (n := 12) rfl ?_
      refine j_iload_n C dJ7_fill_53178_12 rfl (n := 13) rfl ?_
      refine j_iast C 52 (cX_52 g _) (aX_52 g _ _ _) dJ7_fill_53178_13 (n := 14) rfl ?_
      refine j_iinc C dJ7_fill_53178_14 rfl ic_1 (Nat.le_of_ble_eq_true rfl) (n := 17) rfl ?_
      refine j_goto C dJ7_fill_53178_17 (n := 5) (by decide) ?_
      exact j_to (ih _ _ _ _) ⟨rfl, ⟨rfl, ⟨rfl, ⟨rfl, trivial⟩⟩⟩⟩
set_option maxRecDepth 20000 in
theorem m_J7_fill_53178_52 (l : Launch) (fu : Nat) (x1 : Int32) (h : Hp) {r : Hp} (e : J7_fill_53178 fu 52 x1 h = some r) : CT l yJ7_fill_53178 cJ7_fill_53178 4 none 0 cwX (fun g => [rf g 52, .int x1]) h (qV cwX r) := by
  refine ct_of (QR := (fun r : Hp => qV cwX r)) (by decide +kernel) (fun g => ⟨rfl, Nat.le_of_ble_eq_true rfl⟩) e (fun x g hl C => ?_)
  unfold J7_fill_53178
  refine j_iconst C dJ7_fill_53178_0 ic_0 (n := 1) rfl ?_
  refine j_istore_n C dJ7_fill_53178_1 (Nat.le_of_ble_eq_true rfl) (n := 2) rfl ?_
  refine j_aload_n C dJ7_fill_53178_2 rfl (n := 3) rfl ?_
  refine j_alen C 52 0 (cX_52 g _) rfl rfl dJ7_fill_53178_3 (n := 4) rfl ?_
  refine j_istore_n C dJ7_fill_53178_4 (Nat.le_of_ble_eq_true rfl) (n := 5) rfl ?_
  exact j_to (j_J7_fill_53178_5_52 C _ _ _ _ _ _) ⟨rfl, ⟨rfl, ⟨rfl, ⟨rfl, trivial⟩⟩⟩⟩
-- J7_fill_53178
set_option maxRecDepth 20000 in
theorem j_J7_fill_53178_5_54 {x : Fx} {g : Gl} (C : Ok x g RJ7 cJ7_fill_53178 4 none) (fu : Nat) : ∀ (n : Nat) (x1 : Int32) (x2 : Int32) (x3 : Int32) (h : Hp), J x g cwX 4 0 (fun r : Hp => qV cwX r) 5 [some (rf g 54), some (.int x1), some (.int x2), some (.int x3)] [] h (J7_fill_53178_5 fu 54 n x1 x2 x3 h) := by
  intro n
  induction n with
  | zero =>
    intro x1 x2 x3 h
    rw [J7_fill_53178_5]
    exact j_none
  | succ n ih =>
    intro x1 x2 x3 h
    rw [J7_fill_53178_5]
    refine j_iload_n C dJ7_fill_53178_5 rfl (n := 6) rfl ?_
    refine j_iload_n C dJ7_fill_53178_6 rfl (n := 7) rfl ?_
    refine j_icmp_ge C dJ7_fill_53178_7 (tgt := 20) (n := 10) (by decide) rfl (fun q1 => ?_) (fun q1 => ?_)
    · exact j_retV C dJ7_fill_53178_20
    · refine j_aload_n C dJ7_fill_53178_10 rfl (n := 11) rfl ?_
      refine j_iload_n C dJ7_fill_53178_11 rfl (n := 12) rfl ?_
      refine j_iload_n C dJ7_fill_53178_12 rfl (n := 13) rfl ?_
      refine j_iast C 54 (cX_54 g _) (aX_54 g _ _ _) dJ7_fill_53178_13 (n := 14) rfl ?_
      refine j_iinc C dJ7_fill_53178_14 rfl ic_1 (Nat.le_of_ble_eq_true rfl) (n := 17) rfl ?_
      refine j_goto C dJ7_fill_53178_17 (n := 5) (by decide) ?_
      exact j_to (ih _ _ _ _) ⟨rfl, ⟨rfl, ⟨rfl, ⟨rfl, trivial⟩⟩⟩⟩
set_option maxRecDepth 20000 in
theorem m_J7_fill_53178_54 (l : Launch) (fu : Nat) (x1 : Int32) (h : Hp) {r : Hp} (e : J7_fill_53178 fu 54 x1 h = some r) : CT l yJ7_fill_53178 cJ7_fill_53178 4 none 0 cwX (fun g => [rf g 54, .int x1]) h (qV cwX r) := by
  refine ct_of (QR := (fun r : Hp => qV cwX r)) (by decide +kernel) (fun g => ⟨rfl, Nat.le_of_ble_eq_true rfl⟩) e (fun x g hl C => ?_)
  unfold J7_fill_53178
  refine j_iconst C dJ7_fill_53178_0 ic_0 (n := 1) rfl ?_
  refine j_istore_n C dJ7_fill_53178_1 (Nat.le_of_ble_eq_true rfl) (n := 2) rfl ?_
  refine j_aload_n C dJ7_fill_53178_2 rfl (n := 3) rfl ?_
  refine j_alen C 54 0 (cX_54 g _) rfl rfl dJ7_fill_53178_3 (n := 4) rfl ?_
  refine j_istore_n C dJ7_fill_53178_4 (Nat.le_of_ble_eq_true rfl) (n := 5) rfl ?_
  exact j_to (j_J7_fill_53178_5_54 C _ _ _ _ _ _) ⟨rfl, ⟨rfl, ⟨rfl, ⟨rfl, trivial⟩⟩⟩⟩
-- J7_fill_53178
set_option maxRecDepth 20000 in
theorem j_J7_fill_53178_5_36 {x : Fx} {g : Gl} (C : Ok x g RJ7 cJ7_fill_53178 4 none) (fu : Nat) : ∀ (n : Nat) (x1 : Int32) (x2 : Int32) (x3 : Int32) (h : Hp), J x g cwX 4 0 (fun r : Hp => qV cwX r) 5 [some (rf g 36), some (.int x1), some (.int x2), some (.int x3)] [] h (J7_fill_53178_5 fu 36 n x1 x2 x3 h) := by
  intro n
  induction n with
  | zero =>
    intro x1 x2 x3 h
    rw [J7_fill_53178_5]
    exact j_none
  | succ n ih =>
    intro x1 x2 x3 h
    rw [J7_fill_53178_5]
    refine j_iload_n C dJ7_fill_53178_5 rfl (n := 6) rfl ?_
    refine j_iload_n C dJ7_fill_53178_6 rfl (n := 7) rfl ?_
    refine j_icmp_ge C dJ7_fill_53178_7 (tgt := 20) (n := 10) (by decide) rfl (fun q1 => ?_) (fun q1 => ?_)
    · exact j_retV C dJ7_fill_53178_20
    · refine j_aload_n C dJ7_fill_53178_10 rfl (n := 11) rfl ?_
      refine j_iload_n C dJ7_fill_53178_11 rfl (n := 12) rfl ?_
      refine j_iload_n C dJ7_fill_53178_12 rfl (n := 13) rfl ?_
      refine j_iast C 36 (cX_36 g _) (aX_36 g _ _ _) dJ7_fill_53178_13 (n := 14) rfl ?_
      refine j_iinc C dJ7_fill_53178_14 rfl ic_1 (Nat.le_of_ble_eq_true rfl) (n := 17) rfl ?_
      refine j_goto C dJ7_fill_53178_17 (n := 5) (by decide) ?_
      exact j_to (ih _ _ _ _) ⟨rfl, ⟨rfl, ⟨rfl, ⟨rfl, trivial⟩⟩⟩⟩
set_option maxRecDepth 20000 in
theorem m_J7_fill_53178_36 (l : Launch) (fu : Nat) (x1 : Int32) (h : Hp) {r : Hp} (e : J7_fill_53178 fu 36 x1 h = some r) : CT l yJ7_fill_53178 cJ7_fill_53178 4 none 0 cwX (fun g => [rf g 36, .int x1]) h (qV cwX r) := by
  refine ct_of (QR := (fun r : Hp => qV cwX r)) (by decide +kernel) (fun g => ⟨rfl, Nat.le_of_ble_eq_true rfl⟩) e (fun x g hl C => ?_)
  unfold J7_fill_53178
  refine j_iconst C dJ7_fill_53178_0 ic_0 (n := 1) rfl ?_
  refine j_istore_n C dJ7_fill_53178_1 (Nat.le_of_ble_eq_true rfl) (n := 2) rfl ?_
  refine j_aload_n C dJ7_fill_53178_2 rfl (n := 3) rfl ?_
  refine j_alen C 36 0 (cX_36 g _) rfl rfl dJ7_fill_53178_3 (n := 4) rfl ?_
  refine j_istore_n C dJ7_fill_53178_4 (Nat.le_of_ble_eq_true rfl) (n := 5) rfl ?_
  exact j_to (j_J7_fill_53178_5_36 C _ _ _ _ _ _) ⟨rfl, ⟨rfl, ⟨rfl, ⟨rfl, trivial⟩⟩⟩⟩
-- J7_fill_53178
set_option maxRecDepth 20000 in
theorem j_J7_fill_53178_5_38 {x : Fx} {g : Gl} (C : Ok x g RJ7 cJ7_fill_53178 4 none) (fu : Nat) : ∀ (n : Nat) (x1 : Int32) (x2 : Int32) (x3 : Int32) (h : Hp), J x g cwX 4 0 (fun r : Hp => qV cwX r) 5 [some (rf g 38), some (.int x1), some (.int x2), some (.int x3)] [] h (J7_fill_53178_5 fu 38 n x1 x2 x3 h) := by
  intro n
  induction n with
  | zero =>
    intro x1 x2 x3 h
    rw [J7_fill_53178_5]
    exact j_none
  | succ n ih =>
    intro x1 x2 x3 h
    rw [J7_fill_53178_5]
    refine j_iload_n C dJ7_fill_53178_5 rfl (n := 6) rfl ?_
    refine j_iload_n C dJ7_fill_53178_6 rfl (n := 7) rfl ?_
    refine j_icmp_ge C dJ7_fill_53178_7 (tgt := 20) (n := 10) (by decide) rfl (fun q1 => ?_) (fun q1 => ?_)
    · exact j_retV C dJ7_fill_53178_20
    · refine j_aload_n C dJ7_fill_53178_10 rfl (n := 11) rfl ?_
      refine j_iload_n C dJ7_fill_53178_11 rfl (n := 12) rfl ?_
      refine j_iload_n C dJ7_fill_53178_12 rfl (n := 13) rfl ?_
      refine j_iast C 38 (cX_38 g _) (aX_38 g _ _ _) dJ7_fill_53178_13 (n := 14) rfl ?_
      refine j_iinc C dJ7_fill_53178_14 rfl ic_1 (Nat.le_of_ble_eq_true rfl) (n := 17) rfl ?_
      refine j_goto C dJ7_fill_53178_17 (n := 5) (by decide) ?_
      exact j_to (ih _ _ _ _) ⟨rfl, ⟨rfl, ⟨rfl, ⟨rfl, trivial⟩⟩⟩⟩
set_option maxRecDepth 20000 in
theorem m_J7_fill_53178_38 (l : Launch) (fu : Nat) (x1 : Int32) (h : Hp) {r : Hp} (e : J7_fill_53178 fu 38 x1 h = some r) : CT l yJ7_fill_53178 cJ7_fill_53178 4 none 0 cwX (fun g => [rf g 38, .int x1]) h (qV cwX r) := by
  refine ct_of (QR := (fun r : Hp => qV cwX r)) (by decide +kernel) (fun g => ⟨rfl, Nat.le_of_ble_eq_true rfl⟩) e (fun x g hl C => ?_)
  unfold J7_fill_53178
  refine j_iconst C dJ7_fill_53178_0 ic_0 (n := 1) rfl ?_
  refine j_istore_n C dJ7_fill_53178_1 (Nat.le_of_ble_eq_true rfl) (n := 2) rfl ?_
  refine j_aload_n C dJ7_fill_53178_2 rfl (n := 3) rfl ?_
  refine j_alen C 38 0 (cX_38 g _) rfl rfl dJ7_fill_53178_3 (n := 4) rfl ?_
  refine j_istore_n C dJ7_fill_53178_4 (Nat.le_of_ble_eq_true rfl) (n := 5) rfl ?_
  exact j_to (j_J7_fill_53178_5_38 C _ _ _ _ _ _) ⟨rfl, ⟨rfl, ⟨rfl, ⟨rfl, trivial⟩⟩⟩⟩
-- J7_fill_53178
set_option maxRecDepth 20000 in
theorem j_J7_fill_53178_5_39 {x : Fx} {g : Gl} (C : Ok x g RJ7 cJ7_fill_53178 4 none) (fu : Nat) : ∀ (n : Nat) (x1 : Int32) (x2 : Int32) (x3 : Int32) (h : Hp), J x g cwX 4 0 (fun r : Hp => qV cwX r) 5 [some (rf g 39), some (.int x1), some (.int x2), some (.int x3)] [] h (J7_fill_53178_5 fu 39 n x1 x2 x3 h) := by
  intro n
  induction n with
  | zero =>
    intro x1 x2 x3 h
    rw [J7_fill_53178_5]
    exact j_none
  | succ n ih =>
    intro x1 x2 x3 h
    rw [J7_fill_53178_5]
    refine j_iload_n C dJ7_fill_53178_5 rfl (n := 6) rfl ?_
    refine j_iload_n C dJ7_fill_53178_6 rfl (n := 7) rfl ?_
    refine j_icmp_ge C dJ7_fill_53178_7 (tgt := 20) (n := 10) (by decide) rfl (fun q1 => ?_) (fun q1 => ?_)
    · exact j_retV C dJ7_fill_53178_20
    · refine j_aload_n C dJ7_fill_53178_10 rfl (n := 11) rfl ?_
      refine j_iload_n C dJ7_fill_53178_11 rfl (n := 12) rfl ?_
      refine j_iload_n C dJ7_fill_53178_12 rfl (n := 13) rfl ?_
      refine j_iast C 39 (cX_39 g _) (aX_39 g _ _ _) dJ7_fill_53178_13 (n := 14) rfl ?_
      refine j_iinc C dJ7_fill_53178_14 rfl ic_1 (Nat.le_of_ble_eq_true rfl) (n := 17) rfl ?_
      refine j_goto C dJ7_fill_53178_17 (n := 5) (by decide) ?_
      exact j_to (ih _ _ _ _) ⟨rfl, ⟨rfl, ⟨rfl, ⟨rfl, trivial⟩⟩⟩⟩
set_option maxRecDepth 20000 in
theorem m_J7_fill_53178_39 (l : Launch) (fu : Nat) (x1 : Int32) (h : Hp) {r : Hp} (e : J7_fill_53178 fu 39 x1 h = some r) : CT l yJ7_fill_53178 cJ7_fill_53178 4 none 0 cwX (fun g => [rf g 39, .int x1]) h (qV cwX r) := by
  refine ct_of (QR := (fun r : Hp => qV cwX r)) (by decide +kernel) (fun g => ⟨rfl, Nat.le_of_ble_eq_true rfl⟩) e (fun x g hl C => ?_)
  unfold J7_fill_53178
  refine j_iconst C dJ7_fill_53178_0 ic_0 (n := 1) rfl ?_
  refine j_istore_n C dJ7_fill_53178_1 (Nat.le_of_ble_eq_true rfl) (n := 2) rfl ?_
  refine j_aload_n C dJ7_fill_53178_2 rfl (n := 3) rfl ?_
  refine j_alen C 39 0 (cX_39 g _) rfl rfl dJ7_fill_53178_3 (n := 4) rfl ?_
  refine j_istore_n C dJ7_fill_53178_4 (Nat.le_of_ble_eq_true rfl) (n := 5) rfl ?_
  exact j_to (j_J7_fill_53178_5_39 C _ _ _ _ _ _) ⟨rfl, ⟨rfl, ⟨rfl, ⟨rfl, trivial⟩⟩⟩⟩
-- X0_worthIn
set_option maxRecDepth 20000 in
theorem j_X0_worthIn_10 {x : Fx} {g : Gl} (C : Ok x g RX0 cX0_worthIn 5 (some .int)) (fu : Nat) (h : Hp) : ∀ (n : Nat) (x1 : Int32) (x2 : Int32) (x3 : Int32) (x4 : Int32), J x g cwX 5 1 (fun r : Int32 => qI cwX r h) 10 [some (rf g 34), some (.int x1), some (.int x2), some (.int x3), some (.int x4)] [] h (X0_worthIn_10 fu h n x1 x2 x3 x4) := by
  intro n
  induction n with
  | zero =>
    intro x1 x2 x3 x4
    rw [X0_worthIn_10]
    exact j_none
  | succ n ih =>
    intro x1 x2 x3 x4
    rw [X0_worthIn_10]
    refine j_iload C dX0_worthIn_10 rfl (n := 12) rfl ?_
    refine j_bipush C dX0_worthIn_12 bp_6 (n := 14) rfl ?_
    refine j_icmp_ge C dX0_worthIn_14 (tgt := 63) (n := 17) (by decide) rfl (fun q1 => ?_) (fun q1 => ?_)
    · refine j_iload_n C dX0_worthIn_63 rfl (n := 64) rfl ?_
      exact j_ret C dX0_worthIn_64
    · refine j_iload_n C dX0_worthIn_17 rfl (n := 18) rfl ?_
      refine j_iconst C dX0_worthIn_18 ic_1 (n := 19) rfl ?_
      refine j_iload C dX0_worthIn_19 rfl (n := 21) rfl ?_
      refine j_ishl C dX0_worthIn_21 (n := 22) rfl ?_
      refine j_iand C dX0_worthIn_22 (n := 23) rfl ?_
      refine j_if_eq C dX0_worthIn_23 (tgt := 57) (n := 26) (by decide) rfl (fun q2 => ?_) (fun q2 => ?_)
      · refine j_iinc C dX0_worthIn_57 rfl ic_1 (Nat.le_of_ble_eq_true rfl) (n := 60) rfl ?_
        refine j_goto C dX0_worthIn_60 (n := 10) (by decide) ?_
        exact j_to (ih _ _ _ _) ⟨rfl, ⟨rfl, ⟨rfl, ⟨rfl, ⟨rfl, trivial⟩⟩⟩⟩⟩
      · refine j_iload_n C dX0_worthIn_26 rfl (n := 27) rfl ?_
        refine j_aload_n C dX0_worthIn_27 rfl (n := 28) rfl ?_
        refine gf_X0_15 C 34 (cX_34 g _) rfl dX0_worthIn_28 (n := 31) rfl ?_
        refine j_iload_n C dX0_worthIn_31 rfl (n := 32) rfl ?_
        refine j_iconst C dX0_worthIn_32 ic_1 (n := 33) rfl ?_
        refine j_iload C dX0_worthIn_33 rfl (n := 35) rfl ?_
        refine j_ishl C dX0_worthIn_35 (n := 36) rfl ?_
        refine j_iconst C dX0_worthIn_36 ic_m1 (n := 37) rfl ?_
        refine j_ixor C dX0_worthIn_37 (n := 38) rfl ?_
        refine j_iand C dX0_worthIn_38 (n := 39) rfl ?_
        refine j_iald C 36 (cX_36 g _) dX0_worthIn_39 (n := 40) rfl ?_
        refine j_aload_n C dX0_worthIn_40 rfl (n := 41) rfl ?_
        refine gf_X0_9 C 34 (cX_34 g _) rfl dX0_worthIn_41 (n := 44) rfl ?_
        refine j_iload_n C dX0_worthIn_44 rfl (n := 45) rfl ?_
        refine j_bipush C dX0_worthIn_45 bp_6 (n := 47) rfl ?_
        refine j_imul C dX0_worthIn_47 (n := 48) rfl ?_
        refine j_iload C dX0_worthIn_48 rfl (n := 50) rfl ?_
        refine j_iadd C dX0_worthIn_50 (n := 51) rfl ?_
        refine j_iald C 35 (cX_35 g _) dX0_worthIn_51 (n := 52) rfl ?_
        refine j_iadd C dX0_worthIn_52 (n := 53) rfl ?_
        refine j_mmax C lm_X0_82 (Nat.le_of_ble_eq_true rfl) (Nat.le_of_ble_eq_true rfl) dX0_worthIn_53 (n := 56) rfl ?_
        refine j_istore_n C dX0_worthIn_56 (Nat.le_of_ble_eq_true rfl) (n := 57) rfl ?_
        refine j_iinc C dX0_worthIn_57 rfl ic_1 (Nat.le_of_ble_eq_true rfl) (n := 60) rfl ?_
        refine j_goto C dX0_worthIn_60 (n := 10) (by decide) ?_
        exact j_to (ih _ _ _ _) ⟨rfl, ⟨rfl, ⟨rfl, ⟨rfl, ⟨rfl, trivial⟩⟩⟩⟩⟩
set_option maxRecDepth 20000 in
theorem m_X0_worthIn (l : Launch) (fu : Nat) (x1 : Int32) (x2 : Int32) (h : Hp) {r : Int32} (e : X0_worthIn fu x1 x2 h = some r) : CT l yX0_worthIn cX0_worthIn 5 (some .int) 1 cwX (fun g => [rf g 34, .int x1, .int x2]) h (qI cwX r h) := by
  refine ct_of (QR := (fun r : Int32 => qI cwX r h)) (by decide +kernel) (fun g => ⟨rfl, Nat.le_of_ble_eq_true rfl⟩) e (fun x g hl C => ?_)
  unfold X0_worthIn
  refine j_aload_n C dX0_worthIn_0 rfl (n := 1) rfl ?_
  refine gf_X0_15 C 34 (cX_34 g _) rfl dX0_worthIn_1 (n := 4) rfl ?_
  refine j_iload_n C dX0_worthIn_4 rfl (n := 5) rfl ?_
  refine j_iald C 36 (cX_36 g _) dX0_worthIn_5 (n := 6) rfl ?_
  refine j_istore_n C dX0_worthIn_6 (Nat.le_of_ble_eq_true rfl) (n := 7) rfl ?_
  refine j_iconst C dX0_worthIn_7 ic_0 (n := 8) rfl ?_
  refine j_istore C dX0_worthIn_8 (Nat.le_of_ble_eq_true rfl) (n := 10) rfl ?_
  exact j_to (j_X0_worthIn_10 C _ _ _ _ _ _ _) ⟨rfl, ⟨rfl, ⟨rfl, ⟨rfl, ⟨rfl, trivial⟩⟩⟩⟩⟩
-- X0_offer
set_option maxRecDepth 20000 in
theorem j_X0_offer_2 {x : Fx} {g : Gl} (C : Ok x g RX0 cX0_offer 4 none) (fu : Nat) : ∀ (n : Nat) (x1 : Int32) (x2 : Int32) (x3 : Int32) (h : Hp), J x g cwX 4 2 (fun r : Hp => qV cwX r) 2 [some (rf g 34), some (.int x1), some (.int x2), some (.int x3)] [] h (X0_offer_2 fu n x1 x2 x3 h) := by
  intro n
  induction n with
  | zero =>
    intro x1 x2 x3 h
    rw [X0_offer_2]
    exact j_none
  | succ n ih =>
    intro x1 x2 x3 h
    rw [X0_offer_2]
    refine j_iload_n C dX0_offer_2 rfl (n := 3) rfl ?_
    refine j_if_le C dX0_offer_3 (tgt := 32) (n := 6) (by decide) rfl (fun q1 => ?_) (fun q1 => ?_)
    · exact j_retV C dX0_offer_32
    · refine j_iload_n C dX0_offer_6 rfl (n := 7) rfl ?_
      refine j_iload_n C dX0_offer_7 rfl (n := 8) rfl ?_
      refine j_iconst C dX0_offer_8 ic_m1 (n := 9) rfl ?_
      refine j_ixor C dX0_offer_9 (n := 10) rfl ?_
      refine j_iand C dX0_offer_10 (n := 11) rfl ?_
      refine j_if_ne C dX0_offer_11 (tgt := 26) (n := 14) (by decide) rfl (fun q2 => ?_) (fun q2 => ?_)
      · refine j_iinc C dX0_offer_26 rfl ic_m1 (Nat.le_of_ble_eq_true rfl) (n := 29) rfl ?_
        refine j_goto C dX0_offer_29 (n := 2) (by decide) ?_
        exact j_to (ih _ _ _ _) ⟨rfl, ⟨rfl, ⟨rfl, ⟨rfl, trivial⟩⟩⟩⟩
      · refine j_aload_n C dX0_offer_14 rfl (n := 15) rfl ?_
        refine gf_X0_15 C 34 (cX_34 g _) rfl dX0_offer_15 (n := 18) rfl ?_
        refine j_iload_n C dX0_offer_18 rfl (n := 19) rfl ?_
        refine j_aload_n C dX0_offer_19 rfl (n := 20) rfl ?_
        refine j_iload_n C dX0_offer_20 rfl (n := 21) rfl ?_
        refine j_iload_n C dX0_offer_21 rfl (n := 22) rfl ?_
        refine j_bnd (fun r4 q3 => ?_)
        refine j_ci C (run_V C mi_X0_worthIn lm_X0_79 iv_X0_worthIn ⟨Nat.le_of_ble_eq_true rfl, Nat.le_of_ble_eq_true rfl⟩ (m_X0_worthIn _ _ _ _ _ q3) (cX_34 g _) rfl rfl rfl rfl (Nat.le_of_ble_eq_true rfl) dX0_offer_22) (n := 25) rfl ?_
        refine j_iast C 36 (cX_36 g _) (aX_36 g _ _ _) dX0_offer_25 (n := 26) rfl ?_
        refine j_iinc C dX0_offer_26 rfl ic_m1 (Nat.le_of_ble_eq_true rfl) (n := 29) rfl ?_
        refine j_goto C dX0_offer_29 (n := 2) (by decide) ?_
        exact j_to (ih _ _ _ _) ⟨rfl, ⟨rfl, ⟨rfl, ⟨rfl, trivial⟩⟩⟩⟩
set_option maxRecDepth 20000 in
theorem m_X0_offer (l : Launch) (fu : Nat) (x1 : Int32) (x2 : Int32) (h : Hp) {r : Hp} (e : X0_offer fu x1 x2 h = some r) : CT l yX0_offer cX0_offer 4 none 2 cwX (fun g => [rf g 34, .int x1, .int x2]) h (qV cwX r) := by
  refine ct_of (QR := (fun r : Hp => qV cwX r)) (by decide +kernel) (fun g => ⟨rfl, Nat.le_of_ble_eq_true rfl⟩) e (fun x g hl C => ?_)
  unfold X0_offer
  refine j_iload_n C dX0_offer_0 rfl (n := 1) rfl ?_
  refine j_istore_n C dX0_offer_1 (Nat.le_of_ble_eq_true rfl) (n := 2) rfl ?_
  exact j_to (j_X0_offer_2 C _ _ _ _ _ _) ⟨rfl, ⟨rfl, ⟨rfl, ⟨rfl, trivial⟩⟩⟩⟩
-- X0_fill
set_option maxRecDepth 20000 in
theorem j_X0_fill_10 {x : Fx} {g : Gl} (C : Ok x g RX0 cX0_fill 4 (some .int)) (fu : Nat) : ∀ (n : Nat) (x1 : Int32) (x2 : Int32) (x3 : Int32) (h : Hp), J x g cwX 4 3 (fun r : Int32 × Hp => qI cwX r.1 r.2) 10 [some (rf g 34), some (.int x1), some (.int x2), some (.int x3)] [] h (X0_fill_10 fu n x1 x2 x3 h) := by
  intro n
  induction n with
  | zero =>
    intro x1 x2 x3 h
    rw [X0_fill_10]
    exact j_none
  | succ n ih =>
    intro x1 x2 x3 h
    rw [X0_fill_10]
    refine j_iload_n C dX0_fill_10 rfl (n := 11) rfl ?_
    refine j_bipush C dX0_fill_11 bp_10 (n := 13) rfl ?_
    refine j_icmp_ge C dX0_fill_13 (tgt := 36) (n := 16) (by decide) rfl (fun q1 => ?_) (fun q1 => ?_)
    · refine j_aload_n C dX0_fill_36 rfl (n := 37) rfl ?_
      refine gf_X0_15 C 34 (cX_34 g _) rfl dX0_fill_37 (n := 40) rfl ?_
      refine j_iload_n C dX0_fill_40 rfl (n := 41) rfl ?_
      refine j_iald C 36 (cX_36 g _) dX0_fill_41 (n := 42) rfl ?_
      exact j_retP C dX0_fill_42
    · refine j_iload_n C dX0_fill_16 rfl (n := 17) rfl ?_
      refine j_iconst C dX0_fill_17 ic_1 (n := 18) rfl ?_
      refine j_iload_n C dX0_fill_18 rfl (n := 19) rfl ?_
      refine j_ishl C dX0_fill_19 (n := 20) rfl ?_
      refine j_iand C dX0_fill_20 (n := 21) rfl ?_
      refine j_if_eq C dX0_fill_21 (tgt := 30) (n := 24) (by decide) rfl (fun q2 => ?_) (fun q2 => ?_)
      · refine j_iinc C dX0_fill_30 rfl ic_1 (Nat.le_of_ble_eq_true rfl) (n := 33) rfl ?_
        refine j_goto C dX0_fill_33 (n := 10) (by decide) ?_
        exact j_to (ih _ _ _ _) ⟨rfl, ⟨rfl, ⟨rfl, ⟨rfl, trivial⟩⟩⟩⟩
      · refine j_aload_n C dX0_fill_24 rfl (n := 25) rfl ?_
        refine j_iload_n C dX0_fill_25 rfl (n := 26) rfl ?_
        refine j_iload_n C dX0_fill_26 rfl (n := 27) rfl ?_
        refine j_bnd (fun h4 q3 => ?_)
        refine j_cv C (run_V C mi_X0_offer lm_X0_75 iv_X0_offer ⟨Nat.le_of_ble_eq_true rfl, Nat.le_of_ble_eq_true rfl⟩ (m_X0_offer _ _ _ _ _ q3) (cX_34 g _) rfl rfl rfl rfl (Nat.le_of_ble_eq_true rfl) dX0_fill_27) (n := 30) rfl ?_
        refine j_iinc C dX0_fill_30 rfl ic_1 (Nat.le_of_ble_eq_true rfl) (n := 33) rfl ?_
        refine j_goto C dX0_fill_33 (n := 10) (by decide) ?_
        exact j_to (ih _ _ _ _) ⟨rfl, ⟨rfl, ⟨rfl, ⟨rfl, trivial⟩⟩⟩⟩
set_option maxRecDepth 20000 in
theorem m_X0_fill (l : Launch) (fu : Nat) (x1 : Int32) (x2 : Int32) (h : Hp) {r : Int32 × Hp} (e : X0_fill fu x1 x2 h = some r) : CT l yX0_fill cX0_fill 4 (some .int) 3 cwX (fun g => [rf g 34, .int x1, .int x2]) h (qI cwX r.1 r.2) := by
  refine ct_of (QR := (fun r : Int32 × Hp => qI cwX r.1 r.2)) (by decide +kernel) (fun g => ⟨rfl, Nat.le_of_ble_eq_true rfl⟩) e (fun x g hl C => ?_)
  unfold X0_fill
  refine j_aload_n C dX0_fill_0 rfl (n := 1) rfl ?_
  refine gf_X0_15 C 34 (cX_34 g _) rfl dX0_fill_1 (n := 4) rfl ?_
  refine j_iconst C dX0_fill_4 ic_0 (n := 5) rfl ?_
  refine j_bnd (fun h2 q1 => ?_)
  refine j_cv C (run_S C mi_J7_fill_53178 lm_X0_70 st_J7_fill_53178 ⟨Nat.le_of_ble_eq_true rfl, Nat.le_of_ble_eq_true rfl⟩ (m_J7_fill_53178_36 _ _ _ _ q1) rfl rfl rfl (Nat.le_of_ble_eq_true rfl) dX0_fill_5) (n := 8) rfl ?_
  refine j_iconst C dX0_fill_8 ic_0 (n := 9) rfl ?_
  refine j_istore_n C dX0_fill_9 (Nat.le_of_ble_eq_true rfl) (n := 10) rfl ?_
  exact j_to (j_X0_fill_10 C _ _ _ _ _ _) ⟨rfl, ⟨rfl, ⟨rfl, ⟨rfl, trivial⟩⟩⟩⟩
-- X0_bestWorth
set_option maxRecDepth 20000 in
theorem m_X0_bestWorth (l : Launch) (fu : Nat) (h : Hp) {r : Int32 × Hp} (e : X0_bestWorth fu h = some r) : CT l yX0_bestWorth cX0_bestWorth 2 (some .int) 5 cwX (fun g => [rf g 34, rf g 1]) h (qI cwX r.1 r.2) := by
  refine ct_of (QR := (fun r : Int32 × Hp => qI cwX r.1 r.2)) (by decide +kernel) (fun g => ⟨rfl, Nat.le_of_ble_eq_true rfl⟩) e (fun x g hl C => ?_)
  unfold X0_bestWorth
  refine j_aload_n C dX0_bestWorth_0 rfl (n := 1) rfl ?_
  refine j_aload_n C dX0_bestWorth_1 rfl (n := 2) rfl ?_
  refine j_bnd (fun h2 q1 => ?_)
  refine j_cv C (run_V C mi_X0_survey lm_X0_18 iv_X0_survey ⟨Nat.le_of_ble_eq_true rfl, Nat.le_of_ble_eq_true rfl⟩ (m_X0_survey _ _ _ q1) (cX_34 g _) rfl rfl rfl rfl (Nat.le_of_ble_eq_true rfl) dX0_bestWorth_2) (n := 5) rfl ?_
  refine j_aload_n C dX0_bestWorth_5 rfl (n := 6) rfl ?_
  refine j_aload_n C dX0_bestWorth_6 rfl (n := 7) rfl ?_
  refine gf_X0_22 C 34 (cX_34 g _) rfl dX0_bestWorth_7 (n := 10) rfl ?_
  refine j_aload_n C dX0_bestWorth_10 rfl (n := 11) rfl ?_
  refine gf_X0_26 C 34 (cX_34 g _) rfl dX0_bestWorth_11 (n := 14) rfl ?_
  refine j_bnd (fun r4 q3 => ?_)
  refine j_ci C (run_V C mi_X0_fill lm_X0_29 iv_X0_fill ⟨Nat.le_of_ble_eq_true rfl, Nat.le_of_ble_eq_true rfl⟩ (m_X0_fill _ _ _ _ _ q3) (cX_34 g _) rfl rfl rfl rfl (Nat.le_of_ble_eq_true rfl) dX0_bestWorth_14) (n := 17) rfl ?_
  exact j_retP C dX0_bestWorth_17
-- X7_most
set_option maxRecDepth 20000 in
theorem m_X7_most (l : Launch) (fu : Nat) (h : Hp) {r : Int32 × Hp} (e : X7_most fu h = some r) : CT l yX7_most cX7_most 1 (some .int) 6 cwX (fun g => [rf g 0]) h (qI cwX r.1 r.2) := by
  refine ct_of (QR := (fun r : Int32 × Hp => qI cwX r.1 r.2)) (by decide +kernel) (fun g => ⟨rfl, Nat.le_of_ble_eq_true rfl⟩) e (fun x g hl C => ?_)
  unfold X7_most
  refine j_aload_n C dX7_most_0 rfl (n := 1) rfl ?_
  refine gf_X7_25 C 0 (cX_0 g _) rfl dX7_most_1 (n := 4) rfl ?_
  refine j_aload_n C dX7_most_4 rfl (n := 5) rfl ?_
  refine gf_X7_12 C 0 (cX_0 g _) rfl dX7_most_5 (n := 8) rfl ?_
  refine j_bnd (fun r2 q1 => ?_)
  refine j_ci C (run_V C mi_X0_bestWorth lm_X7_180 iv_X0_bestWorth ⟨Nat.le_of_ble_eq_true rfl, Nat.le_of_ble_eq_true rfl⟩ (m_X0_bestWorth _ _ _ q1) (cX_34 g _) rfl rfl rfl rfl (Nat.le_of_ble_eq_true rfl) dX7_most_8) (n := 11) rfl ?_
  exact j_retP C dX7_most_11
-- X0_firstHead
set_option maxRecDepth 20000 in
theorem j_X0_firstHead_2 {x : Fx} {g : Gl} (C : Ok x g RX0 cX0_firstHead 5 (some .int)) (fu : Nat) : ∀ (n : Nat) (x1 : Int32) (x2 : Int32) (x3 : Int32) (h : Hp), J x g cwX 5 4 (fun r : Int32 × Hp => qI cwX r.1 r.2) 2 [some (rf g 34), some (.int x1), some (.int x2), some (.int x3)] [] h (X0_firstHead_2 fu n x1 x2 x3 h) := by
  intro n
  induction n with
  | zero =>
    intro x1 x2 x3 h
    rw [X0_firstHead_2]
    exact j_none
  | succ n ih =>
    intro x1 x2 x3 h
    rw [X0_firstHead_2]
    refine j_iload_n C dX0_firstHead_2 rfl (n := 3) rfl ?_
    refine j_bipush C dX0_firstHead_3 bp_10 (n := 5) rfl ?_
    refine j_icmp_ge C dX0_firstHead_5 (tgt := 63) (n := 8) (by decide) rfl (fun q1 => ?_) (fun q1 => ?_)
    · refine j_iconst C dX0_firstHead_63 ic_m1 (n := 64) rfl ?_
      exact j_retP C dX0_firstHead_64
    · refine j_aload_n C dX0_firstHead_8 rfl (n := 9) rfl ?_
      refine gf_X0_26 C 34 (cX_34 g _) rfl dX0_firstHead_9 (n := 12) rfl ?_
      refine j_iconst C dX0_firstHead_12 ic_1 (n := 13) rfl ?_
      refine j_iload_n C dX0_firstHead_13 rfl (n := 14) rfl ?_
      refine j_ishl C dX0_firstHead_14 (n := 15) rfl ?_
      refine j_iconst C dX0_firstHead_15 ic_m1 (n := 16) rfl ?_
      refine j_ixor C dX0_firstHead_16 (n := 17) rfl ?_
      refine j_iand C dX0_firstHead_17 (n := 18) rfl ?_
      refine j_istore C dX0_firstHead_18 (Nat.le_of_ble_eq_true rfl) (n := 20) rfl ?_
      refine j_iload C dX0_firstHead_20 rfl (n := 22) rfl ?_
      refine j_aload_n C dX0_firstHead_22 rfl (n := 23) rfl ?_
      refine gf_X0_26 C 34 (cX_34 g _) rfl dX0_firstHead_23 (n := 26) rfl ?_
      refine j_icmp_eq C dX0_firstHead_26 (tgt := 57) (n := 29) (by decide) rfl (fun q2 => ?_) (fun q2 => ?_)
      · refine j_iinc C dX0_firstHead_57 rfl ic_1 (Nat.le_of_ble_eq_true rfl) (n := 60) rfl ?_
        refine j_goto C dX0_firstHead_60 (n := 2) (by decide) ?_
        exact j_to (ih _ _ _ _) ⟨rfl, ⟨rfl, ⟨rfl, ⟨rfl, trivial⟩⟩⟩⟩
      · refine j_aload_n C dX0_firstHead_29 rfl (n := 30) rfl ?_
        refine gf_X0_9 C 34 (cX_34 g _) rfl dX0_firstHead_30 (n := 33) rfl ?_
        refine j_iload_n C dX0_firstHead_33 rfl (n := 34) rfl ?_
        refine j_bipush C dX0_firstHead_34 bp_6 (n := 36) rfl ?_
        refine j_imul C dX0_firstHead_36 (n := 37) rfl ?_
        refine j_iload_n C dX0_firstHead_37 rfl (n := 38) rfl ?_
        refine j_iadd C dX0_firstHead_38 (n := 39) rfl ?_
        refine j_iald C 35 (cX_35 g _) dX0_firstHead_39 (n := 40) rfl ?_
        refine j_aload_n C dX0_firstHead_40 rfl (n := 41) rfl ?_
        refine j_aload_n C dX0_firstHead_41 rfl (n := 42) rfl ?_
        refine gf_X0_22 C 34 (cX_34 g _) rfl dX0_firstHead_42 (n := 45) rfl ?_
        refine j_iload C dX0_firstHead_45 rfl (n := 47) rfl ?_
        refine j_bnd (fun r4 q3 => ?_)
        refine j_ci C (run_V C mi_X0_fill lm_X0_29 iv_X0_fill ⟨Nat.le_of_ble_eq_true rfl, Nat.le_of_ble_eq_true rfl⟩ (m_X0_fill _ _ _ _ _ q3) (cX_34 g _) rfl rfl rfl rfl (Nat.le_of_ble_eq_true rfl) dX0_firstHead_47) (n := 50) rfl ?_
        refine j_iadd C dX0_firstHead_50 (n := 51) rfl ?_
        refine j_iload_n C dX0_firstHead_51 rfl (n := 52) rfl ?_
        refine j_icmp_ne C dX0_firstHead_52 (tgt := 57) (n := 55) (by decide) rfl (fun q6 => ?_) (fun q6 => ?_)
        · refine j_iinc C dX0_firstHead_57 rfl ic_1 (Nat.le_of_ble_eq_true rfl) (n := 60) rfl ?_
          refine j_goto C dX0_firstHead_60 (n := 2) (by decide) ?_
          exact j_to (ih _ _ _ _) ⟨rfl, ⟨rfl, ⟨rfl, ⟨rfl, trivial⟩⟩⟩⟩
        · refine j_iload_n C dX0_firstHead_55 rfl (n := 56) rfl ?_
          exact j_retP C dX0_firstHead_56
set_option maxRecDepth 20000 in
theorem m_X0_firstHead (l : Launch) (fu : Nat) (x1 : Int32) (x2 : Int32) (h : Hp) {r : Int32 × Hp} (e : X0_firstHead fu x1 x2 h = some r) : CT l yX0_firstHead cX0_firstHead 5 (some .int) 4 cwX (fun g => [rf g 34, .int x1, .int x2]) h (qI cwX r.1 r.2) := by
  refine ct_of (QR := (fun r : Int32 × Hp => qI cwX r.1 r.2)) (by decide +kernel) (fun g => ⟨rfl, Nat.le_of_ble_eq_true rfl⟩) e (fun x g hl C => ?_)
  unfold X0_firstHead
  refine j_iconst C dX0_firstHead_0 ic_0 (n := 1) rfl ?_
  refine j_istore_n C dX0_firstHead_1 (Nat.le_of_ble_eq_true rfl) (n := 2) rfl ?_
  exact j_to (j_X0_firstHead_2 C _ _ _ _ _ _) ⟨rfl, ⟨rfl, ⟨rfl, ⟨rfl, trivial⟩⟩⟩⟩
-- X0_headIn
set_option maxRecDepth 20000 in
theorem j_X0_headIn_69 {x : Fx} {g : Gl} (C : Ok x g RX0 cX0_headIn 6 (some .int)) (fu : Nat) (k24 : Int32 → Int32 → Int32 → Int32 → Hp → Option (Int32 × Hp)) (hk24 : ∀ (x2 : Int32) (x3 : Int32) (x4 : Int32) (x5 : Int32) (h : Hp), J x g cwX 6 5 (fun r : Int32 × Hp => qI cwX r.1 r.2) 24 [some (rf g 34), none, some (.int x2), some (.int x3), some (.int x4), some (.int x5)] [] h (k24 x2 x3 x4 x5 h)) (x2 : Int32) (x3 : Int32) (x4 : Int32) (x5 : Int32) (h : Hp) : J x g cwX 6 5 (fun r : Int32 × Hp => qI cwX r.1 r.2) 69 [some (rf g 34), none, some (.int x2), some (.int x3), some (.int x4), some (.int x5)] [] h (X0_headIn_69 fu k24 x2 x3 x4 x5 h) := by
  unfold X0_headIn_69
  refine j_iload C dX0_headIn_69 rfl (n := 71) rfl ?_
  refine j_iconst C dX0_headIn_71 ic_m1 (n := 72) rfl ?_
  refine j_icmp_eq C dX0_headIn_72 (tgt := 106) (n := 75) (by decide) rfl (fun q1 => ?_) (fun q1 => ?_)
  · refine j_iinc C dX0_headIn_106 rfl ic_1 (Nat.le_of_ble_eq_true rfl) (n := 109) rfl ?_
    refine j_goto C dX0_headIn_109 (n := 24) (by decide) ?_
    exact j_to (hk24 _ _ _ _ _) ⟨rfl, ⟨rfl, ⟨rfl, ⟨rfl, ⟨rfl, trivial⟩⟩⟩⟩⟩
  · refine j_aload_n C dX0_headIn_75 rfl (n := 76) rfl ?_
    refine j_dup C dX0_headIn_76 rfl (n := 77) rfl ?_
    refine gf_X0_26 C 34 (cX_34 g _) rfl dX0_headIn_77 (n := 80) rfl ?_
    refine j_iconst C dX0_headIn_80 ic_1 (n := 81) rfl ?_
    refine j_iload C dX0_headIn_81 rfl (n := 83) rfl ?_
    refine j_ishl C dX0_headIn_83 (n := 84) rfl ?_
    refine j_iconst C dX0_headIn_84 ic_m1 (n := 85) rfl ?_
    refine j_ixor C dX0_headIn_85 (n := 86) rfl ?_
    refine j_iand C dX0_headIn_86 (n := 87) rfl ?_
    refine pf_X0_26 C 34 (cX_34 g _) (sX_34_2 g _ _) rfl dX0_headIn_87 (n := 90) rfl ?_
    refine j_iload_n C dX0_headIn_90 rfl (n := 91) rfl ?_
    refine j_aload_n C dX0_headIn_91 rfl (n := 92) rfl ?_
    refine gf_X0_9 C 34 (cX_34 g _) rfl dX0_headIn_92 (n := 95) rfl ?_
    refine j_iload C dX0_headIn_95 rfl (n := 97) rfl ?_
    refine j_bipush C dX0_headIn_97 bp_6 (n := 99) rfl ?_
    refine j_imul C dX0_headIn_99 (n := 100) rfl ?_
    refine j_iload C dX0_headIn_100 rfl (n := 102) rfl ?_
    refine j_iadd C dX0_headIn_102 (n := 103) rfl ?_
    refine j_iald C 35 (cX_35 g _) dX0_headIn_103 (n := 104) rfl ?_
    refine j_isub C dX0_headIn_104 (n := 105) rfl ?_
    refine j_istore_n C dX0_headIn_105 (Nat.le_of_ble_eq_true rfl) (n := 106) rfl ?_
    refine j_iinc C dX0_headIn_106 rfl ic_1 (Nat.le_of_ble_eq_true rfl) (n := 109) rfl ?_
    refine j_goto C dX0_headIn_109 (n := 24) (by decide) ?_
    exact j_to (hk24 _ _ _ _ _) ⟨rfl, ⟨rfl, ⟨rfl, ⟨rfl, ⟨rfl, trivial⟩⟩⟩⟩⟩
set_option maxRecDepth 20000 in
theorem j_X0_headIn_24 {x : Fx} {g : Gl} (C : Ok x g RX0 cX0_headIn 6 (some .int)) (fu : Nat) : ∀ (n : Nat) (x2 : Int32) (x3 : Int32) (x4 : Int32) (x5 : Int32) (h : Hp), J x g cwX 6 5 (fun r : Int32 × Hp => qI cwX r.1 r.2) 24 [some (rf g 34), none, some (.int x2), some (.int x3), some (.int x4), some (.int x5)] [] h (X0_headIn_24 fu n x2 x3 x4 x5 h) := by
  intro n
  induction n with
  | zero =>
    intro x2 x3 x4 x5 h
    rw [X0_headIn_24]
    exact j_none
  | succ n ih =>
    intro x2 x3 x4 x5 h
    rw [X0_headIn_24]
    refine j_iload C dX0_headIn_24 rfl (n := 26) rfl ?_
    refine j_iload_n C dX0_headIn_26 rfl (n := 27) rfl ?_
    refine j_icmp_gt C dX0_headIn_27 (tgt := 112) (n := 30) (by decide) rfl (fun q1 => ?_) (fun q1 => ?_)
    · refine j_iload C dX0_headIn_112 rfl (n := 114) rfl ?_
      exact j_retP C dX0_headIn_114
    · refine j_iconst C dX0_headIn_30 ic_m1 (n := 31) rfl ?_
      refine j_istore C dX0_headIn_31 (Nat.le_of_ble_eq_true rfl) (n := 33) rfl ?_
      refine j_aload_n C dX0_headIn_33 rfl (n := 34) rfl ?_
      refine gf_X0_22 C 34 (cX_34 g _) rfl dX0_headIn_34 (n := 37) rfl ?_
      refine j_iconst C dX0_headIn_37 ic_1 (n := 38) rfl ?_
      refine j_iload C dX0_headIn_38 rfl (n := 40) rfl ?_
      refine j_ishl C dX0_headIn_40 (n := 41) rfl ?_
      refine j_iand C dX0_headIn_41 (n := 42) rfl ?_
      refine j_if_eq C dX0_headIn_42 (tgt := 69) (n := 45) (by decide) rfl (fun q2 => ?_) (fun q2 => ?_)
      · exact j_to (j_X0_headIn_69 C _ _ ih _ _ _ _ _) ⟨rfl, ⟨rfl, ⟨rfl, ⟨rfl, ⟨rfl, trivial⟩⟩⟩⟩⟩
      · refine j_aload_n C dX0_headIn_45 rfl (n := 46) rfl ?_
        refine j_dup C dX0_headIn_46 rfl (n := 47) rfl ?_
        refine gf_X0_22 C 34 (cX_34 g _) rfl dX0_headIn_47 (n := 50) rfl ?_
        refine j_iconst C dX0_headIn_50 ic_1 (n := 51) rfl ?_
        refine j_iload C dX0_headIn_51 rfl (n := 53) rfl ?_
        refine j_ishl C dX0_headIn_53 (n := 54) rfl ?_
        refine j_iconst C dX0_headIn_54 ic_m1 (n := 55) rfl ?_
        refine j_ixor C dX0_headIn_55 (n := 56) rfl ?_
        refine j_iand C dX0_headIn_56 (n := 57) rfl ?_
        refine pf_X0_22 C 34 (cX_34 g _) (sX_34_3 g _ _) rfl dX0_headIn_57 (n := 60) rfl ?_
        refine j_aload_n C dX0_headIn_60 rfl (n := 61) rfl ?_
        refine j_iload C dX0_headIn_61 rfl (n := 63) rfl ?_
        refine j_iload_n C dX0_headIn_63 rfl (n := 64) rfl ?_
        refine j_bnd (fun r4 q3 => ?_)
        refine j_ci C (run_V C mi_X0_firstHead lm_X0_33 iv_X0_firstHead ⟨Nat.le_of_ble_eq_true rfl, Nat.le_of_ble_eq_true rfl⟩ (m_X0_firstHead _ _ _ _ _ q3) (cX_34 g _) rfl rfl rfl rfl (Nat.le_of_ble_eq_true rfl) dX0_headIn_64) (n := 67) rfl ?_
        refine j_istore C dX0_headIn_67 (Nat.le_of_ble_eq_true rfl) (n := 69) rfl ?_
        exact j_to (j_X0_headIn_69 C _ _ ih _ _ _ _ _) ⟨rfl, ⟨rfl, ⟨rfl, ⟨rfl, ⟨rfl, trivial⟩⟩⟩⟩⟩
set_option maxRecDepth 20000 in
theorem m_X0_headIn (l : Launch) (fu : Nat) (x2 : Int32) (h : Hp) {r : Int32 × Hp} (e : X0_headIn fu x2 h = some r) : CT l yX0_headIn cX0_headIn 6 (some .int) 5 cwX (fun g => [rf g 34, rf g 1, .int x2]) h (qI cwX r.1 r.2) := by
  refine ct_of (QR := (fun r : Int32 × Hp => qI cwX r.1 r.2)) (by decide +kernel) (fun g => ⟨rfl, Nat.le_of_ble_eq_true rfl⟩) e (fun x g hl C => ?_)
  unfold X0_headIn
  refine j_aload_n C dX0_headIn_0 rfl (n := 1) rfl ?_
  refine j_aload_n C dX0_headIn_1 rfl (n := 2) rfl ?_
  refine j_bnd (fun h2 q1 => ?_)
  refine j_cv C (run_V C mi_X0_survey lm_X0_18 iv_X0_survey ⟨Nat.le_of_ble_eq_true rfl, Nat.le_of_ble_eq_true rfl⟩ (m_X0_survey _ _ _ q1) (cX_34 g _) rfl rfl rfl rfl (Nat.le_of_ble_eq_true rfl) dX0_headIn_2) (n := 5) rfl ?_
  refine j_aload_n C dX0_headIn_5 rfl (n := 6) rfl ?_
  refine j_aload_n C dX0_headIn_6 rfl (n := 7) rfl ?_
  refine gf_X0_22 C 34 (cX_34 g _) rfl dX0_headIn_7 (n := 10) rfl ?_
  refine j_aload_n C dX0_headIn_10 rfl (n := 11) rfl ?_
  refine gf_X0_26 C 34 (cX_34 g _) rfl dX0_headIn_11 (n := 14) rfl ?_
  refine j_bnd (fun r4 q3 => ?_)
  refine j_ci C (run_V C mi_X0_fill lm_X0_29 iv_X0_fill ⟨Nat.le_of_ble_eq_true rfl, Nat.le_of_ble_eq_true rfl⟩ (m_X0_fill _ _ _ _ _ q3) (cX_34 g _) rfl rfl rfl rfl (Nat.le_of_ble_eq_true rfl) dX0_headIn_14) (n := 17) rfl ?_
  refine j_istore_n C dX0_headIn_17 (Nat.le_of_ble_eq_true rfl) (n := 18) rfl ?_
  refine j_iconst C dX0_headIn_18 ic_m1 (n := 19) rfl ?_
  refine j_istore C dX0_headIn_19 (Nat.le_of_ble_eq_true rfl) (n := 21) rfl ?_
  refine j_iconst C dX0_headIn_21 ic_0 (n := 22) rfl ?_
  refine j_istore C dX0_headIn_22 (Nat.le_of_ble_eq_true rfl) (n := 24) rfl ?_
  exact j_to (j_X0_headIn_24 C _ _ _ _ _ _ _) ⟨rfl, ⟨rfl, ⟨rfl, ⟨rfl, ⟨rfl, trivial⟩⟩⟩⟩⟩
-- X7_given
set_option maxRecDepth 20000 in
theorem m_X7_given (l : Launch) (fu : Nat) (x1 : Int32) (h : Hp) {r : Int32 × Hp} (e : X7_given fu x1 h = some r) : CT l yX7_given cX7_given 2 (some .int) 6 cwX (fun g => [rf g 0, .int x1]) h (qI cwX r.1 r.2) := by
  refine ct_of (QR := (fun r : Int32 × Hp => qI cwX r.1 r.2)) (by decide +kernel) (fun g => ⟨rfl, Nat.le_of_ble_eq_true rfl⟩) e (fun x g hl C => ?_)
  unfold X7_given
  refine j_iload_n C dX7_given_0 rfl (n := 1) rfl ?_
  refine j_cz C (run_S C mi_X7_isRoom lm_X7_107 st_X7_isRoom ⟨Nat.le_of_ble_eq_true rfl, Nat.le_of_ble_eq_true rfl⟩ (m_X7_isRoom _ _ _) rfl rfl rfl (Nat.le_of_ble_eq_true rfl) dX7_given_1) (n := 4) rfl (fun b1 => ?_)
  refine j_if_ne C dX7_given_4 (tgt := 14) (n := 7) (by decide) rfl (fun q2 => ?_) (fun q2 => ?_)
  · refine j_aload_n C dX7_given_14 rfl (n := 15) rfl ?_
    refine gf_X7_25 C 0 (cX_0 g _) rfl dX7_given_15 (n := 18) rfl ?_
    refine j_aload_n C dX7_given_18 rfl (n := 19) rfl ?_
    refine gf_X7_12 C 0 (cX_0 g _) rfl dX7_given_19 (n := 22) rfl ?_
    refine j_iload_n C dX7_given_22 rfl (n := 23) rfl ?_
    refine j_bnd (fun r4 q3 => ?_)
    refine j_ci C (run_V C mi_X0_headIn lm_X7_184 iv_X0_headIn ⟨Nat.le_of_ble_eq_true rfl, Nat.le_of_ble_eq_true rfl⟩ (m_X0_headIn _ _ _ _ q3) (cX_34 g _) rfl rfl rfl rfl (Nat.le_of_ble_eq_true rfl) dX7_given_23) (n := 26) rfl ?_
    exact j_retP C dX7_given_26
  · refine j_aload_n C dX7_given_7 rfl (n := 8) rfl ?_
    refine j_ldc C dX7_given_8 kc_X7_67 (n := 10) rfl ?_
    refine j_bnd (fun r7 q6 => ?_)
    refine j_ci C (run_V C mi_X7_finding lm_X7_68 iv_X7_finding ⟨Nat.le_of_ble_eq_true rfl, Nat.le_of_ble_eq_true rfl⟩ (m_X7_finding _ _ _ q6) (cX_0 g _) rfl rfl rfl rfl (Nat.le_of_ble_eq_true rfl) dX7_given_10) (n := 13) rfl ?_
    exact j_retP C dX7_given_13
-- X1_likestTo
set_option maxRecDepth 20000 in
theorem j_X1_likestTo_4 {x : Fx} {g : Gl} (C : Ok x g RX1 cX1_likestTo 4 (some .int)) (fu : Nat) (h : Hp) : ∀ (n : Nat) (x1 : Int32) (x2 : Int32) (x3 : Int32), J x g cwX 4 4 (fun r : Int32 => qI cwX r h) 4 [some (rf g 1), some (.int x1), some (.int x2), some (.int x3)] [] h (X1_likestTo_4 fu h n x1 x2 x3) := by
  intro n
  induction n with
  | zero =>
    intro x1 x2 x3
    rw [X1_likestTo_4]
    exact j_none
  | succ n ih =>
    intro x1 x2 x3
    rw [X1_likestTo_4]
    refine j_iload_n C dX1_likestTo_4 rfl (n := 5) rfl ?_
    refine j_aload_n C dX1_likestTo_5 rfl (n := 6) rfl ?_
    refine gf_X1_61 C 1 (cX_1 g _) rfl dX1_likestTo_6 (n := 9) rfl ?_
    refine j_icmp_ge C dX1_likestTo_9 (tgt := 35) (n := 12) (by decide) rfl (fun q1 => ?_) (fun q1 => ?_)
    · refine j_iload_n C dX1_likestTo_35 rfl (n := 36) rfl ?_
      exact j_ret C dX1_likestTo_36
    · refine j_aload_n C dX1_likestTo_12 rfl (n := 13) rfl ?_
      refine j_iload_n C dX1_likestTo_13 rfl (n := 14) rfl ?_
      refine j_iload_n C dX1_likestTo_14 rfl (n := 15) rfl ?_
      refine j_bnd (fun r3 q2 => ?_)
      refine j_ci C (run_V C mi_X1_likeTo lm_X1_97 iv_X1_likeTo ⟨Nat.le_of_ble_eq_true rfl, Nat.le_of_ble_eq_true rfl⟩ (m_X1_likeTo _ _ _ _ q2) (cX_1 g _) rfl rfl rfl rfl (Nat.le_of_ble_eq_true rfl) dX1_likestTo_15) (n := 18) rfl ?_
      refine j_aload_n C dX1_likestTo_18 rfl (n := 19) rfl ?_
      refine j_iload_n C dX1_likestTo_19 rfl (n := 20) rfl ?_
      refine j_iload_n C dX1_likestTo_20 rfl (n := 21) rfl ?_
      refine j_bnd (fun r6 q5 => ?_)
      refine j_ci C (run_V C mi_X1_likeTo lm_X1_97 iv_X1_likeTo ⟨Nat.le_of_ble_eq_true rfl, Nat.le_of_ble_eq_true rfl⟩ (m_X1_likeTo _ _ _ _ q5) (cX_1 g _) rfl rfl rfl rfl (Nat.le_of_ble_eq_true rfl) dX1_likestTo_21) (n := 24) rfl ?_
      refine j_icmp_le C dX1_likestTo_24 (tgt := 29) (n := 27) (by decide) rfl (fun q8 => ?_) (fun q8 => ?_)
      · refine j_iinc C dX1_likestTo_29 rfl ic_1 (Nat.le_of_ble_eq_true rfl) (n := 32) rfl ?_
        refine j_goto C dX1_likestTo_32 (n := 4) (by decide) ?_
        exact j_to (ih _ _ _) ⟨rfl, ⟨rfl, ⟨rfl, ⟨rfl, trivial⟩⟩⟩⟩
      · refine j_iload_n C dX1_likestTo_27 rfl (n := 28) rfl ?_
        refine j_istore_n C dX1_likestTo_28 (Nat.le_of_ble_eq_true rfl) (n := 29) rfl ?_
        refine j_iinc C dX1_likestTo_29 rfl ic_1 (Nat.le_of_ble_eq_true rfl) (n := 32) rfl ?_
        refine j_goto C dX1_likestTo_32 (n := 4) (by decide) ?_
        exact j_to (ih _ _ _) ⟨rfl, ⟨rfl, ⟨rfl, ⟨rfl, trivial⟩⟩⟩⟩
set_option maxRecDepth 20000 in
theorem m_X1_likestTo (l : Launch) (fu : Nat) (x1 : Int32) (h : Hp) {r : Int32} (e : X1_likestTo fu x1 h = some r) : CT l yX1_likestTo cX1_likestTo 4 (some .int) 4 cwX (fun g => [rf g 1, .int x1]) h (qI cwX r h) := by
  refine ct_of (QR := (fun r : Int32 => qI cwX r h)) (by decide +kernel) (fun g => ⟨rfl, Nat.le_of_ble_eq_true rfl⟩) e (fun x g hl C => ?_)
  unfold X1_likestTo
  refine j_iconst C dX1_likestTo_0 ic_0 (n := 1) rfl ?_
  refine j_istore_n C dX1_likestTo_1 (Nat.le_of_ble_eq_true rfl) (n := 2) rfl ?_
  refine j_iconst C dX1_likestTo_2 ic_1 (n := 3) rfl ?_
  refine j_istore_n C dX1_likestTo_3 (Nat.le_of_ble_eq_true rfl) (n := 4) rfl ?_
  exact j_to (j_X1_likestTo_4 C _ _ _ _ _ _) ⟨rfl, ⟨rfl, ⟨rfl, ⟨rfl, trivial⟩⟩⟩⟩
-- X7_likest
set_option maxRecDepth 20000 in
theorem m_X7_likest (l : Launch) (fu : Nat) (x1 : Int32) (h : Hp) {r : Int32 × Hp} (e : X7_likest fu x1 h = some r) : CT l yX7_likest cX7_likest 2 (some .int) 5 cwX (fun g => [rf g 0, .int x1]) h (qI cwX r.1 r.2) := by
  refine ct_of (QR := (fun r : Int32 × Hp => qI cwX r.1 r.2)) (by decide +kernel) (fun g => ⟨rfl, Nat.le_of_ble_eq_true rfl⟩) e (fun x g hl C => ?_)
  unfold X7_likest
  refine j_iload_n C dX7_likest_0 rfl (n := 1) rfl ?_
  refine j_cz C (run_S C mi_X7_isFace lm_X7_98 st_X7_isFace ⟨Nat.le_of_ble_eq_true rfl, Nat.le_of_ble_eq_true rfl⟩ (m_X7_isFace _ _ _) rfl rfl rfl (Nat.le_of_ble_eq_true rfl) dX7_likest_1) (n := 4) rfl (fun b1 => ?_)
  refine j_if_ne C dX7_likest_4 (tgt := 14) (n := 7) (by decide) rfl (fun q2 => ?_) (fun q2 => ?_)
  · refine j_aload_n C dX7_likest_14 rfl (n := 15) rfl ?_
    refine gf_X7_12 C 0 (cX_0 g _) rfl dX7_likest_15 (n := 18) rfl ?_
    refine gf_X7_72 C 1 (cX_1 g _) rfl dX7_likest_18 (n := 21) rfl ?_
    refine j_if_ne C dX7_likest_21 (tgt := 31) (n := 24) (by decide) rfl (fun q3 => ?_) (fun q3 => ?_)
    · refine j_aload_n C dX7_likest_31 rfl (n := 32) rfl ?_
      refine gf_X7_12 C 0 (cX_0 g _) rfl dX7_likest_32 (n := 35) rfl ?_
      refine j_iload_n C dX7_likest_35 rfl (n := 36) rfl ?_
      refine j_bnd (fun r5 q4 => ?_)
      refine j_ci C (run_V C mi_X1_likestTo lm_X7_189 iv_X1_likestTo ⟨Nat.le_of_ble_eq_true rfl, Nat.le_of_ble_eq_true rfl⟩ (m_X1_likestTo _ _ _ _ q4) (cX_1 g _) rfl rfl rfl rfl (Nat.le_of_ble_eq_true rfl) dX7_likest_36) (n := 39) rfl ?_
      exact j_retP C dX7_likest_39
    · refine j_aload_n C dX7_likest_24 rfl (n := 25) rfl ?_
      refine j_ldc C dX7_likest_25 kc_X7_188 (n := 27) rfl ?_
      refine j_bnd (fun r8 q7 => ?_)
      refine j_ci C (run_V C mi_X7_finding lm_X7_68 iv_X7_finding ⟨Nat.le_of_ble_eq_true rfl, Nat.le_of_ble_eq_true rfl⟩ (m_X7_finding _ _ _ q7) (cX_0 g _) rfl rfl rfl rfl (Nat.le_of_ble_eq_true rfl) dX7_likest_27) (n := 30) rfl ?_
      exact j_retP C dX7_likest_30
  · refine j_aload_n C dX7_likest_7 rfl (n := 8) rfl ?_
    refine j_ldc C dX7_likest_8 kc_X7_67 (n := 10) rfl ?_
    refine j_bnd (fun r11 q10 => ?_)
    refine j_ci C (run_V C mi_X7_finding lm_X7_68 iv_X7_finding ⟨Nat.le_of_ble_eq_true rfl, Nat.le_of_ble_eq_true rfl⟩ (m_X7_finding _ _ _ q10) (cX_0 g _) rfl rfl rfl rfl (Nat.le_of_ble_eq_true rfl) dX7_likest_10) (n := 13) rfl ?_
    exact j_retP C dX7_likest_13
-- X1_likestOf
set_option maxRecDepth 20000 in
theorem j_X1_likestOf_4 {x : Fx} {g : Gl} (C : Ok x g RX1 cX1_likestOf 4 (some .int)) (fu : Nat) (h : Hp) : ∀ (n : Nat) (x1 : Int32) (x2 : Int32) (x3 : Int32), J x g cwX 4 4 (fun r : Int32 => qI cwX r h) 4 [some (rf g 1), some (.int x1), some (.int x2), some (.int x3)] [] h (X1_likestOf_4 fu h n x1 x2 x3) := by
  intro n
  induction n with
  | zero =>
    intro x1 x2 x3
    rw [X1_likestOf_4]
    exact j_none
  | succ n ih =>
    intro x1 x2 x3
    rw [X1_likestOf_4]
    refine j_iload_n C dX1_likestOf_4 rfl (n := 5) rfl ?_
    refine j_bipush C dX1_likestOf_5 bp_6 (n := 7) rfl ?_
    refine j_icmp_ge C dX1_likestOf_7 (tgt := 33) (n := 10) (by decide) rfl (fun q1 => ?_) (fun q1 => ?_)
    · refine j_iload_n C dX1_likestOf_33 rfl (n := 34) rfl ?_
      exact j_ret C dX1_likestOf_34
    · refine j_aload_n C dX1_likestOf_10 rfl (n := 11) rfl ?_
      refine j_iload_n C dX1_likestOf_11 rfl (n := 12) rfl ?_
      refine j_iload_n C dX1_likestOf_12 rfl (n := 13) rfl ?_
      refine j_bnd (fun r3 q2 => ?_)
      refine j_ci C (run_V C mi_X1_likeTo lm_X1_97 iv_X1_likeTo ⟨Nat.le_of_ble_eq_true rfl, Nat.le_of_ble_eq_true rfl⟩ (m_X1_likeTo _ _ _ _ q2) (cX_1 g _) rfl rfl rfl rfl (Nat.le_of_ble_eq_true rfl) dX1_likestOf_13) (n := 16) rfl ?_
      refine j_aload_n C dX1_likestOf_16 rfl (n := 17) rfl ?_
      refine j_iload_n C dX1_likestOf_17 rfl (n := 18) rfl ?_
      refine j_iload_n C dX1_likestOf_18 rfl (n := 19) rfl ?_
      refine j_bnd (fun r6 q5 => ?_)
      refine j_ci C (run_V C mi_X1_likeTo lm_X1_97 iv_X1_likeTo ⟨Nat.le_of_ble_eq_true rfl, Nat.le_of_ble_eq_true rfl⟩ (m_X1_likeTo _ _ _ _ q5) (cX_1 g _) rfl rfl rfl rfl (Nat.le_of_ble_eq_true rfl) dX1_likestOf_19) (n := 22) rfl ?_
      refine j_icmp_le C dX1_likestOf_22 (tgt := 27) (n := 25) (by decide) rfl (fun q8 => ?_) (fun q8 => ?_)
      · refine j_iinc C dX1_likestOf_27 rfl ic_1 (Nat.le_of_ble_eq_true rfl) (n := 30) rfl ?_
        refine j_goto C dX1_likestOf_30 (n := 4) (by decide) ?_
        exact j_to (ih _ _ _) ⟨rfl, ⟨rfl, ⟨rfl, ⟨rfl, trivial⟩⟩⟩⟩
      · refine j_iload_n C dX1_likestOf_25 rfl (n := 26) rfl ?_
        refine j_istore_n C dX1_likestOf_26 (Nat.le_of_ble_eq_true rfl) (n := 27) rfl ?_
        refine j_iinc C dX1_likestOf_27 rfl ic_1 (Nat.le_of_ble_eq_true rfl) (n := 30) rfl ?_
        refine j_goto C dX1_likestOf_30 (n := 4) (by decide) ?_
        exact j_to (ih _ _ _) ⟨rfl, ⟨rfl, ⟨rfl, ⟨rfl, trivial⟩⟩⟩⟩
set_option maxRecDepth 20000 in
theorem m_X1_likestOf (l : Launch) (fu : Nat) (x1 : Int32) (h : Hp) {r : Int32} (e : X1_likestOf fu x1 h = some r) : CT l yX1_likestOf cX1_likestOf 4 (some .int) 4 cwX (fun g => [rf g 1, .int x1]) h (qI cwX r h) := by
  refine ct_of (QR := (fun r : Int32 => qI cwX r h)) (by decide +kernel) (fun g => ⟨rfl, Nat.le_of_ble_eq_true rfl⟩) e (fun x g hl C => ?_)
  unfold X1_likestOf
  refine j_iconst C dX1_likestOf_0 ic_0 (n := 1) rfl ?_
  refine j_istore_n C dX1_likestOf_1 (Nat.le_of_ble_eq_true rfl) (n := 2) rfl ?_
  refine j_iconst C dX1_likestOf_2 ic_1 (n := 3) rfl ?_
  refine j_istore_n C dX1_likestOf_3 (Nat.le_of_ble_eq_true rfl) (n := 4) rfl ?_
  exact j_to (j_X1_likestOf_4 C _ _ _ _ _ _) ⟨rfl, ⟨rfl, ⟨rfl, ⟨rfl, trivial⟩⟩⟩⟩
-- X7_whom
set_option maxRecDepth 20000 in
theorem m_X7_whom (l : Launch) (fu : Nat) (x1 : Int32) (h : Hp) {r : Int32 × Hp} (e : X7_whom fu x1 h = some r) : CT l yX7_whom cX7_whom 2 (some .int) 5 cwX (fun g => [rf g 0, .int x1]) h (qI cwX r.1 r.2) := by
  refine ct_of (QR := (fun r : Int32 × Hp => qI cwX r.1 r.2)) (by decide +kernel) (fun g => ⟨rfl, Nat.le_of_ble_eq_true rfl⟩) e (fun x g hl C => ?_)
  unfold X7_whom
  refine j_aload_n C dX7_whom_0 rfl (n := 1) rfl ?_
  refine gf_X7_12 C 0 (cX_0 g _) rfl dX7_whom_1 (n := 4) rfl ?_
  refine j_iload_n C dX7_whom_4 rfl (n := 5) rfl ?_
  refine j_cz C (run_V C mi_X1_hasPart lm_X7_85 iv_X1_hasPart ⟨Nat.le_of_ble_eq_true rfl, Nat.le_of_ble_eq_true rfl⟩ (m_X1_hasPart _ _ _) (cX_1 g _) rfl rfl rfl rfl (Nat.le_of_ble_eq_true rfl) dX7_whom_5) (n := 8) rfl (fun b1 => ?_)
  refine j_if_ne C dX7_whom_8 (tgt := 18) (n := 11) (by decide) rfl (fun q2 => ?_) (fun q2 => ?_)
  · refine j_aload_n C dX7_whom_18 rfl (n := 19) rfl ?_
    refine gf_X7_12 C 0 (cX_0 g _) rfl dX7_whom_19 (n := 22) rfl ?_
    refine j_iload_n C dX7_whom_22 rfl (n := 23) rfl ?_
    refine j_bnd (fun r4 q3 => ?_)
    refine j_ci C (run_V C mi_X1_likestOf lm_X7_192 iv_X1_likestOf ⟨Nat.le_of_ble_eq_true rfl, Nat.le_of_ble_eq_true rfl⟩ (m_X1_likestOf _ _ _ _ q3) (cX_1 g _) rfl rfl rfl rfl (Nat.le_of_ble_eq_true rfl) dX7_whom_23) (n := 26) rfl ?_
    exact j_retP C dX7_whom_26
  · refine j_aload_n C dX7_whom_11 rfl (n := 12) rfl ?_
    refine j_ldc C dX7_whom_12 kc_X7_67 (n := 14) rfl ?_
    refine j_bnd (fun r7 q6 => ?_)
    refine j_ci C (run_V C mi_X7_finding lm_X7_68 iv_X7_finding ⟨Nat.le_of_ble_eq_true rfl, Nat.le_of_ble_eq_true rfl⟩ (m_X7_finding _ _ _ q6) (cX_0 g _) rfl rfl rfl rfl (Nat.le_of_ble_eq_true rfl) dX7_whom_14) (n := 17) rfl ?_
    exact j_retP C dX7_whom_17
-- X0_lossOf
set_option maxRecDepth 20000 in
theorem m_X0_lossOf (l : Launch) (fu : Nat) (x2 : Int32) (h : Hp) {r : Int32 × Hp} (e : X0_lossOf fu x2 h = some r) : CT l yX0_lossOf cX0_lossOf 3 (some .int) 5 cwX (fun g => [rf g 34, rf g 1, .int x2]) h (qI cwX r.1 r.2) := by
  refine ct_of (QR := (fun r : Int32 × Hp => qI cwX r.1 r.2)) (by decide +kernel) (fun g => ⟨rfl, Nat.le_of_ble_eq_true rfl⟩) e (fun x g hl C => ?_)
  unfold X0_lossOf
  refine j_aload_n C dX0_lossOf_0 rfl (n := 1) rfl ?_
  refine j_aload_n C dX0_lossOf_1 rfl (n := 2) rfl ?_
  refine j_bnd (fun h2 q1 => ?_)
  refine j_cv C (run_V C mi_X0_survey lm_X0_18 iv_X0_survey ⟨Nat.le_of_ble_eq_true rfl, Nat.le_of_ble_eq_true rfl⟩ (m_X0_survey _ _ _ q1) (cX_34 g _) rfl rfl rfl rfl (Nat.le_of_ble_eq_true rfl) dX0_lossOf_2) (n := 5) rfl ?_
  refine j_aload_n C dX0_lossOf_5 rfl (n := 6) rfl ?_
  refine j_aload_n C dX0_lossOf_6 rfl (n := 7) rfl ?_
  refine gf_X0_22 C 34 (cX_34 g _) rfl dX0_lossOf_7 (n := 10) rfl ?_
  refine j_aload_n C dX0_lossOf_10 rfl (n := 11) rfl ?_
  refine gf_X0_26 C 34 (cX_34 g _) rfl dX0_lossOf_11 (n := 14) rfl ?_
  refine j_bnd (fun r4 q3 => ?_)
  refine j_ci C (run_V C mi_X0_fill lm_X0_29 iv_X0_fill ⟨Nat.le_of_ble_eq_true rfl, Nat.le_of_ble_eq_true rfl⟩ (m_X0_fill _ _ _ _ _ q3) (cX_34 g _) rfl rfl rfl rfl (Nat.le_of_ble_eq_true rfl) dX0_lossOf_14) (n := 17) rfl ?_
  refine j_aload_n C dX0_lossOf_17 rfl (n := 18) rfl ?_
  refine j_aload_n C dX0_lossOf_18 rfl (n := 19) rfl ?_
  refine gf_X0_22 C 34 (cX_34 g _) rfl dX0_lossOf_19 (n := 22) rfl ?_
  refine j_aload_n C dX0_lossOf_22 rfl (n := 23) rfl ?_
  refine gf_X0_26 C 34 (cX_34 g _) rfl dX0_lossOf_23 (n := 26) rfl ?_
  refine j_iconst C dX0_lossOf_26 ic_1 (n := 27) rfl ?_
  refine j_iload_n C dX0_lossOf_27 rfl (n := 28) rfl ?_
  refine j_ishl C dX0_lossOf_28 (n := 29) rfl ?_
  refine j_iconst C dX0_lossOf_29 ic_m1 (n := 30) rfl ?_
  refine j_ixor C dX0_lossOf_30 (n := 31) rfl ?_
  refine j_iand C dX0_lossOf_31 (n := 32) rfl ?_
  refine j_bnd (fun r7 q6 => ?_)
  refine j_ci C (run_V C mi_X0_fill lm_X0_29 iv_X0_fill ⟨Nat.le_of_ble_eq_true rfl, Nat.le_of_ble_eq_true rfl⟩ (m_X0_fill _ _ _ _ _ q6) (cX_34 g _) rfl rfl rfl rfl (Nat.le_of_ble_eq_true rfl) dX0_lossOf_32) (n := 35) rfl ?_
  refine j_isub C dX0_lossOf_35 (n := 36) rfl ?_
  exact j_retP C dX0_lossOf_36
-- X7_missed
set_option maxRecDepth 20000 in
theorem m_X7_missed (l : Launch) (fu : Nat) (x1 : Int32) (h : Hp) {r : Int32 × Hp} (e : X7_missed fu x1 h = some r) : CT l yX7_missed cX7_missed 2 (some .int) 6 cwX (fun g => [rf g 0, .int x1]) h (qI cwX r.1 r.2) := by
  refine ct_of (QR := (fun r : Int32 × Hp => qI cwX r.1 r.2)) (by decide +kernel) (fun g => ⟨rfl, Nat.le_of_ble_eq_true rfl⟩) e (fun x g hl C => ?_)
  unfold X7_missed
  refine j_aload_n C dX7_missed_0 rfl (n := 1) rfl ?_
  refine gf_X7_12 C 0 (cX_0 g _) rfl dX7_missed_1 (n := 4) rfl ?_
  refine j_iload_n C dX7_missed_4 rfl (n := 5) rfl ?_
  refine j_cz C (run_V C mi_X1_hasPart lm_X7_85 iv_X1_hasPart ⟨Nat.le_of_ble_eq_true rfl, Nat.le_of_ble_eq_true rfl⟩ (m_X1_hasPart _ _ _) (cX_1 g _) rfl rfl rfl rfl (Nat.le_of_ble_eq_true rfl) dX7_missed_5) (n := 8) rfl (fun b1 => ?_)
  refine j_if_ne C dX7_missed_8 (tgt := 18) (n := 11) (by decide) rfl (fun q2 => ?_) (fun q2 => ?_)
  · refine j_aload_n C dX7_missed_18 rfl (n := 19) rfl ?_
    refine gf_X7_25 C 0 (cX_0 g _) rfl dX7_missed_19 (n := 22) rfl ?_
    refine j_aload_n C dX7_missed_22 rfl (n := 23) rfl ?_
    refine gf_X7_12 C 0 (cX_0 g _) rfl dX7_missed_23 (n := 26) rfl ?_
    refine j_iload_n C dX7_missed_26 rfl (n := 27) rfl ?_
    refine j_bnd (fun r4 q3 => ?_)
    refine j_ci C (run_V C mi_X0_lossOf lm_X7_195 iv_X0_lossOf ⟨Nat.le_of_ble_eq_true rfl, Nat.le_of_ble_eq_true rfl⟩ (m_X0_lossOf _ _ _ _ q3) (cX_34 g _) rfl rfl rfl rfl (Nat.le_of_ble_eq_true rfl) dX7_missed_27) (n := 30) rfl ?_
    exact j_retP C dX7_missed_30
  · refine j_aload_n C dX7_missed_11 rfl (n := 12) rfl ?_
    refine j_ldc C dX7_missed_12 kc_X7_67 (n := 14) rfl ?_
    refine j_bnd (fun r7 q6 => ?_)
    refine j_ci C (run_V C mi_X7_finding lm_X7_68 iv_X7_finding ⟨Nat.le_of_ble_eq_true rfl, Nat.le_of_ble_eq_true rfl⟩ (m_X7_finding _ _ _ q6) (cX_0 g _) rfl rfl rfl rfl (Nat.le_of_ble_eq_true rfl) dX7_missed_14) (n := 17) rfl ?_
    exact j_retP C dX7_missed_17
-- X0_worthWith
set_option maxRecDepth 20000 in
theorem j_X0_worthWith_14 {x : Fx} {g : Gl} (C : Ok x g RX0 cX0_worthWith 8 (some .int)) (fu : Nat) (h : Hp) : ∀ (n : Nat) (x2 : Int32) (x3 : Int32) (x4 : Int32) (x5 : Int32), J x g cwX 8 3 (fun r : Int32 => qI cwX r h) 14 [some (rf g 34), some (rf g 1), some (.int x2), some (.int x3), some (.int x4), some (.int x5)] [] h (X0_worthWith_14 fu h n x2 x3 x4 x5) := by
  intro n
  induction n with
  | zero =>
    intro x2 x3 x4 x5
    rw [X0_worthWith_14]
    exact j_none
  | succ n ih =>
    intro x2 x3 x4 x5
    rw [X0_worthWith_14]
    refine j_iload C dX0_worthWith_14 rfl (n := 16) rfl ?_
    refine j_bipush C dX0_worthWith_16 bp_6 (n := 18) rfl ?_
    refine j_icmp_ge C dX0_worthWith_18 (tgt := 92) (n := 21) (by decide) rfl (fun q1 => ?_) (fun q1 => ?_)
    · refine j_iload C dX0_worthWith_92 rfl (n := 94) rfl ?_
      exact j_ret C dX0_worthWith_94
    · refine j_iload_n C dX0_worthWith_21 rfl (n := 22) rfl ?_
      refine j_iconst C dX0_worthWith_22 ic_1 (n := 23) rfl ?_
      refine j_bnd (fun r3 q2 => ?_)
      refine j_cz C (run_S C mi_X2_isUnder lm_X0_87 st_X2_isUnder ⟨Nat.le_of_ble_eq_true rfl, Nat.le_of_ble_eq_true rfl⟩ (m_X2_isUnder _ _ _ _ _ q2) rfl rfl rfl (Nat.le_of_ble_eq_true rfl) dX0_worthWith_23) (n := 26) rfl (fun b4 => ?_)
      refine j_if_eq C dX0_worthWith_26 (tgt := 92) (n := 29) (by decide) rfl (fun q5 => ?_) (fun q5 => ?_)
      · refine j_iload C dX0_worthWith_92 rfl (n := 94) rfl ?_
        exact j_ret C dX0_worthWith_94
      · refine j_aload_n C dX0_worthWith_29 rfl (n := 30) rfl ?_
        refine gf_X0_61 C 1 (cX_1 g _) rfl dX0_worthWith_30 (n := 33) rfl ?_
        refine j_iload C dX0_worthWith_33 rfl (n := 35) rfl ?_
        refine j_iald C 8 (cX_8 g _) dX0_worthWith_35 (n := 36) rfl ?_
        refine j_istore C dX0_worthWith_36 (Nat.le_of_ble_eq_true rfl) (n := 38) rfl ?_
        refine j_iload C dX0_worthWith_38 rfl (n := 40) rfl ?_
        refine j_cz C (run_SN C mi_X7_isFace ns_X0_64 st_X7_isFace ⟨Nat.le_of_ble_eq_true rfl, Nat.le_of_ble_eq_true rfl⟩ (m_X7_isFace _ _ _) rfl rfl rfl (Nat.le_of_ble_eq_true rfl) dX0_worthWith_40) (n := 43) rfl (fun b6 => ?_)
        refine j_if_eq C dX0_worthWith_43 (tgt := 86) (n := 46) (by decide) rfl (fun q7 => ?_) (fun q7 => ?_)
        · refine j_iinc C dX0_worthWith_86 rfl ic_1 (Nat.le_of_ble_eq_true rfl) (n := 89) rfl ?_
          refine j_goto C dX0_worthWith_89 (n := 14) (by decide) ?_
          exact j_to (ih _ _ _ _) ⟨rfl, ⟨rfl, ⟨rfl, ⟨rfl, ⟨rfl, ⟨rfl, trivial⟩⟩⟩⟩⟩⟩
        · refine j_iload_n C dX0_worthWith_46 rfl (n := 47) rfl ?_
          refine j_iload_n C dX0_worthWith_47 rfl (n := 48) rfl ?_
          refine j_aload_n C dX0_worthWith_48 rfl (n := 49) rfl ?_
          refine gf_X0_91 C 1 (cX_1 g _) rfl dX0_worthWith_49 (n := 52) rfl ?_
          refine j_iload C dX0_worthWith_52 rfl (n := 54) rfl ?_
          refine j_iald C 6 (cX_6 g _) dX0_worthWith_54 (n := 55) rfl ?_
          refine j_bnd (fun r9 q8 => ?_)
          refine j_ci C (run_S C mi_X2_likeness lm_X0_94 st_X2_likeness ⟨Nat.le_of_ble_eq_true rfl, Nat.le_of_ble_eq_true rfl⟩ (m_X2_likeness _ _ _ _ _ q8) rfl rfl rfl (Nat.le_of_ble_eq_true rfl) dX0_worthWith_55) (n := 58) rfl ?_
          refine j_istore C dX0_worthWith_58 (Nat.le_of_ble_eq_true rfl) (n := 60) rfl ?_
          refine j_iload C dX0_worthWith_60 rfl (n := 62) rfl ?_
          refine j_aload_n C dX0_worthWith_62 rfl (n := 63) rfl ?_
          refine gf_X0_15 C 34 (cX_34 g _) rfl dX0_worthWith_63 (n := 66) rfl ?_
          refine j_aload_n C dX0_worthWith_66 rfl (n := 67) rfl ?_
          refine gf_X0_22 C 34 (cX_34 g _) rfl dX0_worthWith_67 (n := 70) rfl ?_
          refine j_iconst C dX0_worthWith_70 ic_1 (n := 71) rfl ?_
          refine j_iload C dX0_worthWith_71 rfl (n := 73) rfl ?_
          refine j_ishl C dX0_worthWith_73 (n := 74) rfl ?_
          refine j_iconst C dX0_worthWith_74 ic_m1 (n := 75) rfl ?_
          refine j_ixor C dX0_worthWith_75 (n := 76) rfl ?_
          refine j_iand C dX0_worthWith_76 (n := 77) rfl ?_
          refine j_iald C 36 (cX_36 g _) dX0_worthWith_77 (n := 78) rfl ?_
          refine j_iload C dX0_worthWith_78 rfl (n := 80) rfl ?_
          refine j_iadd C dX0_worthWith_80 (n := 81) rfl ?_
          refine j_mmax C lm_X0_82 (Nat.le_of_ble_eq_true rfl) (Nat.le_of_ble_eq_true rfl) dX0_worthWith_81 (n := 84) rfl ?_
          refine j_istore C dX0_worthWith_84 (Nat.le_of_ble_eq_true rfl) (n := 86) rfl ?_
          refine j_iinc C dX0_worthWith_86 rfl ic_1 (Nat.le_of_ble_eq_true rfl) (n := 89) rfl ?_
          refine j_goto C dX0_worthWith_89 (n := 14) (by decide) ?_
          exact j_to (ih _ _ _ _) ⟨rfl, ⟨rfl, ⟨rfl, ⟨rfl, ⟨rfl, ⟨rfl, trivial⟩⟩⟩⟩⟩⟩
set_option maxRecDepth 20000 in
theorem m_X0_worthWith (l : Launch) (fu : Nat) (x2 : Int32) (x3 : Int32) (h : Hp) {r : Int32} (e : X0_worthWith fu x2 x3 h = some r) : CT l yX0_worthWith cX0_worthWith 8 (some .int) 3 cwX (fun g => [rf g 34, rf g 1, .int x2, .int x3]) h (qI cwX r h) := by
  refine ct_of (QR := (fun r : Int32 => qI cwX r h)) (by decide +kernel) (fun g => ⟨rfl, Nat.le_of_ble_eq_true rfl⟩) e (fun x g hl C => ?_)
  unfold X0_worthWith
  refine j_aload_n C dX0_worthWith_0 rfl (n := 1) rfl ?_
  refine gf_X0_15 C 34 (cX_34 g _) rfl dX0_worthWith_1 (n := 4) rfl ?_
  refine j_aload_n C dX0_worthWith_4 rfl (n := 5) rfl ?_
  refine gf_X0_22 C 34 (cX_34 g _) rfl dX0_worthWith_5 (n := 8) rfl ?_
  refine j_iald C 36 (cX_36 g _) dX0_worthWith_8 (n := 9) rfl ?_
  refine j_istore C dX0_worthWith_9 (Nat.le_of_ble_eq_true rfl) (n := 11) rfl ?_
  refine j_iconst C dX0_worthWith_11 ic_0 (n := 12) rfl ?_
  refine j_istore C dX0_worthWith_12 (Nat.le_of_ble_eq_true rfl) (n := 14) rfl ?_
  exact j_to (j_X0_worthWith_14 C _ _ _ _ _ _ _) ⟨rfl, ⟨rfl, ⟨rfl, ⟨rfl, ⟨rfl, ⟨rfl, trivial⟩⟩⟩⟩⟩⟩
-- X0_bestLooks
set_option maxRecDepth 20000 in
theorem j_X0_bestLooks_32 {x : Fx} {g : Gl} (C : Ok x g RX0 cX0_bestLooks 7 (some .int)) (fu : Nat) : ∀ (n : Nat) (x2 : Int32) (x3 : Int32) (x4 : Int32) (x5 : Int32) (h : Hp), J x g cwX 7 5 (fun r : Int32 × Hp => qI cwX r.1 r.2) 32 [some (rf g 34), some (rf g 1), some (.int x2), some (.int x3), some (.int x4), some (.int x5)] [] h (X0_bestLooks_32 fu n x2 x3 x4 x5 h) := by
  intro n
  induction n with
  | zero =>
    intro x2 x3 x4 x5 h
    rw [X0_bestLooks_32]
    exact j_none
  | succ n ih =>
    intro x2 x3 x4 x5 h
    rw [X0_bestLooks_32]
    refine j_iload C dX0_bestLooks_32 rfl (n := 34) rfl ?_
    refine j_sipush C dX0_bestLooks_34 sp_255 (n := 37) rfl ?_
    refine j_icmp_gt C dX0_bestLooks_37 (tgt := 75) (n := 40) (by decide) rfl (fun q1 => ?_) (fun q1 => ?_)
    · refine j_iload_n C dX0_bestLooks_75 rfl (n := 76) rfl ?_
      exact j_retP C dX0_bestLooks_76
    · refine j_aload_n C dX0_bestLooks_40 rfl (n := 41) rfl ?_
      refine j_aload_n C dX0_bestLooks_41 rfl (n := 42) rfl ?_
      refine j_aload_n C dX0_bestLooks_42 rfl (n := 43) rfl ?_
      refine gf_X0_36 C 1 (cX_1 g _) rfl dX0_bestLooks_43 (n := 46) rfl ?_
      refine j_iload_n C dX0_bestLooks_46 rfl (n := 47) rfl ?_
      refine j_iald C 2 (cX_2 g _) dX0_bestLooks_47 (n := 48) rfl ?_
      refine j_iload C dX0_bestLooks_48 rfl (n := 50) rfl ?_
      refine j_bnd (fun r3 q2 => ?_)
      refine j_ci C (run_V C mi_X0_worthWith lm_X0_41 iv_X0_worthWith ⟨Nat.le_of_ble_eq_true rfl, Nat.le_of_ble_eq_true rfl⟩ (m_X0_worthWith _ _ _ _ _ q2) (cX_34 g _) rfl rfl rfl rfl (Nat.le_of_ble_eq_true rfl) dX0_bestLooks_50) (n := 53) rfl ?_
      refine j_istore C dX0_bestLooks_53 (Nat.le_of_ble_eq_true rfl) (n := 55) rfl ?_
      refine j_iload C dX0_bestLooks_55 rfl (n := 57) rfl ?_
      refine j_iload C dX0_bestLooks_57 rfl (n := 59) rfl ?_
      refine j_icmp_le C dX0_bestLooks_59 (tgt := 69) (n := 62) (by decide) rfl (fun q5 => ?_) (fun q5 => ?_)
      · refine j_iinc C dX0_bestLooks_69 rfl ic_1 (Nat.le_of_ble_eq_true rfl) (n := 72) rfl ?_
        refine j_goto C dX0_bestLooks_72 (n := 32) (by decide) ?_
        exact j_to (ih _ _ _ _ _) ⟨rfl, ⟨rfl, ⟨rfl, ⟨rfl, ⟨rfl, ⟨rfl, trivial⟩⟩⟩⟩⟩⟩
      · refine j_iload C dX0_bestLooks_62 rfl (n := 64) rfl ?_
        refine j_istore C dX0_bestLooks_64 (Nat.le_of_ble_eq_true rfl) (n := 66) rfl ?_
        refine j_iload C dX0_bestLooks_66 rfl (n := 68) rfl ?_
        refine j_istore_n C dX0_bestLooks_68 (Nat.le_of_ble_eq_true rfl) (n := 69) rfl ?_
        refine j_iinc C dX0_bestLooks_69 rfl ic_1 (Nat.le_of_ble_eq_true rfl) (n := 72) rfl ?_
        refine j_goto C dX0_bestLooks_72 (n := 32) (by decide) ?_
        exact j_to (ih _ _ _ _ _) ⟨rfl, ⟨rfl, ⟨rfl, ⟨rfl, ⟨rfl, ⟨rfl, trivial⟩⟩⟩⟩⟩⟩
set_option maxRecDepth 20000 in
theorem m_X0_bestLooks (l : Launch) (fu : Nat) (x2 : Int32) (h : Hp) {r : Int32 × Hp} (e : X0_bestLooks fu x2 h = some r) : CT l yX0_bestLooks cX0_bestLooks 7 (some .int) 5 cwX (fun g => [rf g 34, rf g 1, .int x2]) h (qI cwX r.1 r.2) := by
  refine ct_of (QR := (fun r : Int32 × Hp => qI cwX r.1 r.2)) (by decide +kernel) (fun g => ⟨rfl, Nat.le_of_ble_eq_true rfl⟩) e (fun x g hl C => ?_)
  unfold X0_bestLooks
  refine j_aload_n C dX0_bestLooks_0 rfl (n := 1) rfl ?_
  refine j_aload_n C dX0_bestLooks_1 rfl (n := 2) rfl ?_
  refine j_bnd (fun h2 q1 => ?_)
  refine j_cv C (run_V C mi_X0_survey lm_X0_18 iv_X0_survey ⟨Nat.le_of_ble_eq_true rfl, Nat.le_of_ble_eq_true rfl⟩ (m_X0_survey _ _ _ q1) (cX_34 g _) rfl rfl rfl rfl (Nat.le_of_ble_eq_true rfl) dX0_bestLooks_2) (n := 5) rfl ?_
  refine j_aload_n C dX0_bestLooks_5 rfl (n := 6) rfl ?_
  refine j_aload_n C dX0_bestLooks_6 rfl (n := 7) rfl ?_
  refine gf_X0_22 C 34 (cX_34 g _) rfl dX0_bestLooks_7 (n := 10) rfl ?_
  refine j_aload_n C dX0_bestLooks_10 rfl (n := 11) rfl ?_
  refine gf_X0_26 C 34 (cX_34 g _) rfl dX0_bestLooks_11 (n := 14) rfl ?_
  refine j_iconst C dX0_bestLooks_14 ic_1 (n := 15) rfl ?_
  refine j_iload_n C dX0_bestLooks_15 rfl (n := 16) rfl ?_
  refine j_ishl C dX0_bestLooks_16 (n := 17) rfl ?_
  refine j_iconst C dX0_bestLooks_17 ic_m1 (n := 18) rfl ?_
  refine j_ixor C dX0_bestLooks_18 (n := 19) rfl ?_
  refine j_iand C dX0_bestLooks_19 (n := 20) rfl ?_
  refine j_bnd (fun r4 q3 => ?_)
  refine j_ci C (run_V C mi_X0_fill lm_X0_29 iv_X0_fill ⟨Nat.le_of_ble_eq_true rfl, Nat.le_of_ble_eq_true rfl⟩ (m_X0_fill _ _ _ _ _ q3) (cX_34 g _) rfl rfl rfl rfl (Nat.le_of_ble_eq_true rfl) dX0_bestLooks_20) (n := 23) rfl ?_
  refine j_pop C dX0_bestLooks_23 rfl (n := 24) rfl ?_
  refine j_iconst C dX0_bestLooks_24 ic_0 (n := 25) rfl ?_
  refine j_istore_n C dX0_bestLooks_25 (Nat.le_of_ble_eq_true rfl) (n := 26) rfl ?_
  refine j_iconst C dX0_bestLooks_26 ic_m1 (n := 27) rfl ?_
  refine j_istore C dX0_bestLooks_27 (Nat.le_of_ble_eq_true rfl) (n := 29) rfl ?_
  refine j_iconst C dX0_bestLooks_29 ic_0 (n := 30) rfl ?_
  refine j_istore C dX0_bestLooks_30 (Nat.le_of_ble_eq_true rfl) (n := 32) rfl ?_
  exact j_to (j_X0_bestLooks_32 C _ _ _ _ _ _ _) ⟨rfl, ⟨rfl, ⟨rfl, ⟨rfl, ⟨rfl, ⟨rfl, trivial⟩⟩⟩⟩⟩⟩
-- X7_recast
set_option maxRecDepth 20000 in
theorem m_X7_recast (l : Launch) (fu : Nat) (x1 : Int32) (h : Hp) {r : Int32 × Hp} (e : X7_recast fu x1 h = some r) : CT l yX7_recast cX7_recast 2 (some .int) 6 cwX (fun g => [rf g 0, .int x1]) h (qI cwX r.1 r.2) := by
  refine ct_of (QR := (fun r : Int32 × Hp => qI cwX r.1 r.2)) (by decide +kernel) (fun g => ⟨rfl, Nat.le_of_ble_eq_true rfl⟩) e (fun x g hl C => ?_)
  unfold X7_recast
  refine j_aload_n C dX7_recast_0 rfl (n := 1) rfl ?_
  refine gf_X7_12 C 0 (cX_0 g _) rfl dX7_recast_1 (n := 4) rfl ?_
  refine j_iload_n C dX7_recast_4 rfl (n := 5) rfl ?_
  refine j_cz C (run_V C mi_X1_hasPart lm_X7_85 iv_X1_hasPart ⟨Nat.le_of_ble_eq_true rfl, Nat.le_of_ble_eq_true rfl⟩ (m_X1_hasPart _ _ _) (cX_1 g _) rfl rfl rfl rfl (Nat.le_of_ble_eq_true rfl) dX7_recast_5) (n := 8) rfl (fun b1 => ?_)
  refine j_if_ne C dX7_recast_8 (tgt := 18) (n := 11) (by decide) rfl (fun q2 => ?_) (fun q2 => ?_)
  · refine j_aload_n C dX7_recast_18 rfl (n := 19) rfl ?_
    refine gf_X7_12 C 0 (cX_0 g _) rfl dX7_recast_19 (n := 22) rfl ?_
    refine j_iload_n C dX7_recast_22 rfl (n := 23) rfl ?_
    refine j_bnd (fun r4 q3 => ?_)
    refine j_cz C (run_V C mi_X1_isHead lm_X7_198 iv_X1_isHead ⟨Nat.le_of_ble_eq_true rfl, Nat.le_of_ble_eq_true rfl⟩ (m_X1_isHead _ _ _ _ q3) (cX_1 g _) rfl rfl rfl rfl (Nat.le_of_ble_eq_true rfl) dX7_recast_23) (n := 26) rfl (fun b5 => ?_)
    refine j_if_ne C dX7_recast_26 (tgt := 36) (n := 29) (by decide) rfl (fun q6 => ?_) (fun q6 => ?_)
    · refine j_aload_n C dX7_recast_36 rfl (n := 37) rfl ?_
      refine gf_X7_25 C 0 (cX_0 g _) rfl dX7_recast_37 (n := 40) rfl ?_
      refine j_aload_n C dX7_recast_40 rfl (n := 41) rfl ?_
      refine gf_X7_12 C 0 (cX_0 g _) rfl dX7_recast_41 (n := 44) rfl ?_
      refine j_iload_n C dX7_recast_44 rfl (n := 45) rfl ?_
      refine j_bnd (fun r8 q7 => ?_)
      refine j_ci C (run_V C mi_X0_bestLooks lm_X7_202 iv_X0_bestLooks ⟨Nat.le_of_ble_eq_true rfl, Nat.le_of_ble_eq_true rfl⟩ (m_X0_bestLooks _ _ _ _ q7) (cX_34 g _) rfl rfl rfl rfl (Nat.le_of_ble_eq_true rfl) dX7_recast_45) (n := 48) rfl ?_
      exact j_retP C dX7_recast_48
    · refine j_aload_n C dX7_recast_29 rfl (n := 30) rfl ?_
      refine j_ldc C dX7_recast_30 kc_X7_201 (n := 32) rfl ?_
      refine j_bnd (fun r11 q10 => ?_)
      refine j_ci C (run_V C mi_X7_finding lm_X7_68 iv_X7_finding ⟨Nat.le_of_ble_eq_true rfl, Nat.le_of_ble_eq_true rfl⟩ (m_X7_finding _ _ _ q10) (cX_0 g _) rfl rfl rfl rfl (Nat.le_of_ble_eq_true rfl) dX7_recast_32) (n := 35) rfl ?_
      exact j_retP C dX7_recast_35
  · refine j_aload_n C dX7_recast_11 rfl (n := 12) rfl ?_
    refine j_ldc C dX7_recast_12 kc_X7_67 (n := 14) rfl ?_
    refine j_bnd (fun r14 q13 => ?_)
    refine j_ci C (run_V C mi_X7_finding lm_X7_68 iv_X7_finding ⟨Nat.le_of_ble_eq_true rfl, Nat.le_of_ble_eq_true rfl⟩ (m_X7_finding _ _ _ q13) (cX_0 g _) rfl rfl rfl rfl (Nat.le_of_ble_eq_true rfl) dX7_recast_14) (n := 17) rfl ?_
    exact j_retP C dX7_recast_17
-- X0_bestKind
set_option maxRecDepth 20000 in
theorem j_X0_bestKind_32 {x : Fx} {g : Gl} (C : Ok x g RX0 cX0_bestKind 7 (some .int)) (fu : Nat) : ∀ (n : Nat) (x2 : Int32) (x3 : Int32) (x4 : Int32) (x5 : Int32) (h : Hp), J x g cwX 7 5 (fun r : Int32 × Hp => qI cwX r.1 r.2) 32 [some (rf g 34), some (rf g 1), some (.int x2), some (.int x3), some (.int x4), some (.int x5)] [] h (X0_bestKind_32 fu n x2 x3 x4 x5 h) := by
  intro n
  induction n with
  | zero =>
    intro x2 x3 x4 x5 h
    rw [X0_bestKind_32]
    exact j_none
  | succ n ih =>
    intro x2 x3 x4 x5 h
    rw [X0_bestKind_32]
    refine j_iload C dX0_bestKind_32 rfl (n := 34) rfl ?_
    refine j_bipush C dX0_bestKind_34 bp_6 (n := 36) rfl ?_
    refine j_icmp_gt C dX0_bestKind_36 (tgt := 74) (n := 39) (by decide) rfl (fun q1 => ?_) (fun q1 => ?_)
    · refine j_iload_n C dX0_bestKind_74 rfl (n := 75) rfl ?_
      exact j_retP C dX0_bestKind_75
    · refine j_aload_n C dX0_bestKind_39 rfl (n := 40) rfl ?_
      refine j_aload_n C dX0_bestKind_40 rfl (n := 41) rfl ?_
      refine j_iload C dX0_bestKind_41 rfl (n := 43) rfl ?_
      refine j_aload_n C dX0_bestKind_43 rfl (n := 44) rfl ?_
      refine gf_X0_47 C 1 (cX_1 g _) rfl dX0_bestKind_44 (n := 47) rfl ?_
      refine j_iload_n C dX0_bestKind_47 rfl (n := 48) rfl ?_
      refine j_iald C 3 (cX_3 g _) dX0_bestKind_48 (n := 49) rfl ?_
      refine j_bnd (fun r3 q2 => ?_)
      refine j_ci C (run_V C mi_X0_worthWith lm_X0_41 iv_X0_worthWith ⟨Nat.le_of_ble_eq_true rfl, Nat.le_of_ble_eq_true rfl⟩ (m_X0_worthWith _ _ _ _ _ q2) (cX_34 g _) rfl rfl rfl rfl (Nat.le_of_ble_eq_true rfl) dX0_bestKind_49) (n := 52) rfl ?_
      refine j_istore C dX0_bestKind_52 (Nat.le_of_ble_eq_true rfl) (n := 54) rfl ?_
      refine j_iload C dX0_bestKind_54 rfl (n := 56) rfl ?_
      refine j_iload C dX0_bestKind_56 rfl (n := 58) rfl ?_
      refine j_icmp_le C dX0_bestKind_58 (tgt := 68) (n := 61) (by decide) rfl (fun q5 => ?_) (fun q5 => ?_)
      · refine j_iinc C dX0_bestKind_68 rfl ic_1 (Nat.le_of_ble_eq_true rfl) (n := 71) rfl ?_
        refine j_goto C dX0_bestKind_71 (n := 32) (by decide) ?_
        exact j_to (ih _ _ _ _ _) ⟨rfl, ⟨rfl, ⟨rfl, ⟨rfl, ⟨rfl, ⟨rfl, trivial⟩⟩⟩⟩⟩⟩
      · refine j_iload C dX0_bestKind_61 rfl (n := 63) rfl ?_
        refine j_istore C dX0_bestKind_63 (Nat.le_of_ble_eq_true rfl) (n := 65) rfl ?_
        refine j_iload C dX0_bestKind_65 rfl (n := 67) rfl ?_
        refine j_istore_n C dX0_bestKind_67 (Nat.le_of_ble_eq_true rfl) (n := 68) rfl ?_
        refine j_iinc C dX0_bestKind_68 rfl ic_1 (Nat.le_of_ble_eq_true rfl) (n := 71) rfl ?_
        refine j_goto C dX0_bestKind_71 (n := 32) (by decide) ?_
        exact j_to (ih _ _ _ _ _) ⟨rfl, ⟨rfl, ⟨rfl, ⟨rfl, ⟨rfl, ⟨rfl, trivial⟩⟩⟩⟩⟩⟩
set_option maxRecDepth 20000 in
theorem m_X0_bestKind (l : Launch) (fu : Nat) (x2 : Int32) (h : Hp) {r : Int32 × Hp} (e : X0_bestKind fu x2 h = some r) : CT l yX0_bestKind cX0_bestKind 7 (some .int) 5 cwX (fun g => [rf g 34, rf g 1, .int x2]) h (qI cwX r.1 r.2) := by
  refine ct_of (QR := (fun r : Int32 × Hp => qI cwX r.1 r.2)) (by decide +kernel) (fun g => ⟨rfl, Nat.le_of_ble_eq_true rfl⟩) e (fun x g hl C => ?_)
  unfold X0_bestKind
  refine j_aload_n C dX0_bestKind_0 rfl (n := 1) rfl ?_
  refine j_aload_n C dX0_bestKind_1 rfl (n := 2) rfl ?_
  refine j_bnd (fun h2 q1 => ?_)
  refine j_cv C (run_V C mi_X0_survey lm_X0_18 iv_X0_survey ⟨Nat.le_of_ble_eq_true rfl, Nat.le_of_ble_eq_true rfl⟩ (m_X0_survey _ _ _ q1) (cX_34 g _) rfl rfl rfl rfl (Nat.le_of_ble_eq_true rfl) dX0_bestKind_2) (n := 5) rfl ?_
  refine j_aload_n C dX0_bestKind_5 rfl (n := 6) rfl ?_
  refine j_aload_n C dX0_bestKind_6 rfl (n := 7) rfl ?_
  refine gf_X0_22 C 34 (cX_34 g _) rfl dX0_bestKind_7 (n := 10) rfl ?_
  refine j_aload_n C dX0_bestKind_10 rfl (n := 11) rfl ?_
  refine gf_X0_26 C 34 (cX_34 g _) rfl dX0_bestKind_11 (n := 14) rfl ?_
  refine j_iconst C dX0_bestKind_14 ic_1 (n := 15) rfl ?_
  refine j_iload_n C dX0_bestKind_15 rfl (n := 16) rfl ?_
  refine j_ishl C dX0_bestKind_16 (n := 17) rfl ?_
  refine j_iconst C dX0_bestKind_17 ic_m1 (n := 18) rfl ?_
  refine j_ixor C dX0_bestKind_18 (n := 19) rfl ?_
  refine j_iand C dX0_bestKind_19 (n := 20) rfl ?_
  refine j_bnd (fun r4 q3 => ?_)
  refine j_ci C (run_V C mi_X0_fill lm_X0_29 iv_X0_fill ⟨Nat.le_of_ble_eq_true rfl, Nat.le_of_ble_eq_true rfl⟩ (m_X0_fill _ _ _ _ _ q3) (cX_34 g _) rfl rfl rfl rfl (Nat.le_of_ble_eq_true rfl) dX0_bestKind_20) (n := 23) rfl ?_
  refine j_pop C dX0_bestKind_23 rfl (n := 24) rfl ?_
  refine j_iconst C dX0_bestKind_24 ic_0 (n := 25) rfl ?_
  refine j_istore_n C dX0_bestKind_25 (Nat.le_of_ble_eq_true rfl) (n := 26) rfl ?_
  refine j_iconst C dX0_bestKind_26 ic_m1 (n := 27) rfl ?_
  refine j_istore C dX0_bestKind_27 (Nat.le_of_ble_eq_true rfl) (n := 29) rfl ?_
  refine j_iconst C dX0_bestKind_29 ic_0 (n := 30) rfl ?_
  refine j_istore C dX0_bestKind_30 (Nat.le_of_ble_eq_true rfl) (n := 32) rfl ?_
  exact j_to (j_X0_bestKind_32 C _ _ _ _ _ _ _) ⟨rfl, ⟨rfl, ⟨rfl, ⟨rfl, ⟨rfl, ⟨rfl, trivial⟩⟩⟩⟩⟩⟩
-- X7_kindFor
set_option maxRecDepth 20000 in
theorem m_X7_kindFor (l : Launch) (fu : Nat) (x1 : Int32) (h : Hp) {r : Int32 × Hp} (e : X7_kindFor fu x1 h = some r) : CT l yX7_kindFor cX7_kindFor 2 (some .int) 6 cwX (fun g => [rf g 0, .int x1]) h (qI cwX r.1 r.2) := by
  refine ct_of (QR := (fun r : Int32 × Hp => qI cwX r.1 r.2)) (by decide +kernel) (fun g => ⟨rfl, Nat.le_of_ble_eq_true rfl⟩) e (fun x g hl C => ?_)
  unfold X7_kindFor
  refine j_aload_n C dX7_kindFor_0 rfl (n := 1) rfl ?_
  refine gf_X7_12 C 0 (cX_0 g _) rfl dX7_kindFor_1 (n := 4) rfl ?_
  refine j_iload_n C dX7_kindFor_4 rfl (n := 5) rfl ?_
  refine j_cz C (run_V C mi_X1_hasPart lm_X7_85 iv_X1_hasPart ⟨Nat.le_of_ble_eq_true rfl, Nat.le_of_ble_eq_true rfl⟩ (m_X1_hasPart _ _ _) (cX_1 g _) rfl rfl rfl rfl (Nat.le_of_ble_eq_true rfl) dX7_kindFor_5) (n := 8) rfl (fun b1 => ?_)
  refine j_if_ne C dX7_kindFor_8 (tgt := 18) (n := 11) (by decide) rfl (fun q2 => ?_) (fun q2 => ?_)
  · refine j_aload_n C dX7_kindFor_18 rfl (n := 19) rfl ?_
    refine gf_X7_25 C 0 (cX_0 g _) rfl dX7_kindFor_19 (n := 22) rfl ?_
    refine j_aload_n C dX7_kindFor_22 rfl (n := 23) rfl ?_
    refine gf_X7_12 C 0 (cX_0 g _) rfl dX7_kindFor_23 (n := 26) rfl ?_
    refine j_iload_n C dX7_kindFor_26 rfl (n := 27) rfl ?_
    refine j_bnd (fun r4 q3 => ?_)
    refine j_ci C (run_V C mi_X0_bestKind lm_X7_205 iv_X0_bestKind ⟨Nat.le_of_ble_eq_true rfl, Nat.le_of_ble_eq_true rfl⟩ (m_X0_bestKind _ _ _ _ q3) (cX_34 g _) rfl rfl rfl rfl (Nat.le_of_ble_eq_true rfl) dX7_kindFor_27) (n := 30) rfl ?_
    exact j_retP C dX7_kindFor_30
  · refine j_aload_n C dX7_kindFor_11 rfl (n := 12) rfl ?_
    refine j_ldc C dX7_kindFor_12 kc_X7_67 (n := 14) rfl ?_
    refine j_bnd (fun r7 q6 => ?_)
    refine j_ci C (run_V C mi_X7_finding lm_X7_68 iv_X7_finding ⟨Nat.le_of_ble_eq_true rfl, Nat.le_of_ble_eq_true rfl⟩ (m_X7_finding _ _ _ q6) (cX_0 g _) rfl rfl rfl rfl (Nat.le_of_ble_eq_true rfl) dX7_kindFor_14) (n := 17) rfl ?_
    exact j_retP C dX7_kindFor_17
-- X1_staysUnseen
set_option maxRecDepth 20000 in
theorem j_X1_staysUnseen_97 {x : Fx} {g : Gl} (C : Ok x g RX1 cX1_staysUnseen 8 (some .boolean)) (fu : Nat) (h : Hp) (k22 : Int32 → Int32 → Int32 → Int32 → Int32 → Option (Int32)) (hk22 : ∀ (x1 : Int32) (x2 : Int32) (x4 : Int32) (x5 : Int32) (x6 : Int32), J x g cwX 8 3 (fun r : Int32 => qZ cwX r h) 22 [some (rf g 1), some (.int x1), some (.int x2), none, some (.int x4), some (.int x5), some (.int x6)] [] h (k22 x1 x2 x4 x5 x6)) (x1 : Int32) (x2 : Int32) (x4 : Int32) (x5 : Int32) (x6 : Int32) (x7 : Int32) : J x g cwX 8 3 (fun r : Int32 => qZ cwX r h) 97 [some (rf g 1), some (.int x1), some (.int x2), none, some (.int x4), some (.int x5), some (.int x6), some (.int x7)] [] h (X1_staysUnseen_97 fu k22 h x1 x2 x4 x5 x6 x7) := by
  unfold X1_staysUnseen_97
  refine j_aload_n C dX1_staysUnseen_97 rfl (n := 98) rfl ?_
  refine j_iload C dX1_staysUnseen_98 rfl (n := 100) rfl ?_
  refine j_iload_n C dX1_staysUnseen_100 rfl (n := 101) rfl ?_
  refine j_iload C dX1_staysUnseen_101 rfl (n := 103) rfl ?_
  refine j_ldc C dX1_staysUnseen_103 kc_X1_137 (n := 105) rfl ?_
  refine j_bnd (fun r2 q1 => ?_)
  refine j_cz C (run_V C mi_X1_passes lm_X1_118 iv_X1_passes ⟨Nat.le_of_ble_eq_true rfl, Nat.le_of_ble_eq_true rfl⟩ (m_X1_passes _ _ _ _ _ _ q1) (cX_1 g _) rfl rfl rfl rfl (Nat.le_of_ble_eq_true rfl) dX1_staysUnseen_105) (n := 108) rfl (fun b3 => ?_)
  refine j_if_eq C dX1_staysUnseen_108 (tgt := 119) (n := 111) (by decide) rfl (fun q4 => ?_) (fun q4 => ?_)
  · refine j_iload C dX1_staysUnseen_119 rfl (n := 121) rfl ?_
    refine j_ci C (run_S C mi_J6_bitCount_0f7a4 lm_X1_129 st_J6_bitCount_0f7a4 ⟨Nat.le_of_ble_eq_true rfl, Nat.le_of_ble_eq_true rfl⟩ (m_J6_bitCount_0f7a4 _ _ _) rfl rfl rfl (Nat.le_of_ble_eq_true rfl) dX1_staysUnseen_121) (n := 124) rfl ?_
    refine j_iconst C dX1_staysUnseen_124 ic_2 (n := 125) rfl ?_
    refine j_icmp_lt C dX1_staysUnseen_125 (tgt := 130) (n := 128) (by decide) rfl (fun q5 => ?_) (fun q5 => ?_)
    · refine j_iinc C dX1_staysUnseen_130 rfl ic_1 (Nat.le_of_ble_eq_true rfl) (n := 133) rfl ?_
      refine j_goto C dX1_staysUnseen_133 (n := 22) (by decide) ?_
      exact j_to (hk22 _ _ _ _ _) ⟨rfl, ⟨rfl, ⟨rfl, ⟨rfl, ⟨rfl, ⟨rfl, trivial⟩⟩⟩⟩⟩⟩
    · refine j_iconst C dX1_staysUnseen_128 ic_0 (n := 129) rfl ?_
      exact j_retZ C (Or.inl rfl) dX1_staysUnseen_129
  · refine j_iload C dX1_staysUnseen_111 rfl (n := 113) rfl ?_
    refine j_iconst C dX1_staysUnseen_113 ic_1 (n := 114) rfl ?_
    refine j_iload_n C dX1_staysUnseen_114 rfl (n := 115) rfl ?_
    refine j_ishl C dX1_staysUnseen_115 (n := 116) rfl ?_
    refine j_ior C dX1_staysUnseen_116 (n := 117) rfl ?_
    refine j_istore C dX1_staysUnseen_117 (Nat.le_of_ble_eq_true rfl) (n := 119) rfl ?_
    refine j_iload C dX1_staysUnseen_119 rfl (n := 121) rfl ?_
    refine j_ci C (run_S C mi_J6_bitCount_0f7a4 lm_X1_129 st_J6_bitCount_0f7a4 ⟨Nat.le_of_ble_eq_true rfl, Nat.le_of_ble_eq_true rfl⟩ (m_J6_bitCount_0f7a4 _ _ _) rfl rfl rfl (Nat.le_of_ble_eq_true rfl) dX1_staysUnseen_121) (n := 124) rfl ?_
    refine j_iconst C dX1_staysUnseen_124 ic_2 (n := 125) rfl ?_
    refine j_icmp_lt C dX1_staysUnseen_125 (tgt := 130) (n := 128) (by decide) rfl (fun q6 => ?_) (fun q6 => ?_)
    · refine j_iinc C dX1_staysUnseen_130 rfl ic_1 (Nat.le_of_ble_eq_true rfl) (n := 133) rfl ?_
      refine j_goto C dX1_staysUnseen_133 (n := 22) (by decide) ?_
      exact j_to (hk22 _ _ _ _ _) ⟨rfl, ⟨rfl, ⟨rfl, ⟨rfl, ⟨rfl, ⟨rfl, trivial⟩⟩⟩⟩⟩⟩
    · refine j_iconst C dX1_staysUnseen_128 ic_0 (n := 129) rfl ?_
      exact j_retZ C (Or.inl rfl) dX1_staysUnseen_129
set_option maxRecDepth 20000 in
theorem j_X1_staysUnseen_22 {x : Fx} {g : Gl} (C : Ok x g RX1 cX1_staysUnseen 8 (some .boolean)) (fu : Nat) (h : Hp) : ∀ (n : Nat) (x1 : Int32) (x2 : Int32) (x4 : Int32) (x5 : Int32) (x6 : Int32), J x g cwX 8 3 (fun r : Int32 => qZ cwX r h) 22 [some (rf g 1), some (.int x1), some (.int x2), none, some (.int x4), some (.int x5), some (.int x6)] [] h (X1_staysUnseen_22 fu h n x1 x2 x4 x5 x6) := by
  intro n
  induction n with
  | zero =>
    intro x1 x2 x4 x5 x6
    rw [X1_staysUnseen_22]
    exact j_none
  | succ n ih =>
    intro x1 x2 x4 x5 x6
    rw [X1_staysUnseen_22]
    refine j_iload C dX1_staysUnseen_22 rfl (n := 24) rfl ?_
    refine j_aload_n C dX1_staysUnseen_24 rfl (n := 25) rfl ?_
    refine gf_X1_64 C 1 (cX_1 g _) rfl dX1_staysUnseen_25 (n := 28) rfl ?_
    refine j_icmp_ge C dX1_staysUnseen_28 (tgt := 136) (n := 31) (by decide) rfl (fun q1 => ?_) (fun q1 => ?_)
    · refine j_iconst C dX1_staysUnseen_136 ic_1 (n := 137) rfl ?_
      exact j_retZ C (Or.inr rfl) dX1_staysUnseen_137
    · refine j_aload_n C dX1_staysUnseen_31 rfl (n := 32) rfl ?_
      refine gf_X1_36 C 1 (cX_1 g _) rfl dX1_staysUnseen_32 (n := 35) rfl ?_
      refine j_iload C dX1_staysUnseen_35 rfl (n := 37) rfl ?_
      refine j_bipush C dX1_staysUnseen_37 bp_10 (n := 39) rfl ?_
      refine j_imul C dX1_staysUnseen_39 (n := 40) rfl ?_
      refine j_iload_n C dX1_staysUnseen_40 rfl (n := 41) rfl ?_
      refine j_iadd C dX1_staysUnseen_41 (n := 42) rfl ?_
      refine j_iald C 10 (cX_10 g _) dX1_staysUnseen_42 (n := 43) rfl ?_
      refine j_istore C dX1_staysUnseen_43 (Nat.le_of_ble_eq_true rfl) (n := 45) rfl ?_
      refine j_aload_n C dX1_staysUnseen_45 rfl (n := 46) rfl ?_
      refine j_iload C dX1_staysUnseen_46 rfl (n := 48) rfl ?_
      refine j_bnd (fun r3 q2 => ?_)
      refine j_ci C (run_V C mi_X1_roomOf lm_X1_106 iv_X1_roomOf ⟨Nat.le_of_ble_eq_true rfl, Nat.le_of_ble_eq_true rfl⟩ (m_X1_roomOf _ _ _ q2) (cX_1 g _) rfl rfl rfl rfl (Nat.le_of_ble_eq_true rfl) dX1_staysUnseen_48) (n := 51) rfl ?_
      refine j_if_lt C dX1_staysUnseen_51 (tgt := 130) (n := 54) (by decide) rfl (fun q5 => ?_) (fun q5 => ?_)
      · refine j_iinc C dX1_staysUnseen_130 rfl ic_1 (Nat.le_of_ble_eq_true rfl) (n := 133) rfl ?_
        refine j_goto C dX1_staysUnseen_133 (n := 22) (by decide) ?_
        exact j_to (ih _ _ _ _ _) ⟨rfl, ⟨rfl, ⟨rfl, ⟨rfl, ⟨rfl, ⟨rfl, trivial⟩⟩⟩⟩⟩⟩
      · refine j_iload C dX1_staysUnseen_54 rfl (n := 56) rfl ?_
        refine j_ci C (run_S C mi_J6_bitCount_0f7a4 lm_X1_129 st_J6_bitCount_0f7a4 ⟨Nat.le_of_ble_eq_true rfl, Nat.le_of_ble_eq_true rfl⟩ (m_J6_bitCount_0f7a4 _ _ _) rfl rfl rfl (Nat.le_of_ble_eq_true rfl) dX1_staysUnseen_56) (n := 59) rfl ?_
        refine j_iconst C dX1_staysUnseen_59 ic_2 (n := 60) rfl ?_
        refine j_icmp_ge C dX1_staysUnseen_60 (tgt := 130) (n := 63) (by decide) rfl (fun q6 => ?_) (fun q6 => ?_)
        · refine j_iinc C dX1_staysUnseen_130 rfl ic_1 (Nat.le_of_ble_eq_true rfl) (n := 133) rfl ?_
          refine j_goto C dX1_staysUnseen_133 (n := 22) (by decide) ?_
          exact j_to (ih _ _ _ _ _) ⟨rfl, ⟨rfl, ⟨rfl, ⟨rfl, ⟨rfl, ⟨rfl, trivial⟩⟩⟩⟩⟩⟩
        · refine j_aload_n C dX1_staysUnseen_63 rfl (n := 64) rfl ?_
          refine j_iload C dX1_staysUnseen_64 rfl (n := 66) rfl ?_
          refine j_aload_n C dX1_staysUnseen_66 rfl (n := 67) rfl ?_
          refine gf_X1_21 C 1 (cX_1 g _) rfl dX1_staysUnseen_67 (n := 70) rfl ?_
          refine j_iload_n C dX1_staysUnseen_70 rfl (n := 71) rfl ?_
          refine j_iald C 5 (cX_5 g _) dX1_staysUnseen_71 (n := 72) rfl ?_
          refine j_aload_n C dX1_staysUnseen_72 rfl (n := 73) rfl ?_
          refine gf_X1_67 C 1 (cX_1 g _) rfl dX1_staysUnseen_73 (n := 76) rfl ?_
          refine j_iload C dX1_staysUnseen_76 rfl (n := 78) rfl ?_
          refine j_bnd (fun r8 q7 => ?_)
          refine j_cz C (run_V C mi_X1_passes lm_X1_118 iv_X1_passes ⟨Nat.le_of_ble_eq_true rfl, Nat.le_of_ble_eq_true rfl⟩ (m_X1_passes _ _ _ _ _ _ q7) (cX_1 g _) rfl rfl rfl rfl (Nat.le_of_ble_eq_true rfl) dX1_staysUnseen_78) (n := 81) rfl (fun b9 => ?_)
          refine j_if_eq C dX1_staysUnseen_81 (tgt := 97) (n := 84) (by decide) rfl (fun q10 => ?_) (fun q10 => ?_)
          · exact j_to (j_X1_staysUnseen_97 C _ _ _ ih _ _ _ _ _ _) ⟨rfl, ⟨rfl, ⟨rfl, ⟨rfl, ⟨rfl, ⟨rfl, ⟨rfl, trivial⟩⟩⟩⟩⟩⟩⟩
          · refine j_iload C dX1_staysUnseen_84 rfl (n := 86) rfl ?_
            refine j_iconst C dX1_staysUnseen_86 ic_1 (n := 87) rfl ?_
            refine j_aload_n C dX1_staysUnseen_87 rfl (n := 88) rfl ?_
            refine gf_X1_21 C 1 (cX_1 g _) rfl dX1_staysUnseen_88 (n := 91) rfl ?_
            refine j_iload_n C dX1_staysUnseen_91 rfl (n := 92) rfl ?_
            refine j_iald C 5 (cX_5 g _) dX1_staysUnseen_92 (n := 93) rfl ?_
            refine j_ishl C dX1_staysUnseen_93 (n := 94) rfl ?_
            refine j_ior C dX1_staysUnseen_94 (n := 95) rfl ?_
            refine j_istore C dX1_staysUnseen_95 (Nat.le_of_ble_eq_true rfl) (n := 97) rfl ?_
            exact j_to (j_X1_staysUnseen_97 C _ _ _ ih _ _ _ _ _ _) ⟨rfl, ⟨rfl, ⟨rfl, ⟨rfl, ⟨rfl, ⟨rfl, ⟨rfl, trivial⟩⟩⟩⟩⟩⟩⟩
set_option maxRecDepth 20000 in
theorem m_X1_staysUnseen (l : Launch) (fu : Nat) (x1 : Int32) (x2 : Int32) (x3 : Int32) (h : Hp) {r : Int32} (e : X1_staysUnseen fu x1 x2 x3 h = some r) : CT l yX1_staysUnseen cX1_staysUnseen 8 (some .boolean) 3 cwX (fun g => [rf g 1, .int x1, .int x2, .int x3]) h (qZ cwX r h) := by
  refine ct_of (QR := (fun r : Int32 => qZ cwX r h)) (by decide +kernel) (fun g => ⟨rfl, Nat.le_of_ble_eq_true rfl⟩) e (fun x g hl C => ?_)
  unfold X1_staysUnseen
  refine j_aload_n C dX1_staysUnseen_0 rfl (n := 1) rfl ?_
  refine gf_X1_67 C 1 (cX_1 g _) rfl dX1_staysUnseen_1 (n := 4) rfl ?_
  refine j_iload_n C dX1_staysUnseen_4 rfl (n := 5) rfl ?_
  refine j_iadd C dX1_staysUnseen_5 (n := 6) rfl ?_
  refine j_istore C dX1_staysUnseen_6 (Nat.le_of_ble_eq_true rfl) (n := 8) rfl ?_
  refine j_iload C dX1_staysUnseen_8 rfl (n := 10) rfl ?_
  refine j_aload_n C dX1_staysUnseen_10 rfl (n := 11) rfl ?_
  refine j_iload_n C dX1_staysUnseen_11 rfl (n := 12) rfl ?_
  refine j_iload_n C dX1_staysUnseen_12 rfl (n := 13) rfl ?_
  refine j_bnd (fun r2 q1 => ?_)
  refine j_ci C (run_V C mi_X1_minutesTo lm_X1_122 iv_X1_minutesTo ⟨Nat.le_of_ble_eq_true rfl, Nat.le_of_ble_eq_true rfl⟩ (m_X1_minutesTo _ _ _ _ q1) (cX_1 g _) rfl rfl rfl rfl (Nat.le_of_ble_eq_true rfl) dX1_staysUnseen_13) (n := 16) rfl ?_
  refine j_iadd C dX1_staysUnseen_16 (n := 17) rfl ?_
  refine j_istore C dX1_staysUnseen_17 (Nat.le_of_ble_eq_true rfl) (n := 19) rfl ?_
  refine j_iconst C dX1_staysUnseen_19 ic_0 (n := 20) rfl ?_
  refine j_istore C dX1_staysUnseen_20 (Nat.le_of_ble_eq_true rfl) (n := 22) rfl ?_
  exact j_to (j_X1_staysUnseen_22 C _ _ _ _ _ _ _ _) ⟨rfl, ⟨rfl, ⟨rfl, ⟨rfl, ⟨rfl, ⟨rfl, trivial⟩⟩⟩⟩⟩⟩
-- X7_unseen
set_option maxRecDepth 20000 in
theorem j_X7_unseen_60 {x : Fx} {g : Gl} (C : Ok x g RX7 cX7_unseen 4 (some .int)) (fu : Nat) : ∀ (n : Nat) (x1 : Int32) (x2 : Int32) (x3 : Int32) (h : Hp), J x g cwX 4 4 (fun r : Int32 × Hp => qI cwX r.1 r.2) 60 [some (rf g 0), some (.int x1), some (.int x2), some (.int x3)] [] h (X7_unseen_60 fu n x1 x2 x3 h) := by
  intro n
  induction n with
  | zero =>
    intro x1 x2 x3 h
    rw [X7_unseen_60]
    exact j_none
  | succ n ih =>
    intro x1 x2 x3 h
    rw [X7_unseen_60]
    refine j_iload_n C dX7_unseen_60 rfl (n := 61) rfl ?_
    refine j_bipush C dX7_unseen_61 bp_60 (n := 63) rfl ?_
    refine j_icmp_gt C dX7_unseen_63 (tgt := 87) (n := 66) (by decide) rfl (fun q1 => ?_) (fun q1 => ?_)
    · refine j_aload_n C dX7_unseen_87 rfl (n := 88) rfl ?_
      refine j_ldc C dX7_unseen_88 kc_X7_188 (n := 90) rfl ?_
      refine j_bnd (fun r3 q2 => ?_)
      refine j_ci C (run_V C mi_X7_finding lm_X7_68 iv_X7_finding ⟨Nat.le_of_ble_eq_true rfl, Nat.le_of_ble_eq_true rfl⟩ (m_X7_finding _ _ _ q2) (cX_0 g _) rfl rfl rfl rfl (Nat.le_of_ble_eq_true rfl) dX7_unseen_90) (n := 93) rfl ?_
      exact j_retP C dX7_unseen_93
    · refine j_aload_n C dX7_unseen_66 rfl (n := 67) rfl ?_
      refine gf_X7_12 C 0 (cX_0 g _) rfl dX7_unseen_67 (n := 70) rfl ?_
      refine j_iload_n C dX7_unseen_70 rfl (n := 71) rfl ?_
      refine j_iload_n C dX7_unseen_71 rfl (n := 72) rfl ?_
      refine j_iload_n C dX7_unseen_72 rfl (n := 73) rfl ?_
      refine j_bnd (fun r6 q5 => ?_)
      refine j_cz C (run_V C mi_X1_staysUnseen lm_X7_208 iv_X1_staysUnseen ⟨Nat.le_of_ble_eq_true rfl, Nat.le_of_ble_eq_true rfl⟩ (m_X1_staysUnseen _ _ _ _ _ _ q5) (cX_1 g _) rfl rfl rfl rfl (Nat.le_of_ble_eq_true rfl) dX7_unseen_73) (n := 76) rfl (fun b7 => ?_)
      refine j_if_eq C dX7_unseen_76 (tgt := 81) (n := 79) (by decide) rfl (fun q8 => ?_) (fun q8 => ?_)
      · refine j_iinc C dX7_unseen_81 rfl ic_1 (Nat.le_of_ble_eq_true rfl) (n := 84) rfl ?_
        refine j_goto C dX7_unseen_84 (n := 60) (by decide) ?_
        exact j_to (ih _ _ _ _) ⟨rfl, ⟨rfl, ⟨rfl, ⟨rfl, trivial⟩⟩⟩⟩
      · refine j_iload_n C dX7_unseen_79 rfl (n := 80) rfl ?_
        exact j_retP C dX7_unseen_80
set_option maxRecDepth 20000 in
theorem m_X7_unseen (l : Launch) (fu : Nat) (x1 : Int32) (x2 : Int32) (h : Hp) {r : Int32 × Hp} (e : X7_unseen fu x1 x2 h = some r) : CT l yX7_unseen cX7_unseen 4 (some .int) 4 cwX (fun g => [rf g 0, .int x1, .int x2]) h (qI cwX r.1 r.2) := by
  refine ct_of (QR := (fun r : Int32 × Hp => qI cwX r.1 r.2)) (by decide +kernel) (fun g => ⟨rfl, Nat.le_of_ble_eq_true rfl⟩) e (fun x g hl C => ?_)
  unfold X7_unseen
  refine j_aload_n C dX7_unseen_0 rfl (n := 1) rfl ?_
  refine gf_X7_12 C 0 (cX_0 g _) rfl dX7_unseen_1 (n := 4) rfl ?_
  refine j_iload_n C dX7_unseen_4 rfl (n := 5) rfl ?_
  refine j_cz C (run_V C mi_X1_hasPart lm_X7_85 iv_X1_hasPart ⟨Nat.le_of_ble_eq_true rfl, Nat.le_of_ble_eq_true rfl⟩ (m_X1_hasPart _ _ _) (cX_1 g _) rfl rfl rfl rfl (Nat.le_of_ble_eq_true rfl) dX7_unseen_5) (n := 8) rfl (fun b1 => ?_)
  refine j_if_eq C dX7_unseen_8 (tgt := 18) (n := 11) (by decide) rfl (fun q2 => ?_) (fun q2 => ?_)
  · refine j_aload_n C dX7_unseen_18 rfl (n := 19) rfl ?_
    refine j_ldc C dX7_unseen_19 kc_X7_67 (n := 21) rfl ?_
    refine j_bnd (fun r4 q3 => ?_)
    refine j_ci C (run_V C mi_X7_finding lm_X7_68 iv_X7_finding ⟨Nat.le_of_ble_eq_true rfl, Nat.le_of_ble_eq_true rfl⟩ (m_X7_finding _ _ _ q3) (cX_0 g _) rfl rfl rfl rfl (Nat.le_of_ble_eq_true rfl) dX7_unseen_21) (n := 24) rfl ?_
    exact j_retP C dX7_unseen_24
  · refine j_iload_n C dX7_unseen_11 rfl (n := 12) rfl ?_
    refine j_cz C (run_S C mi_X7_isPlace lm_X7_129 st_X7_isPlace ⟨Nat.le_of_ble_eq_true rfl, Nat.le_of_ble_eq_true rfl⟩ (m_X7_isPlace _ _ _) rfl rfl rfl (Nat.le_of_ble_eq_true rfl) dX7_unseen_12) (n := 15) rfl (fun b6 => ?_)
    refine j_if_ne C dX7_unseen_15 (tgt := 25) (n := 18) (by decide) rfl (fun q7 => ?_) (fun q7 => ?_)
    · refine j_aload_n C dX7_unseen_25 rfl (n := 26) rfl ?_
      refine gf_X7_12 C 0 (cX_0 g _) rfl dX7_unseen_26 (n := 29) rfl ?_
      refine gf_X7_132 C 1 (cX_1 g _) rfl dX7_unseen_29 (n := 32) rfl ?_
      refine j_iload_n C dX7_unseen_32 rfl (n := 33) rfl ?_
      refine j_iald C 5 (cX_5 g _) dX7_unseen_33 (n := 34) rfl ?_
      refine j_iload_n C dX7_unseen_34 rfl (n := 35) rfl ?_
      refine j_icmp_eq C dX7_unseen_35 (tgt := 51) (n := 38) (by decide) rfl (fun q8 => ?_) (fun q8 => ?_)
      · refine j_aload_n C dX7_unseen_51 rfl (n := 52) rfl ?_
        refine j_ldc C dX7_unseen_52 kc_X7_135 (n := 54) rfl ?_
        refine j_bnd (fun r10 q9 => ?_)
        refine j_ci C (run_V C mi_X7_finding lm_X7_68 iv_X7_finding ⟨Nat.le_of_ble_eq_true rfl, Nat.le_of_ble_eq_true rfl⟩ (m_X7_finding _ _ _ q9) (cX_0 g _) rfl rfl rfl rfl (Nat.le_of_ble_eq_true rfl) dX7_unseen_54) (n := 57) rfl ?_
        exact j_retP C dX7_unseen_57
      · refine j_aload_n C dX7_unseen_38 rfl (n := 39) rfl ?_
        refine gf_X7_12 C 0 (cX_0 g _) rfl dX7_unseen_39 (n := 42) rfl ?_
        refine gf_X7_155 C 1 (cX_1 g _) rfl dX7_unseen_42 (n := 45) rfl ?_
        refine j_sipush C dX7_unseen_45 sp_9000 (n := 48) rfl ?_
        refine j_icmp_le C dX7_unseen_48 (tgt := 58) (n := 51) (by decide) rfl (fun q12 => ?_) (fun q12 => ?_)
        · refine j_iconst C dX7_unseen_58 ic_0 (n := 59) rfl ?_
          refine j_istore_n C dX7_unseen_59 (Nat.le_of_ble_eq_true rfl) (n := 60) rfl ?_
          exact j_to (j_X7_unseen_60 C _ _ _ _ _ _) ⟨rfl, ⟨rfl, ⟨rfl, ⟨rfl, trivial⟩⟩⟩⟩
        · refine j_aload_n C dX7_unseen_51 rfl (n := 52) rfl ?_
          refine j_ldc C dX7_unseen_52 kc_X7_135 (n := 54) rfl ?_
          refine j_bnd (fun r14 q13 => ?_)
          refine j_ci C (run_V C mi_X7_finding lm_X7_68 iv_X7_finding ⟨Nat.le_of_ble_eq_true rfl, Nat.le_of_ble_eq_true rfl⟩ (m_X7_finding _ _ _ q13) (cX_0 g _) rfl rfl rfl rfl (Nat.le_of_ble_eq_true rfl) dX7_unseen_54) (n := 57) rfl ?_
          exact j_retP C dX7_unseen_57
    · refine j_aload_n C dX7_unseen_18 rfl (n := 19) rfl ?_
      refine j_ldc C dX7_unseen_19 kc_X7_67 (n := 21) rfl ?_
      refine j_bnd (fun r17 q16 => ?_)
      refine j_ci C (run_V C mi_X7_finding lm_X7_68 iv_X7_finding ⟨Nat.le_of_ble_eq_true rfl, Nat.le_of_ble_eq_true rfl⟩ (m_X7_finding _ _ _ q16) (cX_0 g _) rfl rfl rfl rfl (Nat.le_of_ble_eq_true rfl) dX7_unseen_21) (n := 24) rfl ?_
      exact j_retP C dX7_unseen_24
-- X7_hidden
set_option maxRecDepth 20000 in
theorem j_X7_hidden_38 {x : Fx} {g : Gl} (C : Ok x g RX7 cX7_hidden 4 (some .int)) (fu : Nat) : ∀ (n : Nat) (x1 : Int32) (x2 : Int32) (x3 : Int32) (h : Hp), J x g cwX 4 4 (fun r : Int32 × Hp => qI cwX r.1 r.2) 38 [some (rf g 0), some (.int x1), some (.int x2), some (.int x3)] [] h (X7_hidden_38 fu n x1 x2 x3 h) := by
  intro n
  induction n with
  | zero =>
    intro x1 x2 x3 h
    rw [X7_hidden_38]
    exact j_none
  | succ n ih =>
    intro x1 x2 x3 h
    rw [X7_hidden_38]
    refine j_iload_n C dX7_hidden_38 rfl (n := 39) rfl ?_
    refine j_aload_n C dX7_hidden_39 rfl (n := 40) rfl ?_
    refine gf_X7_12 C 0 (cX_0 g _) rfl dX7_hidden_40 (n := 43) rfl ?_
    refine gf_X7_72 C 1 (cX_1 g _) rfl dX7_hidden_43 (n := 46) rfl ?_
    refine j_icmp_ge C dX7_hidden_46 (tgt := 87) (n := 49) (by decide) rfl (fun q1 => ?_) (fun q1 => ?_)
    · refine j_iload_n C dX7_hidden_87 rfl (n := 88) rfl ?_
      exact j_retP C dX7_hidden_88
    · refine j_aload_n C dX7_hidden_49 rfl (n := 50) rfl ?_
      refine gf_X7_12 C 0 (cX_0 g _) rfl dX7_hidden_50 (n := 53) rfl ?_
      refine gf_X7_132 C 1 (cX_1 g _) rfl dX7_hidden_53 (n := 56) rfl ?_
      refine j_iload_n C dX7_hidden_56 rfl (n := 57) rfl ?_
      refine j_iald C 5 (cX_5 g _) dX7_hidden_57 (n := 58) rfl ?_
      refine j_iload_n C dX7_hidden_58 rfl (n := 59) rfl ?_
      refine j_icmp_eq C dX7_hidden_59 (tgt := 81) (n := 62) (by decide) rfl (fun q2 => ?_) (fun q2 => ?_)
      · refine j_iinc C dX7_hidden_81 rfl ic_1 (Nat.le_of_ble_eq_true rfl) (n := 84) rfl ?_
        refine j_goto C dX7_hidden_84 (n := 38) (by decide) ?_
        exact j_to (ih _ _ _ _) ⟨rfl, ⟨rfl, ⟨rfl, ⟨rfl, trivial⟩⟩⟩⟩
      · refine j_aload_n C dX7_hidden_62 rfl (n := 63) rfl ?_
        refine gf_X7_12 C 0 (cX_0 g _) rfl dX7_hidden_63 (n := 66) rfl ?_
        refine j_iload_n C dX7_hidden_66 rfl (n := 67) rfl ?_
        refine j_iload_n C dX7_hidden_67 rfl (n := 68) rfl ?_
        refine j_iconst C dX7_hidden_68 ic_0 (n := 69) rfl ?_
        refine j_bnd (fun r4 q3 => ?_)
        refine j_cz C (run_V C mi_X1_staysUnseen lm_X7_208 iv_X1_staysUnseen ⟨Nat.le_of_ble_eq_true rfl, Nat.le_of_ble_eq_true rfl⟩ (m_X1_staysUnseen _ _ _ _ _ _ q3) (cX_1 g _) rfl rfl rfl rfl (Nat.le_of_ble_eq_true rfl) dX7_hidden_69) (n := 72) rfl (fun b5 => ?_)
        refine j_if_eq C dX7_hidden_72 (tgt := 81) (n := 75) (by decide) rfl (fun q6 => ?_) (fun q6 => ?_)
        · refine j_iinc C dX7_hidden_81 rfl ic_1 (Nat.le_of_ble_eq_true rfl) (n := 84) rfl ?_
          refine j_goto C dX7_hidden_84 (n := 38) (by decide) ?_
          exact j_to (ih _ _ _ _) ⟨rfl, ⟨rfl, ⟨rfl, ⟨rfl, trivial⟩⟩⟩⟩
        · refine j_iload_n C dX7_hidden_75 rfl (n := 76) rfl ?_
          refine j_iconst C dX7_hidden_76 ic_1 (n := 77) rfl ?_
          refine j_iload_n C dX7_hidden_77 rfl (n := 78) rfl ?_
          refine j_ishl C dX7_hidden_78 (n := 79) rfl ?_
          refine j_ior C dX7_hidden_79 (n := 80) rfl ?_
          refine j_istore_n C dX7_hidden_80 (Nat.le_of_ble_eq_true rfl) (n := 81) rfl ?_
          refine j_iinc C dX7_hidden_81 rfl ic_1 (Nat.le_of_ble_eq_true rfl) (n := 84) rfl ?_
          refine j_goto C dX7_hidden_84 (n := 38) (by decide) ?_
          exact j_to (ih _ _ _ _) ⟨rfl, ⟨rfl, ⟨rfl, ⟨rfl, trivial⟩⟩⟩⟩
set_option maxRecDepth 20000 in
theorem m_X7_hidden (l : Launch) (fu : Nat) (x1 : Int32) (h : Hp) {r : Int32 × Hp} (e : X7_hidden fu x1 h = some r) : CT l yX7_hidden cX7_hidden 4 (some .int) 4 cwX (fun g => [rf g 0, .int x1]) h (qI cwX r.1 r.2) := by
  refine ct_of (QR := (fun r : Int32 × Hp => qI cwX r.1 r.2)) (by decide +kernel) (fun g => ⟨rfl, Nat.le_of_ble_eq_true rfl⟩) e (fun x g hl C => ?_)
  unfold X7_hidden
  refine j_iload_n C dX7_hidden_0 rfl (n := 1) rfl ?_
  refine j_cz C (run_S C mi_X7_isPlace lm_X7_129 st_X7_isPlace ⟨Nat.le_of_ble_eq_true rfl, Nat.le_of_ble_eq_true rfl⟩ (m_X7_isPlace _ _ _) rfl rfl rfl (Nat.le_of_ble_eq_true rfl) dX7_hidden_1) (n := 4) rfl (fun b1 => ?_)
  refine j_if_ne C dX7_hidden_4 (tgt := 14) (n := 7) (by decide) rfl (fun q2 => ?_) (fun q2 => ?_)
  · refine j_aload_n C dX7_hidden_14 rfl (n := 15) rfl ?_
    refine gf_X7_12 C 0 (cX_0 g _) rfl dX7_hidden_15 (n := 18) rfl ?_
    refine gf_X7_155 C 1 (cX_1 g _) rfl dX7_hidden_18 (n := 21) rfl ?_
    refine j_sipush C dX7_hidden_21 sp_9000 (n := 24) rfl ?_
    refine j_icmp_le C dX7_hidden_24 (tgt := 34) (n := 27) (by decide) rfl (fun q3 => ?_) (fun q3 => ?_)
    · refine j_iconst C dX7_hidden_34 ic_0 (n := 35) rfl ?_
      refine j_istore_n C dX7_hidden_35 (Nat.le_of_ble_eq_true rfl) (n := 36) rfl ?_
      refine j_iconst C dX7_hidden_36 ic_0 (n := 37) rfl ?_
      refine j_istore_n C dX7_hidden_37 (Nat.le_of_ble_eq_true rfl) (n := 38) rfl ?_
      exact j_to (j_X7_hidden_38 C _ _ _ _ _ _) ⟨rfl, ⟨rfl, ⟨rfl, ⟨rfl, trivial⟩⟩⟩⟩
    · refine j_aload_n C dX7_hidden_27 rfl (n := 28) rfl ?_
      refine j_ldc C dX7_hidden_28 kc_X7_135 (n := 30) rfl ?_
      refine j_bnd (fun r5 q4 => ?_)
      refine j_ci C (run_V C mi_X7_finding lm_X7_68 iv_X7_finding ⟨Nat.le_of_ble_eq_true rfl, Nat.le_of_ble_eq_true rfl⟩ (m_X7_finding _ _ _ q4) (cX_0 g _) rfl rfl rfl rfl (Nat.le_of_ble_eq_true rfl) dX7_hidden_30) (n := 33) rfl ?_
      exact j_retP C dX7_hidden_33
  · refine j_aload_n C dX7_hidden_7 rfl (n := 8) rfl ?_
    refine j_ldc C dX7_hidden_8 kc_X7_67 (n := 10) rfl ?_
    refine j_bnd (fun r8 q7 => ?_)
    refine j_ci C (run_V C mi_X7_finding lm_X7_68 iv_X7_finding ⟨Nat.le_of_ble_eq_true rfl, Nat.le_of_ble_eq_true rfl⟩ (m_X7_finding _ _ _ q7) (cX_0 g _) rfl rfl rfl rfl (Nat.le_of_ble_eq_true rfl) dX7_hidden_10) (n := 13) rfl ?_
    exact j_retP C dX7_hidden_13
-- X1_minutesTillEmpty
set_option maxRecDepth 20000 in
theorem j_X1_minutesTillEmpty_4 {x : Fx} {g : Gl} (C : Ok x g RX1 cX1_minutesTillEmpty 3 (some .int)) (fu : Nat) (h : Hp) : ∀ (n : Nat) (x1 : Int32) (x2 : Int32), J x g cwX 3 1 (fun r : Int32 => qI cwX r h) 4 [some (rf g 1), some (.int x1), some (.int x2)] [] h (X1_minutesTillEmpty_4 fu h n x1 x2) := by
  intro n
  induction n with
  | zero =>
    intro x1 x2
    rw [X1_minutesTillEmpty_4]
    exact j_none
  | succ n ih =>
    intro x1 x2
    rw [X1_minutesTillEmpty_4]
    refine j_iload_n C dX1_minutesTillEmpty_4 rfl (n := 5) rfl ?_
    refine j_aload_n C dX1_minutesTillEmpty_5 rfl (n := 6) rfl ?_
    refine gf_X1_64 C 1 (cX_1 g _) rfl dX1_minutesTillEmpty_6 (n := 9) rfl ?_
    refine j_icmp_ge C dX1_minutesTillEmpty_9 (tgt := 42) (n := 12) (by decide) rfl (fun q1 => ?_) (fun q1 => ?_)
    · refine j_iload_n C dX1_minutesTillEmpty_42 rfl (n := 43) rfl ?_
      exact j_ret C dX1_minutesTillEmpty_43
    · refine j_iload_n C dX1_minutesTillEmpty_12 rfl (n := 13) rfl ?_
      refine j_aload_n C dX1_minutesTillEmpty_13 rfl (n := 14) rfl ?_
      refine gf_X1_33 C 1 (cX_1 g _) rfl dX1_minutesTillEmpty_14 (n := 17) rfl ?_
      refine j_iload_n C dX1_minutesTillEmpty_17 rfl (n := 18) rfl ?_
      refine j_iald C 9 (cX_9 g _) dX1_minutesTillEmpty_18 (n := 19) rfl ?_
      refine j_bipush C dX1_minutesTillEmpty_19 bp_6 (n := 21) rfl ?_
      refine j_aload_n C dX1_minutesTillEmpty_21 rfl (n := 22) rfl ?_
      refine gf_X1_42 C 1 (cX_1 g _) rfl dX1_minutesTillEmpty_22 (n := 25) rfl ?_
      refine j_imul C dX1_minutesTillEmpty_25 (n := 26) rfl ?_
      refine j_iadd C dX1_minutesTillEmpty_26 (n := 27) rfl ?_
      refine j_aload_n C dX1_minutesTillEmpty_27 rfl (n := 28) rfl ?_
      refine gf_X1_67 C 1 (cX_1 g _) rfl dX1_minutesTillEmpty_28 (n := 31) rfl ?_
      refine j_isub C dX1_minutesTillEmpty_31 (n := 32) rfl ?_
      refine j_mmax C lm_X1_112 (Nat.le_of_ble_eq_true rfl) (Nat.le_of_ble_eq_true rfl) dX1_minutesTillEmpty_32 (n := 35) rfl ?_
      refine j_istore_n C dX1_minutesTillEmpty_35 (Nat.le_of_ble_eq_true rfl) (n := 36) rfl ?_
      refine j_iinc C dX1_minutesTillEmpty_36 rfl ic_1 (Nat.le_of_ble_eq_true rfl) (n := 39) rfl ?_
      refine j_goto C dX1_minutesTillEmpty_39 (n := 4) (by decide) ?_
      exact j_to (ih _ _) ⟨rfl, ⟨rfl, ⟨rfl, trivial⟩⟩⟩
set_option maxRecDepth 20000 in
theorem m_X1_minutesTillEmpty (l : Launch) (fu : Nat) (h : Hp) {r : Int32} (e : X1_minutesTillEmpty fu h = some r) : CT l yX1_minutesTillEmpty cX1_minutesTillEmpty 3 (some .int) 1 cwX (fun g => [rf g 1]) h (qI cwX r h) := by
  refine ct_of (QR := (fun r : Int32 => qI cwX r h)) (by decide +kernel) (fun g => ⟨rfl, Nat.le_of_ble_eq_true rfl⟩) e (fun x g hl C => ?_)
  unfold X1_minutesTillEmpty
  refine j_iconst C dX1_minutesTillEmpty_0 ic_0 (n := 1) rfl ?_
  refine j_istore_n C dX1_minutesTillEmpty_1 (Nat.le_of_ble_eq_true rfl) (n := 2) rfl ?_
  refine j_iconst C dX1_minutesTillEmpty_2 ic_0 (n := 3) rfl ?_
  refine j_istore_n C dX1_minutesTillEmpty_3 (Nat.le_of_ble_eq_true rfl) (n := 4) rfl ?_
  exact j_to (j_X1_minutesTillEmpty_4 C _ _ _ _ _) ⟨rfl, ⟨rfl, ⟨rfl, trivial⟩⟩⟩
-- X7_empty
set_option maxRecDepth 20000 in
theorem m_X7_empty (l : Launch) (fu : Nat) (h : Hp) {r : Int32} (e : X7_empty fu h = some r) : CT l yX7_empty cX7_empty 1 (some .int) 2 cwX (fun g => [rf g 0]) h (qI cwX r h) := by
  refine ct_of (QR := (fun r : Int32 => qI cwX r h)) (by decide +kernel) (fun g => ⟨rfl, Nat.le_of_ble_eq_true rfl⟩) e (fun x g hl C => ?_)
  unfold X7_empty
  refine j_aload_n C dX7_empty_0 rfl (n := 1) rfl ?_
  refine gf_X7_12 C 0 (cX_0 g _) rfl dX7_empty_1 (n := 4) rfl ?_
  refine j_bnd (fun r2 q1 => ?_)
  refine j_ci C (run_V C mi_X1_minutesTillEmpty lm_X7_211 iv_X1_minutesTillEmpty ⟨Nat.le_of_ble_eq_true rfl, Nat.le_of_ble_eq_true rfl⟩ (m_X1_minutesTillEmpty _ _ _ q1) (cX_1 g _) rfl rfl rfl rfl (Nat.le_of_ble_eq_true rfl) dX7_empty_4) (n := 7) rfl ?_
  exact j_ret C dX7_empty_7
-- X1_allChances
set_option maxRecDepth 20000 in
theorem j_X1_allChances_4 {x : Fx} {g : Gl} (C : Ok x g RX1 cX1_allChances 3 (some .int)) (fu : Nat) (h : Hp) : ∀ (n : Nat) (x1 : Int32) (x2 : Int32), J x g cwX 3 0 (fun r : Int32 => qI cwX r h) 4 [some (rf g 1), some (.int x1), some (.int x2)] [] h (X1_allChances_4 fu h n x1 x2) := by
  intro n
  induction n with
  | zero =>
    intro x1 x2
    rw [X1_allChances_4]
    exact j_none
  | succ n ih =>
    intro x1 x2
    rw [X1_allChances_4]
    refine j_iload_n C dX1_allChances_4 rfl (n := 5) rfl ?_
    refine j_bipush C dX1_allChances_5 bp_6 (n := 7) rfl ?_
    refine j_icmp_ge C dX1_allChances_7 (tgt := 25) (n := 10) (by decide) rfl (fun q1 => ?_) (fun q1 => ?_)
    · refine j_iload_n C dX1_allChances_25 rfl (n := 26) rfl ?_
      exact j_ret C dX1_allChances_26
    · refine j_iload_n C dX1_allChances_10 rfl (n := 11) rfl ?_
      refine j_aload_n C dX1_allChances_11 rfl (n := 12) rfl ?_
      refine gf_X1_27 C 1 (cX_1 g _) rfl dX1_allChances_12 (n := 15) rfl ?_
      refine j_iload_n C dX1_allChances_15 rfl (n := 16) rfl ?_
      refine j_iald C 7 (cX_7 g _) dX1_allChances_16 (n := 17) rfl ?_
      refine j_iadd C dX1_allChances_17 (n := 18) rfl ?_
      refine j_istore_n C dX1_allChances_18 (Nat.le_of_ble_eq_true rfl) (n := 19) rfl ?_
      refine j_iinc C dX1_allChances_19 rfl ic_1 (Nat.le_of_ble_eq_true rfl) (n := 22) rfl ?_
      refine j_goto C dX1_allChances_22 (n := 4) (by decide) ?_
      exact j_to (ih _ _) ⟨rfl, ⟨rfl, ⟨rfl, trivial⟩⟩⟩
set_option maxRecDepth 20000 in
theorem m_X1_allChances (l : Launch) (fu : Nat) (h : Hp) {r : Int32} (e : X1_allChances fu h = some r) : CT l yX1_allChances cX1_allChances 3 (some .int) 0 cwX (fun g => [rf g 1]) h (qI cwX r h) := by
  refine ct_of (QR := (fun r : Int32 => qI cwX r h)) (by decide +kernel) (fun g => ⟨rfl, Nat.le_of_ble_eq_true rfl⟩) e (fun x g hl C => ?_)
  unfold X1_allChances
  refine j_iconst C dX1_allChances_0 ic_0 (n := 1) rfl ?_
  refine j_istore_n C dX1_allChances_1 (Nat.le_of_ble_eq_true rfl) (n := 2) rfl ?_
  refine j_iconst C dX1_allChances_2 ic_0 (n := 3) rfl ?_
  refine j_istore_n C dX1_allChances_3 (Nat.le_of_ble_eq_true rfl) (n := 4) rfl ?_
  exact j_to (j_X1_allChances_4 C _ _ _ _ _) ⟨rfl, ⟨rfl, ⟨rfl, trivial⟩⟩⟩
-- X1_favour
set_option maxRecDepth 20000 in
theorem j_X1_favour_4 {x : Fx} {g : Gl} (C : Ok x g RX1 cX1_favour 4 (some .int)) (fu : Nat) (h : Hp) : ∀ (n : Nat) (x1 : Int32) (x2 : Int32) (x3 : Int32), J x g cwX 4 3 (fun r : Int32 => qI cwX r h) 4 [some (rf g 1), some (.int x1), some (.int x2), some (.int x3)] [] h (X1_favour_4 fu h n x1 x2 x3) := by
  intro n
  induction n with
  | zero =>
    intro x1 x2 x3
    rw [X1_favour_4]
    exact j_none
  | succ n ih =>
    intro x1 x2 x3
    rw [X1_favour_4]
    refine j_iload_n C dX1_favour_4 rfl (n := 5) rfl ?_
    refine j_bipush C dX1_favour_5 bp_6 (n := 7) rfl ?_
    refine j_icmp_ge C dX1_favour_7 (tgt := 37) (n := 10) (by decide) rfl (fun q1 => ?_) (fun q1 => ?_)
    · refine j_iload_n C dX1_favour_37 rfl (n := 38) rfl ?_
      exact j_ret C dX1_favour_38
    · refine j_iload_n C dX1_favour_10 rfl (n := 11) rfl ?_
      refine j_aload_n C dX1_favour_11 rfl (n := 12) rfl ?_
      refine gf_X1_27 C 1 (cX_1 g _) rfl dX1_favour_12 (n := 15) rfl ?_
      refine j_iload_n C dX1_favour_15 rfl (n := 16) rfl ?_
      refine j_iald C 7 (cX_7 g _) dX1_favour_16 (n := 17) rfl ?_
      refine j_iconst C dX1_favour_17 ic_1 (n := 18) rfl ?_
      refine j_iload_n C dX1_favour_18 rfl (n := 19) rfl ?_
      refine j_aload_n C dX1_favour_19 rfl (n := 20) rfl ?_
      refine gf_X1_24 C 1 (cX_1 g _) rfl dX1_favour_20 (n := 23) rfl ?_
      refine j_iload_n C dX1_favour_23 rfl (n := 24) rfl ?_
      refine j_iald C 6 (cX_6 g _) dX1_favour_24 (n := 25) rfl ?_
      refine j_bnd (fun r3 q2 => ?_)
      refine j_ci C (run_S C mi_X2_likeness lm_X1_80 st_X2_likeness ⟨Nat.le_of_ble_eq_true rfl, Nat.le_of_ble_eq_true rfl⟩ (m_X2_likeness _ _ _ _ _ q2) rfl rfl rfl (Nat.le_of_ble_eq_true rfl) dX1_favour_25) (n := 28) rfl ?_
      refine j_imul C dX1_favour_28 (n := 29) rfl ?_
      refine j_iadd C dX1_favour_29 (n := 30) rfl ?_
      refine j_istore_n C dX1_favour_30 (Nat.le_of_ble_eq_true rfl) (n := 31) rfl ?_
      refine j_iinc C dX1_favour_31 rfl ic_1 (Nat.le_of_ble_eq_true rfl) (n := 34) rfl ?_
      refine j_goto C dX1_favour_34 (n := 4) (by decide) ?_
      exact j_to (ih _ _ _) ⟨rfl, ⟨rfl, ⟨rfl, ⟨rfl, trivial⟩⟩⟩⟩
set_option maxRecDepth 20000 in
theorem m_X1_favour (l : Launch) (fu : Nat) (x1 : Int32) (h : Hp) {r : Int32} (e : X1_favour fu x1 h = some r) : CT l yX1_favour cX1_favour 4 (some .int) 3 cwX (fun g => [rf g 1, .int x1]) h (qI cwX r h) := by
  refine ct_of (QR := (fun r : Int32 => qI cwX r h)) (by decide +kernel) (fun g => ⟨rfl, Nat.le_of_ble_eq_true rfl⟩) e (fun x g hl C => ?_)
  unfold X1_favour
  refine j_iconst C dX1_favour_0 ic_0 (n := 1) rfl ?_
  refine j_istore_n C dX1_favour_1 (Nat.le_of_ble_eq_true rfl) (n := 2) rfl ?_
  refine j_iconst C dX1_favour_2 ic_0 (n := 3) rfl ?_
  refine j_istore_n C dX1_favour_3 (Nat.le_of_ble_eq_true rfl) (n := 4) rfl ?_
  exact j_to (j_X1_favour_4 C _ _ _ _ _ _) ⟨rfl, ⟨rfl, ⟨rfl, ⟨rfl, trivial⟩⟩⟩⟩
-- X7_commonDivisor
set_option maxRecDepth 20000 in
theorem j_X7_commonDivisor_7 {x : Fx} {g : Gl} (C : Ok x g RX7 cX7_commonDivisor 6 (some .int)) (fu : Nat) (h : Hp) : ∀ (n : Nat) (x2 : Int32) (x3 : Int32) (x4 : Int32), J x g cwX 6 0 (fun r : Int32 => qI cwX r h) 7 [none, none, some (.int x2), some (.int x3), some (.int x4)] [] h (X7_commonDivisor_7 fu n x2 x3 x4) := by
  intro n
  induction n with
  | zero =>
    intro x2 x3 x4
    rw [X7_commonDivisor_7]
    exact j_none
  | succ n ih =>
    intro x2 x3 x4
    rw [X7_commonDivisor_7]
    refine j_iload C dX7_commonDivisor_7 rfl (n := 9) rfl ?_
    refine j_bipush C dX7_commonDivisor_9 bp_100 (n := 11) rfl ?_
    refine j_icmp_ge C dX7_commonDivisor_11 (tgt := 34) (n := 14) (by decide) rfl (fun q1 => ?_) (fun q1 => ?_)
    · refine j_iload_n C dX7_commonDivisor_34 rfl (n := 35) rfl ?_
      refine j_if_ne C dX7_commonDivisor_35 (tgt := 42) (n := 38) (by decide) rfl (fun q2 => ?_) (fun q2 => ?_)
      · refine j_iload_n C dX7_commonDivisor_42 rfl (n := 43) rfl ?_
        exact j_ret C dX7_commonDivisor_43
      · refine j_iconst C dX7_commonDivisor_38 ic_1 (n := 39) rfl ?_
        refine j_goto C dX7_commonDivisor_39 (n := 43) (by decide) ?_
        exact j_ret C dX7_commonDivisor_43
    · refine j_iload_n C dX7_commonDivisor_14 rfl (n := 15) rfl ?_
      refine j_if_eq C dX7_commonDivisor_15 (tgt := 34) (n := 18) (by decide) rfl (fun q3 => ?_) (fun q3 => ?_)
      · refine j_iload_n C dX7_commonDivisor_34 rfl (n := 35) rfl ?_
        refine j_if_ne C dX7_commonDivisor_35 (tgt := 42) (n := 38) (by decide) rfl (fun q4 => ?_) (fun q4 => ?_)
        · refine j_iload_n C dX7_commonDivisor_42 rfl (n := 43) rfl ?_
          exact j_ret C dX7_commonDivisor_43
        · refine j_iconst C dX7_commonDivisor_38 ic_1 (n := 39) rfl ?_
          refine j_goto C dX7_commonDivisor_39 (n := 43) (by decide) ?_
          exact j_ret C dX7_commonDivisor_43
      · refine j_iload_n C dX7_commonDivisor_18 rfl (n := 19) rfl ?_
        refine j_iload_n C dX7_commonDivisor_19 rfl (n := 20) rfl ?_
        refine j_irem C dX7_commonDivisor_20 (n := 21) rfl ?_
        refine j_istore C dX7_commonDivisor_21 (Nat.le_of_ble_eq_true rfl) (n := 23) rfl ?_
        refine j_iload_n C dX7_commonDivisor_23 rfl (n := 24) rfl ?_
        refine j_istore_n C dX7_commonDivisor_24 (Nat.le_of_ble_eq_true rfl) (n := 25) rfl ?_
        refine j_iload C dX7_commonDivisor_25 rfl (n := 27) rfl ?_
        refine j_istore_n C dX7_commonDivisor_27 (Nat.le_of_ble_eq_true rfl) (n := 28) rfl ?_
        refine j_iinc C dX7_commonDivisor_28 rfl ic_1 (Nat.le_of_ble_eq_true rfl) (n := 31) rfl ?_
        refine j_goto C dX7_commonDivisor_31 (n := 7) (by decide) ?_
        exact j_to (ih _ _ _) ⟨rfl, ⟨rfl, ⟨rfl, trivial⟩⟩⟩
set_option maxRecDepth 20000 in
theorem m_X7_commonDivisor (l : Launch) (fu : Nat) (x0 : Int32) (x1 : Int32) (h : Hp) {r : Int32} (e : X7_commonDivisor fu x0 x1 = some r) : CT l yX7_commonDivisor cX7_commonDivisor 6 (some .int) 0 cwX (fun g => [.int x0, .int x1]) h (qI cwX r h) := by
  refine ct_of (QR := (fun r : Int32 => qI cwX r h)) (by decide +kernel) (fun g => ⟨rfl, Nat.le_of_ble_eq_true rfl⟩) e (fun x g hl C => ?_)
  unfold X7_commonDivisor
  refine j_iload_n C dX7_commonDivisor_0 rfl (n := 1) rfl ?_
  refine j_istore_n C dX7_commonDivisor_1 (Nat.le_of_ble_eq_true rfl) (n := 2) rfl ?_
  refine j_iload_n C dX7_commonDivisor_2 rfl (n := 3) rfl ?_
  refine j_istore_n C dX7_commonDivisor_3 (Nat.le_of_ble_eq_true rfl) (n := 4) rfl ?_
  refine j_iconst C dX7_commonDivisor_4 ic_0 (n := 5) rfl ?_
  refine j_istore C dX7_commonDivisor_5 (Nat.le_of_ble_eq_true rfl) (n := 7) rfl ?_
  exact j_to (j_X7_commonDivisor_7 C _ _ _ _ _ _) ⟨rfl, ⟨rfl, ⟨rfl, trivial⟩⟩⟩
-- X7_worth
set_option maxRecDepth 20000 in
theorem m_X7_worth (l : Launch) (fu : Nat) (x1 : Int32) (x2 : Int32) (h : Hp) {r : Int32 × Hp} (e : X7_worth fu x1 x2 h = some r) : CT l yX7_worth cX7_worth 6 (some .int) 4 cwX (fun g => [rf g 0, .int x1, .int x2]) h (qI cwX r.1 r.2) := by
  refine ct_of (QR := (fun r : Int32 × Hp => qI cwX r.1 r.2)) (by decide +kernel) (fun g => ⟨rfl, Nat.le_of_ble_eq_true rfl⟩) e (fun x g hl C => ?_)
  unfold X7_worth
  refine j_iload_n C dX7_worth_0 rfl (n := 1) rfl ?_
  refine j_iconst C dX7_worth_1 ic_0 (n := 2) rfl ?_
  refine j_sipush C dX7_worth_2 sp_255 (n := 5) rfl ?_
  refine j_cz C (run_S C mi_X7_within lm_X7_94 st_X7_within ⟨Nat.le_of_ble_eq_true rfl, Nat.le_of_ble_eq_true rfl⟩ (m_X7_within _ _ _ _ _) rfl rfl rfl (Nat.le_of_ble_eq_true rfl) dX7_worth_5) (n := 8) rfl (fun b1 => ?_)
  refine j_if_eq C dX7_worth_8 (tgt := 20) (n := 11) (by decide) rfl (fun q2 => ?_) (fun q2 => ?_)
  · refine j_aload_n C dX7_worth_20 rfl (n := 21) rfl ?_
    refine j_ldc C dX7_worth_21 kc_X7_67 (n := 23) rfl ?_
    refine j_bnd (fun r4 q3 => ?_)
    refine j_ci C (run_V C mi_X7_finding lm_X7_68 iv_X7_finding ⟨Nat.le_of_ble_eq_true rfl, Nat.le_of_ble_eq_true rfl⟩ (m_X7_finding _ _ _ q3) (cX_0 g _) rfl rfl rfl rfl (Nat.le_of_ble_eq_true rfl) dX7_worth_23) (n := 26) rfl ?_
    exact j_retP C dX7_worth_26
  · refine j_iload_n C dX7_worth_11 rfl (n := 12) rfl ?_
    refine j_iconst C dX7_worth_12 ic_0 (n := 13) rfl ?_
    refine j_iconst C dX7_worth_13 ic_1 (n := 14) rfl ?_
    refine j_cz C (run_S C mi_X7_within lm_X7_94 st_X7_within ⟨Nat.le_of_ble_eq_true rfl, Nat.le_of_ble_eq_true rfl⟩ (m_X7_within _ _ _ _ _) rfl rfl rfl (Nat.le_of_ble_eq_true rfl) dX7_worth_14) (n := 17) rfl (fun b6 => ?_)
    refine j_if_ne C dX7_worth_17 (tgt := 27) (n := 20) (by decide) rfl (fun q7 => ?_) (fun q7 => ?_)
    · refine j_aload_n C dX7_worth_27 rfl (n := 28) rfl ?_
      refine gf_X7_12 C 0 (cX_0 g _) rfl dX7_worth_28 (n := 31) rfl ?_
      refine j_bnd (fun r9 q8 => ?_)
      refine j_ci C (run_V C mi_X1_allChances lm_X7_214 iv_X1_allChances ⟨Nat.le_of_ble_eq_true rfl, Nat.le_of_ble_eq_true rfl⟩ (m_X1_allChances _ _ _ q8) (cX_1 g _) rfl rfl rfl rfl (Nat.le_of_ble_eq_true rfl) dX7_worth_31) (n := 34) rfl ?_
      refine j_istore_n C dX7_worth_34 (Nat.le_of_ble_eq_true rfl) (n := 35) rfl ?_
      refine j_iload_n C dX7_worth_35 rfl (n := 36) rfl ?_
      refine j_if_ne C dX7_worth_36 (tgt := 46) (n := 39) (by decide) rfl (fun q11 => ?_) (fun q11 => ?_)
      · refine j_aload_n C dX7_worth_46 rfl (n := 47) rfl ?_
        refine gf_X7_12 C 0 (cX_0 g _) rfl dX7_worth_47 (n := 50) rfl ?_
        refine j_iload_n C dX7_worth_50 rfl (n := 51) rfl ?_
        refine j_bnd (fun r13 q12 => ?_)
        refine j_ci C (run_V C mi_X1_favour lm_X7_217 iv_X1_favour ⟨Nat.le_of_ble_eq_true rfl, Nat.le_of_ble_eq_true rfl⟩ (m_X1_favour _ _ _ _ q12) (cX_1 g _) rfl rfl rfl rfl (Nat.le_of_ble_eq_true rfl) dX7_worth_51) (n := 54) rfl ?_
        refine j_istore C dX7_worth_54 (Nat.le_of_ble_eq_true rfl) (n := 56) rfl ?_
        refine j_iload C dX7_worth_56 rfl (n := 58) rfl ?_
        refine j_iload_n C dX7_worth_58 rfl (n := 59) rfl ?_
        refine j_bnd (fun r16 q15 => ?_)
        refine j_ci C (run_S C mi_X7_commonDivisor lm_X7_220 st_X7_commonDivisor ⟨Nat.le_of_ble_eq_true rfl, Nat.le_of_ble_eq_true rfl⟩ (m_X7_commonDivisor _ _ _ _ _ q15) rfl rfl rfl (Nat.le_of_ble_eq_true rfl) dX7_worth_59) (n := 62) rfl ?_
        refine j_istore C dX7_worth_62 (Nat.le_of_ble_eq_true rfl) (n := 64) rfl ?_
        refine j_iload_n C dX7_worth_64 rfl (n := 65) rfl ?_
        refine j_if_ne C dX7_worth_65 (tgt := 73) (n := 68) (by decide) rfl (fun q18 => ?_) (fun q18 => ?_)
        · refine j_iload_n C dX7_worth_73 rfl (n := 74) rfl ?_
          refine j_iload C dX7_worth_74 rfl (n := 76) rfl ?_
          refine j_idiv C dX7_worth_76 (n := 77) rfl ?_
          exact j_retP C dX7_worth_77
        · refine j_iload C dX7_worth_68 rfl (n := 70) rfl ?_
          refine j_goto C dX7_worth_70 (n := 74) (by decide) ?_
          refine j_iload C dX7_worth_74 rfl (n := 76) rfl ?_
          refine j_idiv C dX7_worth_76 (n := 77) rfl ?_
          exact j_retP C dX7_worth_77
      · refine j_aload_n C dX7_worth_39 rfl (n := 40) rfl ?_
        refine j_ldc C dX7_worth_40 kc_X7_188 (n := 42) rfl ?_
        refine j_bnd (fun r20 q19 => ?_)
        refine j_ci C (run_V C mi_X7_finding lm_X7_68 iv_X7_finding ⟨Nat.le_of_ble_eq_true rfl, Nat.le_of_ble_eq_true rfl⟩ (m_X7_finding _ _ _ q19) (cX_0 g _) rfl rfl rfl rfl (Nat.le_of_ble_eq_true rfl) dX7_worth_42) (n := 45) rfl ?_
        exact j_retP C dX7_worth_45
    · refine j_aload_n C dX7_worth_20 rfl (n := 21) rfl ?_
      refine j_ldc C dX7_worth_21 kc_X7_67 (n := 23) rfl ?_
      refine j_bnd (fun r23 q22 => ?_)
      refine j_ci C (run_V C mi_X7_finding lm_X7_68 iv_X7_finding ⟨Nat.le_of_ble_eq_true rfl, Nat.le_of_ble_eq_true rfl⟩ (m_X7_finding _ _ _ q22) (cX_0 g _) rfl rfl rfl rfl (Nat.le_of_ble_eq_true rfl) dX7_worth_23) (n := 26) rfl ?_
      exact j_retP C dX7_worth_26
-- X7_next
set_option maxRecDepth 20000 in
theorem j_X7_next_23 {x : Fx} {g : Gl} (C : Ok x g RX7 cX7_next 5 (some .int)) (fu : Nat) : ∀ (n : Nat) (x1 : Int32) (x2 : Int32) (x3 : Int32) (h : Hp), J x g cwX 5 4 (fun r : Int32 × Hp => qI cwX r.1 r.2) 23 [some (rf g 0), some (.int x1), some (.int x2), some (.int x3)] [] h (X7_next_23 fu n x1 x2 x3 h) := by
  intro n
  induction n with
  | zero =>
    intro x1 x2 x3 h
    rw [X7_next_23]
    exact j_none
  | succ n ih =>
    intro x1 x2 x3 h
    rw [X7_next_23]
    refine j_iload_n C dX7_next_23 rfl (n := 24) rfl ?_
    refine j_sipush C dX7_next_24 sp_255 (n := 27) rfl ?_
    refine j_icmp_gt C dX7_next_27 (tgt := 57) (n := 30) (by decide) rfl (fun q1 => ?_) (fun q1 => ?_)
    · refine j_iload_n C dX7_next_57 rfl (n := 58) rfl ?_
      exact j_retP C dX7_next_58
    · refine j_aload_n C dX7_next_30 rfl (n := 31) rfl ?_
      refine gf_X7_12 C 0 (cX_0 g _) rfl dX7_next_31 (n := 34) rfl ?_
      refine j_iload_n C dX7_next_34 rfl (n := 35) rfl ?_
      refine j_bnd (fun r3 q2 => ?_)
      refine j_ci C (run_V C mi_X1_favour lm_X7_217 iv_X1_favour ⟨Nat.le_of_ble_eq_true rfl, Nat.le_of_ble_eq_true rfl⟩ (m_X1_favour _ _ _ _ q2) (cX_1 g _) rfl rfl rfl rfl (Nat.le_of_ble_eq_true rfl) dX7_next_35) (n := 38) rfl ?_
      refine j_istore C dX7_next_38 (Nat.le_of_ble_eq_true rfl) (n := 40) rfl ?_
      refine j_iload C dX7_next_40 rfl (n := 42) rfl ?_
      refine j_iload_n C dX7_next_42 rfl (n := 43) rfl ?_
      refine j_icmp_le C dX7_next_43 (tgt := 51) (n := 46) (by decide) rfl (fun q5 => ?_) (fun q5 => ?_)
      · refine j_iinc C dX7_next_51 rfl ic_1 (Nat.le_of_ble_eq_true rfl) (n := 54) rfl ?_
        refine j_goto C dX7_next_54 (n := 23) (by decide) ?_
        exact j_to (ih _ _ _ _) ⟨rfl, ⟨rfl, ⟨rfl, ⟨rfl, trivial⟩⟩⟩⟩
      · refine j_iload C dX7_next_46 rfl (n := 48) rfl ?_
        refine j_istore_n C dX7_next_48 (Nat.le_of_ble_eq_true rfl) (n := 49) rfl ?_
        refine j_iload_n C dX7_next_49 rfl (n := 50) rfl ?_
        refine j_istore_n C dX7_next_50 (Nat.le_of_ble_eq_true rfl) (n := 51) rfl ?_
        refine j_iinc C dX7_next_51 rfl ic_1 (Nat.le_of_ble_eq_true rfl) (n := 54) rfl ?_
        refine j_goto C dX7_next_54 (n := 23) (by decide) ?_
        exact j_to (ih _ _ _ _) ⟨rfl, ⟨rfl, ⟨rfl, ⟨rfl, trivial⟩⟩⟩⟩
set_option maxRecDepth 20000 in
theorem m_X7_next (l : Launch) (fu : Nat) (h : Hp) {r : Int32 × Hp} (e : X7_next fu h = some r) : CT l yX7_next cX7_next 5 (some .int) 4 cwX (fun g => [rf g 0]) h (qI cwX r.1 r.2) := by
  refine ct_of (QR := (fun r : Int32 × Hp => qI cwX r.1 r.2)) (by decide +kernel) (fun g => ⟨rfl, Nat.le_of_ble_eq_true rfl⟩) e (fun x g hl C => ?_)
  unfold X7_next
  refine j_aload_n C dX7_next_0 rfl (n := 1) rfl ?_
  refine gf_X7_12 C 0 (cX_0 g _) rfl dX7_next_1 (n := 4) rfl ?_
  refine j_bnd (fun r2 q1 => ?_)
  refine j_ci C (run_V C mi_X1_allChances lm_X7_214 iv_X1_allChances ⟨Nat.le_of_ble_eq_true rfl, Nat.le_of_ble_eq_true rfl⟩ (m_X1_allChances _ _ _ q1) (cX_1 g _) rfl rfl rfl rfl (Nat.le_of_ble_eq_true rfl) dX7_next_4) (n := 7) rfl ?_
  refine j_if_ne C dX7_next_7 (tgt := 17) (n := 10) (by decide) rfl (fun q4 => ?_) (fun q4 => ?_)
  · refine j_iconst C dX7_next_17 ic_0 (n := 18) rfl ?_
    refine j_istore_n C dX7_next_18 (Nat.le_of_ble_eq_true rfl) (n := 19) rfl ?_
    refine j_iconst C dX7_next_19 ic_m1 (n := 20) rfl ?_
    refine j_istore_n C dX7_next_20 (Nat.le_of_ble_eq_true rfl) (n := 21) rfl ?_
    refine j_iconst C dX7_next_21 ic_0 (n := 22) rfl ?_
    refine j_istore_n C dX7_next_22 (Nat.le_of_ble_eq_true rfl) (n := 23) rfl ?_
    exact j_to (j_X7_next_23 C _ _ _ _ _ _) ⟨rfl, ⟨rfl, ⟨rfl, ⟨rfl, trivial⟩⟩⟩⟩
  · refine j_aload_n C dX7_next_10 rfl (n := 11) rfl ?_
    refine j_ldc C dX7_next_11 kc_X7_188 (n := 13) rfl ?_
    refine j_bnd (fun r6 q5 => ?_)
    refine j_ci C (run_V C mi_X7_finding lm_X7_68 iv_X7_finding ⟨Nat.le_of_ble_eq_true rfl, Nat.le_of_ble_eq_true rfl⟩ (m_X7_finding _ _ _ q5) (cX_0 g _) rfl rfl rfl rfl (Nat.le_of_ble_eq_true rfl) dX7_next_13) (n := 16) rfl ?_
    exact j_retP C dX7_next_16
-- X1_cutCost
set_option maxRecDepth 20000 in
theorem m_X1_cutCost (l : Launch) (x1 : Int32) (x2 : Int32) (h : Hp) {r : Int32} (e : X1_cutCost x1 x2 h = some r) : CT l yX1_cutCost cX1_cutCost 3 (some .int) 2 cwX (fun g => [rf g 1, .int x1, .int x2]) h (qI cwX r h) := by
  refine ct_of (QR := (fun r : Int32 => qI cwX r h)) (by decide +kernel) (fun g => ⟨rfl, Nat.le_of_ble_eq_true rfl⟩) e (fun x g hl C => ?_)
  unfold X1_cutCost
  refine j_aload_n C dX1_cutCost_0 rfl (n := 1) rfl ?_
  refine gf_X1_15 C 1 (cX_1 g _) rfl dX1_cutCost_1 (n := 4) rfl ?_
  refine j_iload_n C dX1_cutCost_4 rfl (n := 5) rfl ?_
  refine j_iald C 3 (cX_3 g _) dX1_cutCost_5 (n := 6) rfl ?_
  refine j_aload_n C dX1_cutCost_6 rfl (n := 7) rfl ?_
  refine gf_X1_24 C 1 (cX_1 g _) rfl dX1_cutCost_7 (n := 10) rfl ?_
  refine j_iload_n C dX1_cutCost_10 rfl (n := 11) rfl ?_
  refine j_iald C 6 (cX_6 g _) dX1_cutCost_11 (n := 12) rfl ?_
  refine j_ci C (run_S C mi_X2_unlike lm_X1_138 st_X2_unlike ⟨Nat.le_of_ble_eq_true rfl, Nat.le_of_ble_eq_true rfl⟩ (m_X2_unlike _ _ _ _) rfl rfl rfl (Nat.le_of_ble_eq_true rfl) dX1_cutCost_12) (n := 15) rfl ?_
  refine j_aload_n C dX1_cutCost_15 rfl (n := 16) rfl ?_
  refine gf_X1_18 C 1 (cX_1 g _) rfl dX1_cutCost_16 (n := 19) rfl ?_
  refine j_iload_n C dX1_cutCost_19 rfl (n := 20) rfl ?_
  refine j_iald C 4 (cX_4 g _) dX1_cutCost_20 (n := 21) rfl ?_
  refine j_imul C dX1_cutCost_21 (n := 22) rfl ?_
  exact j_ret C dX1_cutCost_22
-- X1_nearestMould
set_option maxRecDepth 20000 in
theorem j_X1_nearestMould_4 {x : Fx} {g : Gl} (C : Ok x g RX1 cX1_nearestMould 4 (some .int)) (fu : Nat) (h : Hp) : ∀ (n : Nat) (x1 : Int32) (x2 : Int32) (x3 : Int32), J x g cwX 4 3 (fun r : Int32 => qI cwX r h) 4 [some (rf g 1), some (.int x1), some (.int x2), some (.int x3)] [] h (X1_nearestMould_4 fu h n x1 x2 x3) := by
  intro n
  induction n with
  | zero =>
    intro x1 x2 x3
    rw [X1_nearestMould_4]
    exact j_none
  | succ n ih =>
    intro x1 x2 x3
    rw [X1_nearestMould_4]
    refine j_iload_n C dX1_nearestMould_4 rfl (n := 5) rfl ?_
    refine j_aload_n C dX1_nearestMould_5 rfl (n := 6) rfl ?_
    refine gf_X1_61 C 1 (cX_1 g _) rfl dX1_nearestMould_6 (n := 9) rfl ?_
    refine j_icmp_ge C dX1_nearestMould_9 (tgt := 35) (n := 12) (by decide) rfl (fun q1 => ?_) (fun q1 => ?_)
    · refine j_iload_n C dX1_nearestMould_35 rfl (n := 36) rfl ?_
      exact j_ret C dX1_nearestMould_36
    · refine j_aload_n C dX1_nearestMould_12 rfl (n := 13) rfl ?_
      refine j_iload_n C dX1_nearestMould_13 rfl (n := 14) rfl ?_
      refine j_iload_n C dX1_nearestMould_14 rfl (n := 15) rfl ?_
      refine j_bnd (fun r3 q2 => ?_)
      refine j_ci C (run_V C mi_X1_cutCost lm_X1_141 iv_X1_cutCost ⟨Nat.le_of_ble_eq_true rfl, Nat.le_of_ble_eq_true rfl⟩ (m_X1_cutCost _ _ _ _ q2) (cX_1 g _) rfl rfl rfl rfl (Nat.le_of_ble_eq_true rfl) dX1_nearestMould_15) (n := 18) rfl ?_
      refine j_aload_n C dX1_nearestMould_18 rfl (n := 19) rfl ?_
      refine j_iload_n C dX1_nearestMould_19 rfl (n := 20) rfl ?_
      refine j_iload_n C dX1_nearestMould_20 rfl (n := 21) rfl ?_
      refine j_bnd (fun r6 q5 => ?_)
      refine j_ci C (run_V C mi_X1_cutCost lm_X1_141 iv_X1_cutCost ⟨Nat.le_of_ble_eq_true rfl, Nat.le_of_ble_eq_true rfl⟩ (m_X1_cutCost _ _ _ _ q5) (cX_1 g _) rfl rfl rfl rfl (Nat.le_of_ble_eq_true rfl) dX1_nearestMould_21) (n := 24) rfl ?_
      refine j_icmp_ge C dX1_nearestMould_24 (tgt := 29) (n := 27) (by decide) rfl (fun q8 => ?_) (fun q8 => ?_)
      · refine j_iinc C dX1_nearestMould_29 rfl ic_1 (Nat.le_of_ble_eq_true rfl) (n := 32) rfl ?_
        refine j_goto C dX1_nearestMould_32 (n := 4) (by decide) ?_
        exact j_to (ih _ _ _) ⟨rfl, ⟨rfl, ⟨rfl, ⟨rfl, trivial⟩⟩⟩⟩
      · refine j_iload_n C dX1_nearestMould_27 rfl (n := 28) rfl ?_
        refine j_istore_n C dX1_nearestMould_28 (Nat.le_of_ble_eq_true rfl) (n := 29) rfl ?_
        refine j_iinc C dX1_nearestMould_29 rfl ic_1 (Nat.le_of_ble_eq_true rfl) (n := 32) rfl ?_
        refine j_goto C dX1_nearestMould_32 (n := 4) (by decide) ?_
        exact j_to (ih _ _ _) ⟨rfl, ⟨rfl, ⟨rfl, ⟨rfl, trivial⟩⟩⟩⟩
set_option maxRecDepth 20000 in
theorem m_X1_nearestMould (l : Launch) (fu : Nat) (x1 : Int32) (h : Hp) {r : Int32} (e : X1_nearestMould fu x1 h = some r) : CT l yX1_nearestMould cX1_nearestMould 4 (some .int) 3 cwX (fun g => [rf g 1, .int x1]) h (qI cwX r h) := by
  refine ct_of (QR := (fun r : Int32 => qI cwX r h)) (by decide +kernel) (fun g => ⟨rfl, Nat.le_of_ble_eq_true rfl⟩) e (fun x g hl C => ?_)
  unfold X1_nearestMould
  refine j_iconst C dX1_nearestMould_0 ic_0 (n := 1) rfl ?_
  refine j_istore_n C dX1_nearestMould_1 (Nat.le_of_ble_eq_true rfl) (n := 2) rfl ?_
  refine j_iconst C dX1_nearestMould_2 ic_1 (n := 3) rfl ?_
  refine j_istore_n C dX1_nearestMould_3 (Nat.le_of_ble_eq_true rfl) (n := 4) rfl ?_
  exact j_to (j_X1_nearestMould_4 C _ _ _ _ _ _) ⟨rfl, ⟨rfl, ⟨rfl, ⟨rfl, trivial⟩⟩⟩⟩
-- X7_mould
set_option maxRecDepth 20000 in
theorem m_X7_mould (l : Launch) (fu : Nat) (x1 : Int32) (h : Hp) {r : Int32 × Hp} (e : X7_mould fu x1 h = some r) : CT l yX7_mould cX7_mould 2 (some .int) 4 cwX (fun g => [rf g 0, .int x1]) h (qI cwX r.1 r.2) := by
  refine ct_of (QR := (fun r : Int32 × Hp => qI cwX r.1 r.2)) (by decide +kernel) (fun g => ⟨rfl, Nat.le_of_ble_eq_true rfl⟩) e (fun x g hl C => ?_)
  unfold X7_mould
  refine j_iload_n C dX7_mould_0 rfl (n := 1) rfl ?_
  refine j_cz C (run_S C mi_X7_isFace lm_X7_98 st_X7_isFace ⟨Nat.le_of_ble_eq_true rfl, Nat.le_of_ble_eq_true rfl⟩ (m_X7_isFace _ _ _) rfl rfl rfl (Nat.le_of_ble_eq_true rfl) dX7_mould_1) (n := 4) rfl (fun b1 => ?_)
  refine j_if_ne C dX7_mould_4 (tgt := 14) (n := 7) (by decide) rfl (fun q2 => ?_) (fun q2 => ?_)
  · refine j_aload_n C dX7_mould_14 rfl (n := 15) rfl ?_
    refine gf_X7_12 C 0 (cX_0 g _) rfl dX7_mould_15 (n := 18) rfl ?_
    refine gf_X7_72 C 1 (cX_1 g _) rfl dX7_mould_18 (n := 21) rfl ?_
    refine j_if_ne C dX7_mould_21 (tgt := 31) (n := 24) (by decide) rfl (fun q3 => ?_) (fun q3 => ?_)
    · refine j_aload_n C dX7_mould_31 rfl (n := 32) rfl ?_
      refine gf_X7_12 C 0 (cX_0 g _) rfl dX7_mould_32 (n := 35) rfl ?_
      refine j_iload_n C dX7_mould_35 rfl (n := 36) rfl ?_
      refine j_bnd (fun r5 q4 => ?_)
      refine j_ci C (run_V C mi_X1_nearestMould lm_X7_223 iv_X1_nearestMould ⟨Nat.le_of_ble_eq_true rfl, Nat.le_of_ble_eq_true rfl⟩ (m_X1_nearestMould _ _ _ _ q4) (cX_1 g _) rfl rfl rfl rfl (Nat.le_of_ble_eq_true rfl) dX7_mould_36) (n := 39) rfl ?_
      exact j_retP C dX7_mould_39
    · refine j_aload_n C dX7_mould_24 rfl (n := 25) rfl ?_
      refine j_ldc C dX7_mould_25 kc_X7_188 (n := 27) rfl ?_
      refine j_bnd (fun r8 q7 => ?_)
      refine j_ci C (run_V C mi_X7_finding lm_X7_68 iv_X7_finding ⟨Nat.le_of_ble_eq_true rfl, Nat.le_of_ble_eq_true rfl⟩ (m_X7_finding _ _ _ q7) (cX_0 g _) rfl rfl rfl rfl (Nat.le_of_ble_eq_true rfl) dX7_mould_27) (n := 30) rfl ?_
      exact j_retP C dX7_mould_30
  · refine j_aload_n C dX7_mould_7 rfl (n := 8) rfl ?_
    refine j_ldc C dX7_mould_8 kc_X7_67 (n := 10) rfl ?_
    refine j_bnd (fun r11 q10 => ?_)
    refine j_ci C (run_V C mi_X7_finding lm_X7_68 iv_X7_finding ⟨Nat.le_of_ble_eq_true rfl, Nat.le_of_ble_eq_true rfl⟩ (m_X7_finding _ _ _ q10) (cX_0 g _) rfl rfl rfl rfl (Nat.le_of_ble_eq_true rfl) dX7_mould_10) (n := 13) rfl ?_
    exact j_retP C dX7_mould_13
-- X7_cuts
set_option maxRecDepth 20000 in
theorem m_X7_cuts (l : Launch) (fu : Nat) (x1 : Int32) (h : Hp) {r : Int32 × Hp} (e : X7_cuts fu x1 h = some r) : CT l yX7_cuts cX7_cuts 2 (some .int) 4 cwX (fun g => [rf g 0, .int x1]) h (qI cwX r.1 r.2) := by
  refine ct_of (QR := (fun r : Int32 × Hp => qI cwX r.1 r.2)) (by decide +kernel) (fun g => ⟨rfl, Nat.le_of_ble_eq_true rfl⟩) e (fun x g hl C => ?_)
  unfold X7_cuts
  refine j_iload_n C dX7_cuts_0 rfl (n := 1) rfl ?_
  refine j_cz C (run_S C mi_X7_isFace lm_X7_98 st_X7_isFace ⟨Nat.le_of_ble_eq_true rfl, Nat.le_of_ble_eq_true rfl⟩ (m_X7_isFace _ _ _) rfl rfl rfl (Nat.le_of_ble_eq_true rfl) dX7_cuts_1) (n := 4) rfl (fun b1 => ?_)
  refine j_if_ne C dX7_cuts_4 (tgt := 14) (n := 7) (by decide) rfl (fun q2 => ?_) (fun q2 => ?_)
  · refine j_aload_n C dX7_cuts_14 rfl (n := 15) rfl ?_
    refine gf_X7_12 C 0 (cX_0 g _) rfl dX7_cuts_15 (n := 18) rfl ?_
    refine gf_X7_72 C 1 (cX_1 g _) rfl dX7_cuts_18 (n := 21) rfl ?_
    refine j_if_ne C dX7_cuts_21 (tgt := 31) (n := 24) (by decide) rfl (fun q3 => ?_) (fun q3 => ?_)
    · refine j_aload_n C dX7_cuts_31 rfl (n := 32) rfl ?_
      refine gf_X7_12 C 0 (cX_0 g _) rfl dX7_cuts_32 (n := 35) rfl ?_
      refine j_aload_n C dX7_cuts_35 rfl (n := 36) rfl ?_
      refine gf_X7_12 C 0 (cX_0 g _) rfl dX7_cuts_36 (n := 39) rfl ?_
      refine j_iload_n C dX7_cuts_39 rfl (n := 40) rfl ?_
      refine j_bnd (fun r5 q4 => ?_)
      refine j_ci C (run_V C mi_X1_nearestMould lm_X7_223 iv_X1_nearestMould ⟨Nat.le_of_ble_eq_true rfl, Nat.le_of_ble_eq_true rfl⟩ (m_X1_nearestMould _ _ _ _ q4) (cX_1 g _) rfl rfl rfl rfl (Nat.le_of_ble_eq_true rfl) dX7_cuts_40) (n := 43) rfl ?_
      refine j_iload_n C dX7_cuts_43 rfl (n := 44) rfl ?_
      refine j_bnd (fun r8 q7 => ?_)
      refine j_ci C (run_V C mi_X1_cutCost lm_X7_226 iv_X1_cutCost ⟨Nat.le_of_ble_eq_true rfl, Nat.le_of_ble_eq_true rfl⟩ (m_X1_cutCost _ _ _ _ q7) (cX_1 g _) rfl rfl rfl rfl (Nat.le_of_ble_eq_true rfl) dX7_cuts_44) (n := 47) rfl ?_
      exact j_retP C dX7_cuts_47
    · refine j_aload_n C dX7_cuts_24 rfl (n := 25) rfl ?_
      refine j_ldc C dX7_cuts_25 kc_X7_188 (n := 27) rfl ?_
      refine j_bnd (fun r11 q10 => ?_)
      refine j_ci C (run_V C mi_X7_finding lm_X7_68 iv_X7_finding ⟨Nat.le_of_ble_eq_true rfl, Nat.le_of_ble_eq_true rfl⟩ (m_X7_finding _ _ _ q10) (cX_0 g _) rfl rfl rfl rfl (Nat.le_of_ble_eq_true rfl) dX7_cuts_27) (n := 30) rfl ?_
      exact j_retP C dX7_cuts_30
  · refine j_aload_n C dX7_cuts_7 rfl (n := 8) rfl ?_
    refine j_ldc C dX7_cuts_8 kc_X7_67 (n := 10) rfl ?_
    refine j_bnd (fun r14 q13 => ?_)
    refine j_ci C (run_V C mi_X7_finding lm_X7_68 iv_X7_finding ⟨Nat.le_of_ble_eq_true rfl, Nat.le_of_ble_eq_true rfl⟩ (m_X7_finding _ _ _ q13) (cX_0 g _) rfl rfl rfl rfl (Nat.le_of_ble_eq_true rfl) dX7_cuts_10) (n := 13) rfl ?_
    exact j_retP C dX7_cuts_13
-- X7_isSheet
set_option maxRecDepth 20000 in
theorem m_X7_isSheet (l : Launch) (x0 : Int32) (h : Hp) : CT l yX7_isSheet cX7_isSheet 1 (some .boolean) 1 cwX (fun g => [.int x0]) h (qZ cwX (X7_isSheet x0) h) := by
  refine ct_of (QR := (fun r : Int32 => qZ cwX r h)) (by decide +kernel) (fun g => ⟨rfl, Nat.le_of_ble_eq_true rfl⟩) (X7_isSheet_e x0) (fun x g hl C => ?_)
  unfold X7_isSheet_o
  refine j_iload_n C dX7_isSheet_0 rfl (n := 1) rfl ?_
  refine j_iconst C dX7_isSheet_1 ic_0 (n := 2) rfl ?_
  refine j_iconst C dX7_isSheet_2 ic_3 (n := 3) rfl ?_
  refine j_cz C (run_S C mi_X7_within lm_X7_94 st_X7_within ⟨Nat.le_of_ble_eq_true rfl, Nat.le_of_ble_eq_true rfl⟩ (m_X7_within _ _ _ _ _) rfl rfl rfl (Nat.le_of_ble_eq_true rfl) dX7_isSheet_3) (n := 6) rfl (fun b1 => ?_)
  exact j_retZ C b1 dX7_isSheet_6
-- X4_isMissing
set_option maxRecDepth 20000 in
theorem m_X4_isMissing_47 (l : Launch) (h : Hp) : CT l yX4_isMissing cX4_isMissing 1 (some .boolean) 0 cwX (fun g => [rf g 47]) h (qZ cwX (X4_isMissing 47 h) h) := by
  refine ct_of (QR := (fun r : Int32 => qZ cwX r h)) (by decide +kernel) (fun g => ⟨rfl, Nat.le_of_ble_eq_true rfl⟩) (X4_isMissing_e 47 h) (fun x g hl C => ?_)
  unfold X4_isMissing_o
  refine j_aload_n C dX4_isMissing_0 rfl (n := 1) rfl ?_
  refine gf_X4_15 C 47 (cX_47 g _) rfl dX4_isMissing_1 (n := 4) rfl ?_
  refine j_if_ne C dX4_isMissing_4 (tgt := 11) (n := 7) (by decide) rfl (fun q1 => ?_) (fun q1 => ?_)
  · refine j_iconst C dX4_isMissing_11 ic_0 (n := 12) rfl ?_
    exact j_retZ C (Or.inl rfl) dX4_isMissing_12
  · refine j_iconst C dX4_isMissing_7 ic_1 (n := 8) rfl ?_
    refine j_goto C dX4_isMissing_8 (n := 12) (by decide) ?_
    exact j_retZ C (Or.inr rfl) dX4_isMissing_12
-- X4_isMissing
set_option maxRecDepth 20000 in
theorem m_X4_isMissing_49 (l : Launch) (h : Hp) : CT l yX4_isMissing cX4_isMissing 1 (some .boolean) 0 cwX (fun g => [rf g 49]) h (qZ cwX (X4_isMissing 49 h) h) := by
  refine ct_of (QR := (fun r : Int32 => qZ cwX r h)) (by decide +kernel) (fun g => ⟨rfl, Nat.le_of_ble_eq_true rfl⟩) (X4_isMissing_e 49 h) (fun x g hl C => ?_)
  unfold X4_isMissing_o
  refine j_aload_n C dX4_isMissing_0 rfl (n := 1) rfl ?_
  refine gf_X4_15 C 49 (cX_49 g _) rfl dX4_isMissing_1 (n := 4) rfl ?_
  refine j_if_ne C dX4_isMissing_4 (tgt := 11) (n := 7) (by decide) rfl (fun q1 => ?_) (fun q1 => ?_)
  · refine j_iconst C dX4_isMissing_11 ic_0 (n := 12) rfl ?_
    exact j_retZ C (Or.inl rfl) dX4_isMissing_12
  · refine j_iconst C dX4_isMissing_7 ic_1 (n := 8) rfl ?_
    refine j_goto C dX4_isMissing_8 (n := 12) (by decide) ?_
    exact j_retZ C (Or.inr rfl) dX4_isMissing_12
-- X4_isMissing
set_option maxRecDepth 20000 in
theorem m_X4_isMissing_51 (l : Launch) (h : Hp) : CT l yX4_isMissing cX4_isMissing 1 (some .boolean) 0 cwX (fun g => [rf g 51]) h (qZ cwX (X4_isMissing 51 h) h) := by
  refine ct_of (QR := (fun r : Int32 => qZ cwX r h)) (by decide +kernel) (fun g => ⟨rfl, Nat.le_of_ble_eq_true rfl⟩) (X4_isMissing_e 51 h) (fun x g hl C => ?_)
  unfold X4_isMissing_o
  refine j_aload_n C dX4_isMissing_0 rfl (n := 1) rfl ?_
  refine gf_X4_15 C 51 (cX_51 g _) rfl dX4_isMissing_1 (n := 4) rfl ?_
  refine j_if_ne C dX4_isMissing_4 (tgt := 11) (n := 7) (by decide) rfl (fun q1 => ?_) (fun q1 => ?_)
  · refine j_iconst C dX4_isMissing_11 ic_0 (n := 12) rfl ?_
    exact j_retZ C (Or.inl rfl) dX4_isMissing_12
  · refine j_iconst C dX4_isMissing_7 ic_1 (n := 8) rfl ?_
    refine j_goto C dX4_isMissing_8 (n := 12) (by decide) ?_
    exact j_retZ C (Or.inr rfl) dX4_isMissing_12
-- X4_isMissing
set_option maxRecDepth 20000 in
theorem m_X4_isMissing_53 (l : Launch) (h : Hp) : CT l yX4_isMissing cX4_isMissing 1 (some .boolean) 0 cwX (fun g => [rf g 53]) h (qZ cwX (X4_isMissing 53 h) h) := by
  refine ct_of (QR := (fun r : Int32 => qZ cwX r h)) (by decide +kernel) (fun g => ⟨rfl, Nat.le_of_ble_eq_true rfl⟩) (X4_isMissing_e 53 h) (fun x g hl C => ?_)
  unfold X4_isMissing_o
  refine j_aload_n C dX4_isMissing_0 rfl (n := 1) rfl ?_
  refine gf_X4_15 C 53 (cX_53 g _) rfl dX4_isMissing_1 (n := 4) rfl ?_
  refine j_if_ne C dX4_isMissing_4 (tgt := 11) (n := 7) (by decide) rfl (fun q1 => ?_) (fun q1 => ?_)
  · refine j_iconst C dX4_isMissing_11 ic_0 (n := 12) rfl ?_
    exact j_retZ C (Or.inl rfl) dX4_isMissing_12
  · refine j_iconst C dX4_isMissing_7 ic_1 (n := 8) rfl ?_
    refine j_goto C dX4_isMissing_8 (n := 12) (by decide) ?_
    exact j_retZ C (Or.inr rfl) dX4_isMissing_12
-- X6_survey
set_option maxRecDepth 20000 in
theorem j_X6_survey_21_47 {x : Fx} {g : Gl} (C : Ok x g RX6 cX6_survey 5 none) (fu : Nat) (k10 : Int32 → Hp → Option (Hp)) (hk10 : ∀ (x3 : Int32) (h : Hp), J x g cwX 5 4 (fun r : Hp => qV cwX r) 10 [some (rf g 37), some (rf g 1), some (rf g 47), some (.int x3)] [] h (k10 x3 h)) : ∀ (n : Nat) (x3 : Int32) (x4 : Int32) (h : Hp), J x g cwX 5 4 (fun r : Hp => qV cwX r) 21 [some (rf g 37), some (rf g 1), some (rf g 47), some (.int x3), some (.int x4)] [] h (X6_survey_21 fu 47 k10 n x3 x4 h) := by
  intro n
  induction n with
  | zero =>
    intro x3 x4 h
    rw [X6_survey_21]
    exact j_none
  | succ n ih =>
    intro x3 x4 h
    rw [X6_survey_21]
    refine j_iload C dX6_survey_21 rfl (n := 23) rfl ?_
    refine j_bipush C dX6_survey_23 bp_6 (n := 25) rfl ?_
    refine j_icmp_ge C dX6_survey_25 (tgt := 81) (n := 28) (by decide) rfl (fun q1 => ?_) (fun q1 => ?_)
    · refine j_iinc C dX6_survey_81 rfl ic_1 (Nat.le_of_ble_eq_true rfl) (n := 84) rfl ?_
      refine j_goto C dX6_survey_84 (n := 10) (by decide) ?_
      exact j_to (hk10 _ _) ⟨rfl, ⟨rfl, ⟨rfl, ⟨rfl, trivial⟩⟩⟩⟩
    · refine j_iload C dX6_survey_28 rfl (n := 30) rfl ?_
      refine j_aload_n C dX6_survey_30 rfl (n := 31) rfl ?_
      refine gf_X6_30 C 47 (cX_47 g _) rfl dX6_survey_31 (n := 34) rfl ?_
      refine j_icmp_ge C dX6_survey_34 (tgt := 81) (n := 37) (by decide) rfl (fun q2 => ?_) (fun q2 => ?_)
      · refine j_iinc C dX6_survey_81 rfl ic_1 (Nat.le_of_ble_eq_true rfl) (n := 84) rfl ?_
        refine j_goto C dX6_survey_84 (n := 10) (by decide) ?_
        exact j_to (hk10 _ _) ⟨rfl, ⟨rfl, ⟨rfl, ⟨rfl, trivial⟩⟩⟩⟩
      · refine j_aload_n C dX6_survey_37 rfl (n := 38) rfl ?_
        refine j_iload_n C dX6_survey_38 rfl (n := 39) rfl ?_
        refine j_bnd (fun r4 q3 => ?_)
        refine j_cz C (run_V C mi_X1_isHead lm_X6_52 iv_X1_isHead ⟨Nat.le_of_ble_eq_true rfl, Nat.le_of_ble_eq_true rfl⟩ (m_X1_isHead _ _ _ _ q3) (cX_1 g _) rfl rfl rfl rfl (Nat.le_of_ble_eq_true rfl) dX6_survey_39) (n := 42) rfl (fun b5 => ?_)
        refine j_if_eq C dX6_survey_42 (tgt := 81) (n := 45) (by decide) rfl (fun q6 => ?_) (fun q6 => ?_)
        · refine j_iinc C dX6_survey_81 rfl ic_1 (Nat.le_of_ble_eq_true rfl) (n := 84) rfl ?_
          refine j_goto C dX6_survey_84 (n := 10) (by decide) ?_
          exact j_to (hk10 _ _) ⟨rfl, ⟨rfl, ⟨rfl, ⟨rfl, trivial⟩⟩⟩⟩
        · refine j_aload_n C dX6_survey_45 rfl (n := 46) rfl ?_
          refine j_iload_n C dX6_survey_46 rfl (n := 47) rfl ?_
          refine j_iload C dX6_survey_47 rfl (n := 49) rfl ?_
          refine j_bnd (fun r8 q7 => ?_)
          refine j_ci C (run_V C mi_X1_likeTo lm_X6_56 iv_X1_likeTo ⟨Nat.le_of_ble_eq_true rfl, Nat.le_of_ble_eq_true rfl⟩ (m_X1_likeTo _ _ _ _ q7) (cX_1 g _) rfl rfl rfl rfl (Nat.le_of_ble_eq_true rfl) dX6_survey_49) (n := 52) rfl ?_
          refine j_aload_n C dX6_survey_52 rfl (n := 53) rfl ?_
          refine gf_X6_59 C 47 (cX_47 g _) rfl dX6_survey_53 (n := 56) rfl ?_
          refine j_iload C dX6_survey_56 rfl (n := 58) rfl ?_
          refine j_iald C 48 (cX_48 g _) dX6_survey_58 (n := 59) rfl ?_
          refine j_icmp_ne C dX6_survey_59 (tgt := 75) (n := 62) (by decide) rfl (fun q10 => ?_) (fun q10 => ?_)
          · refine j_iinc C dX6_survey_75 rfl ic_1 (Nat.le_of_ble_eq_true rfl) (n := 78) rfl ?_
            refine j_goto C dX6_survey_78 (n := 21) (by decide) ?_
            exact j_to (ih _ _ _) ⟨rfl, ⟨rfl, ⟨rfl, ⟨rfl, ⟨rfl, trivial⟩⟩⟩⟩⟩
          · refine j_aload_n C dX6_survey_62 rfl (n := 63) rfl ?_
            refine gf_X6_9 C 37 (cX_37 g _) rfl dX6_survey_63 (n := 66) rfl ?_
            refine j_iload_n C dX6_survey_66 rfl (n := 67) rfl ?_
            refine j_dup2 C dX6_survey_67 rfl rfl (n := 68) rfl ?_
            refine j_iald C 38 (cX_38 g _) dX6_survey_68 (n := 69) rfl ?_
            refine j_iconst C dX6_survey_69 ic_1 (n := 70) rfl ?_
            refine j_iload C dX6_survey_70 rfl (n := 72) rfl ?_
            refine j_ishl C dX6_survey_72 (n := 73) rfl ?_
            refine j_ior C dX6_survey_73 (n := 74) rfl ?_
            refine j_iast C 38 (cX_38 g _) (aX_38 g _ _ _) dX6_survey_74 (n := 75) rfl ?_
            refine j_iinc C dX6_survey_75 rfl ic_1 (Nat.le_of_ble_eq_true rfl) (n := 78) rfl ?_
            refine j_goto C dX6_survey_78 (n := 21) (by decide) ?_
            exact j_to (ih _ _ _) ⟨rfl, ⟨rfl, ⟨rfl, ⟨rfl, ⟨rfl, trivial⟩⟩⟩⟩⟩
set_option maxRecDepth 20000 in
theorem j_X6_survey_10_47 {x : Fx} {g : Gl} (C : Ok x g RX6 cX6_survey 5 none) (fu : Nat) : ∀ (n : Nat) (x3 : Int32) (h : Hp), J x g cwX 5 4 (fun r : Hp => qV cwX r) 10 [some (rf g 37), some (rf g 1), some (rf g 47), some (.int x3)] [] h (X6_survey_10 fu 47 n x3 h) := by
  intro n
  induction n with
  | zero =>
    intro x3 h
    rw [X6_survey_10]
    exact j_none
  | succ n ih =>
    intro x3 h
    rw [X6_survey_10]
    refine j_iload_n C dX6_survey_10 rfl (n := 11) rfl ?_
    refine j_aload_n C dX6_survey_11 rfl (n := 12) rfl ?_
    refine gf_X6_47 C 1 (cX_1 g _) rfl dX6_survey_12 (n := 15) rfl ?_
    refine j_icmp_ge C dX6_survey_15 (tgt := 87) (n := 18) (by decide) rfl (fun q1 => ?_) (fun q1 => ?_)
    · exact j_retV C dX6_survey_87
    · refine j_iconst C dX6_survey_18 ic_0 (n := 19) rfl ?_
      refine j_istore C dX6_survey_19 (Nat.le_of_ble_eq_true rfl) (n := 21) rfl ?_
      exact j_to (j_X6_survey_21_47 C _ _ ih _ _ _ _) ⟨rfl, ⟨rfl, ⟨rfl, ⟨rfl, ⟨rfl, trivial⟩⟩⟩⟩⟩
set_option maxRecDepth 20000 in
theorem m_X6_survey_47 (l : Launch) (fu : Nat) (h : Hp) {r : Hp} (e : X6_survey fu 47 h = some r) : CT l yX6_survey cX6_survey 5 none 4 cwX (fun g => [rf g 37, rf g 1, rf g 47]) h (qV cwX r) := by
  refine ct_of (QR := (fun r : Hp => qV cwX r)) (by decide +kernel) (fun g => ⟨rfl, Nat.le_of_ble_eq_true rfl⟩) e (fun x g hl C => ?_)
  unfold X6_survey
  refine j_aload_n C dX6_survey_0 rfl (n := 1) rfl ?_
  refine gf_X6_9 C 37 (cX_37 g _) rfl dX6_survey_1 (n := 4) rfl ?_
  refine j_iconst C dX6_survey_4 ic_0 (n := 5) rfl ?_
  refine j_bnd (fun h2 q1 => ?_)
  refine j_cv C (run_S C mi_J7_fill_53178 lm_X6_41 st_J7_fill_53178 ⟨Nat.le_of_ble_eq_true rfl, Nat.le_of_ble_eq_true rfl⟩ (m_J7_fill_53178_38 _ _ _ _ q1) rfl rfl rfl (Nat.le_of_ble_eq_true rfl) dX6_survey_5) (n := 8) rfl ?_
  refine j_iconst C dX6_survey_8 ic_0 (n := 9) rfl ?_
  refine j_istore_n C dX6_survey_9 (Nat.le_of_ble_eq_true rfl) (n := 10) rfl ?_
  exact j_to (j_X6_survey_10_47 C _ _ _ _) ⟨rfl, ⟨rfl, ⟨rfl, ⟨rfl, trivial⟩⟩⟩⟩
