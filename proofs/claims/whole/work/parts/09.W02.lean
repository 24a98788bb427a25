-- X6_survey
set_option maxRecDepth 20000 in
theorem j_X6_survey_21_49 {x : Fx} {g : Gl} (C : Ok x g RX6 cX6_survey 5 none) (fu : Nat) (k10 : Int32 → Hp → Option (Hp)) (hk10 : ∀ (x3 : Int32) (h : Hp), J x g cwX 5 4 (fun r : Hp => qV cwX r) 10 [some (rf g 37), some (rf g 1), some (rf g 49), some (.int x3)] [] h (k10 x3 h)) : ∀ (n : Nat) (x3 : Int32) (x4 : Int32) (h : Hp), J x g cwX 5 4 (fun r : Hp => qV cwX r) 21 [some (rf g 37), some (rf g 1), some (rf g 49), some (.int x3), some (.int x4)] [] h (X6_survey_21 fu 49 k10 n x3 x4 h) := by
  intro n
  induction n with
  | zero =>
    intro x3 x4 h
    rw [X6_survey_21]
    exact j_none
  | succ n ih =>
    intro x3 x4 h
    rw [X6_survey_21]
    refine j_iload C dX6_survey_21 rfl (n := 23) rfl ?_
    refine j_bipush C dX6_survey_23 bp_6 (n := 25) rfl ?_
    refine j_icmp_ge C dX6_survey_25 (tgt := 81) (n := 28) (by decide) rfl (fun q1 => ?_) (fun q1 => ?_)
    · refine j_iinc C dX6_survey_81 rfl ic_1 (Nat.le_of_ble_eq_true rfl) (n := 84) rfl ?_
      refine j_goto C dX6_survey_84 (n := 10) (by decide) ?_
      exact j_to (hk10 _ _) ⟨rfl, ⟨rfl, ⟨rfl, ⟨rfl, trivial⟩⟩⟩⟩
    · refine j_iload C dX6_survey_28 rfl (n := 30) rfl ?_
      refine j_aload_n C dX6_survey_30 rfl (n := 31) rfl ?_
      refine gf_X6_30 C 49 (cX_49 g _) rfl dX6_survey_31 (n := 34) rfl ?_
      refine j_icmp_ge C dX6_survey_34 (tgt := 81) (n := 37) (by decide) rfl (fun q2 => ?_) (fun q2 => ?_)
      · refine j_iinc C dX6_survey_81 rfl ic_1 (Nat.le_of_ble_eq_true rfl) (n := 84) rfl ?_
        refine j_goto C dX6_survey_84 (n := 10) (by decide) ?_
        exact j_to (hk10 _ _) ⟨rfl, ⟨rfl, ⟨rfl, ⟨rfl, trivial⟩⟩⟩⟩
      · refine j_aload_n C dX6_survey_37 rfl (n := 38) rfl ?_
        refine j_iload_n C dX6_survey_38 rfl (n := 39) rfl ?_
        refine j_bnd (fun r4 q3 => ?_)
        refine j_cz C (run_V C mi_X1_isHead lm_X6_52 iv_X1_isHead ⟨Nat.le_of_ble_eq_true rfl, Nat.le_of_ble_eq_true rfl⟩ (m_X1_isHead _ _ _ _ q3) (cX_1 g _) rfl rfl rfl rfl (Nat.le_of_ble_eq_true rfl) dX6_survey_39) (n := 42) rfl (fun b5 => ?_)
        refine j_if_eq C dX6_survey_42 (tgt := 81) (n := 45) (by decide) rfl (fun q6 => ?_) (fun q6 => ?_)
        · refine j_iinc C dX6_survey_81 rfl ic_1 (Nat.le_of_ble_eq_true rfl) (n := 84) rfl ?_
          refine j_goto C dX6_survey_84 (n := 10) (by decide) ?_
          exact j_to (hk10 _ _) ⟨rfl, ⟨rfl, ⟨rfl, ⟨rfl, trivial⟩⟩⟩⟩
        · refine j_aload_n C dX6_survey_45 rfl (n := 46) rfl ?_
          refine j_iload_n C dX6_survey_46 rfl (n := 47) rfl ?_
          refine j_iload C dX6_survey_47 rfl (n := 49) rfl ?_
          refine j_bnd (fun r8 q7 => ?_)
          refine j_ci C (run_V C mi_X1_likeTo lm_X6_56 iv_X1_likeTo ⟨Nat.le_of_ble_eq_true rfl, Nat.le_of_ble_eq_true rfl⟩ (m_X1_likeTo _ _ _ _ q7) (cX_1 g _) rfl rfl rfl rfl (Nat.le_of_ble_eq_true rfl) dX6_survey_49) (n := 52) rfl ?_
          refine j_aload_n C dX6_survey_52 rfl (n := 53) rfl ?_
          refine gf_X6_59 C 49 (cX_49 g _) rfl dX6_survey_53 (n := 56) rfl ?_
          refine j_iload C dX6_survey_56 rfl (n := 58) rfl ?_
          refine j_iald C 50 (cX_50 g _) dX6_survey_58 (n := 59) rfl ?_
          refine j_icmp_ne C dX6_survey_59 (tgt := 75) (n := 62) (by decide) rfl (fun q10 => ?_) (fun q10 => ?_)
          · refine j_iinc C dX6_survey_75 rfl ic_1 (Nat.le_of_ble_eq_true rfl) (n := 78) rfl ?_
            refine j_goto C dX6_survey_78 (n := 21) (by decide) ?_
            exact j_to (ih _ _ _) ⟨rfl, ⟨rfl, ⟨rfl, ⟨rfl, ⟨rfl, trivial⟩⟩⟩⟩⟩
          · refine j_aload_n C dX6_survey_62 rfl (n := 63) rfl ?_
            refine gf_X6_9 C 37 (cX_37 g _) rfl dX6_survey_63 (n := 66) rfl ?_
            refine j_iload_n C dX6_survey_66 rfl (n := 67) rfl ?_
            refine j_dup2 C dX6_survey_67 rfl rfl (n := 68) rfl ?_
            refine j_iald C 38 (cX_38 g _) dX6_survey_68 (n := 69) rfl ?_
            refine j_iconst C dX6_survey_69 ic_1 (n := 70) rfl ?_
            refine j_iload C dX6_survey_70 rfl (n := 72) rfl ?_
            refine j_ishl C dX6_survey_72 (n := 73) rfl ?_
            refine j_ior C dX6_survey_73 (n := 74) rfl ?_
            refine j_iast C 38 (cX_38 g _) (aX_38 g _ _ _) dX6_survey_74 (n := 75) rfl ?_
            refine j_iinc C dX6_survey_75 rfl ic_1 (Nat.le_of_ble_eq_true rfl) (n := 78) rfl ?_
            refine j_goto C dX6_survey_78 (n := 21) (by decide) ?_
            exact j_to (ih _ _ _) ⟨rfl, ⟨rfl, ⟨rfl, ⟨rfl, ⟨rfl, trivial⟩⟩⟩⟩⟩
set_option maxRecDepth 20000 in
theorem j_X6_survey_10_49 {x : Fx} {g : Gl} (C : Ok x g RX6 cX6_survey 5 none) (fu : Nat) : ∀ (n : Nat) (x3 : Int32) (h : Hp), J x g cwX 5 4 (fun r : Hp => qV cwX r) 10 [some (rf g 37), some (rf g 1), some (rf g 49), some (.int x3)] [] h (X6_survey_10 fu 49 n x3 h) := by
  intro n
  induction n with
  | zero =>
    intro x3 h
    rw [X6_survey_10]
    exact j_none
  | succ n ih =>
    intro x3 h
    rw [X6_survey_10]
    refine j_iload_n C dX6_survey_10 rfl (n := 11) rfl ?_
    refine j_aload_n C dX6_survey_11 rfl (n := 12) rfl ?_
    refine gf_X6_47 C 1 (cX_1 g _) rfl dX6_survey_12 (n := 15) rfl ?_
    refine j_icmp_ge C dX6_survey_15 (tgt := 87) (n := 18) (by decide) rfl (fun q1 => ?_) (fun q1 => ?_)
    · exact j_retV C dX6_survey_87
    · refine j_iconst C dX6_survey_18 ic_0 (n := 19) rfl ?_
      refine j_istore C dX6_survey_19 (Nat.le_of_ble_eq_true rfl) (n := 21) rfl ?_
      exact j_to (j_X6_survey_21_49 C _ _ ih _ _ _ _) ⟨rfl, ⟨rfl, ⟨rfl, ⟨rfl, ⟨rfl, trivial⟩⟩⟩⟩⟩
set_option maxRecDepth 20000 in
theorem m_X6_survey_49 (l : Launch) (fu : Nat) (h : Hp) {r : Hp} (e : X6_survey fu 49 h = some r) : CT l yX6_survey cX6_survey 5 none 4 cwX (fun g => [rf g 37, rf g 1, rf g 49]) h (qV cwX r) := by
  refine ct_of (QR := (fun r : Hp => qV cwX r)) (by decide +kernel) (fun g => ⟨rfl, Nat.le_of_ble_eq_true rfl⟩) e (fun x g hl C => ?_)
  unfold X6_survey
  refine j_aload_n C dX6_survey_0 rfl (n := 1) rfl ?_
  refine gf_X6_9 C 37 (cX_37 g _) rfl dX6_survey_1 (n := 4) rfl ?_
  refine j_iconst C dX6_survey_4 ic_0 (n := 5) rfl ?_
  refine j_bnd (fun h2 q1 => ?_)
  refine j_cv C (run_S C mi_J7_fill_53178 lm_X6_41 st_J7_fill_53178 ⟨Nat.le_of_ble_eq_true rfl, Nat.le_of_ble_eq_true rfl⟩ (m_J7_fill_53178_38 _ _ _ _ q1) rfl rfl rfl (Nat.le_of_ble_eq_true rfl) dX6_survey_5) (n := 8) rfl ?_
  refine j_iconst C dX6_survey_8 ic_0 (n := 9) rfl ?_
  refine j_istore_n C dX6_survey_9 (Nat.le_of_ble_eq_true rfl) (n := 10) rfl ?_
  exact j_to (j_X6_survey_10_49 C _ _ _ _) ⟨rfl, ⟨rfl, ⟨rfl, ⟨rfl, trivial⟩⟩⟩⟩
-- X6_survey
set_option maxRecDepth 20000 in
theorem j_X6_survey_21_51 {x : Fx} {g : Gl} (C : Ok x g RX6 cX6_survey 5 none) (fu : Nat) (k10 : Int32 → Hp → Option (Hp)) (hk10 : ∀ (x3 : Int32) (h : Hp), J x g cwX 5 4 (fun r : Hp => qV cwX r) 10 [some (rf g 37), some (rf g 1), some (rf g 51), some (.int x3)] [] h (k10 x3 h)) : ∀ (n : Nat) (x3 : Int32) (x4 : Int32) (h : Hp), J x g cwX 5 4 (fun r : Hp => qV cwX r) 21 [some (rf g 37), some (rf g 1), some (rf g 51), some (.int x3), some (.int x4)] [] h (X6_survey_21 fu 51 k10 n x3 x4 h) := by
  intro n
  induction n with
  | zero =>
    intro x3 x4 h
    rw [X6_survey_21]
    exact j_none
  | succ n ih =>
    intro x3 x4 h
    rw [X6_survey_21]
    refine j_iload C dX6_survey_21 rfl (n := 23) rfl ?_
    refine j_bipush C dX6_survey_23 bp_6 (n := 25) rfl ?_
    refine j_icmp_ge C dX6_survey_25 (tgt := 81) (n := 28) (by decide) rfl (fun q1 => ?_) (fun q1 => ?_)
    · refine j_iinc C dX6_survey_81 rfl ic_1 (Nat.le_of_ble_eq_true rfl) (n := 84) rfl ?_
      refine j_goto C dX6_survey_84 (n := 10) (by decide) ?_
      exact j_to (hk10 _ _) ⟨rfl, ⟨rfl, ⟨rfl, ⟨rfl, trivial⟩⟩⟩⟩
    · refine j_iload C dX6_survey_28 rfl (n := 30) rfl ?_
      refine j_aload_n C dX6_survey_30 rfl (n := 31) rfl ?_
      refine gf_X6_30 C 51 (cX_51 g _) rfl dX6_survey_31 (n := 34) rfl ?_
      refine j_icmp_ge C dX6_survey_34 (tgt := 81) (n := 37) (by decide) rfl (fun q2 => ?_) (fun q2 => ?_)
      · refine j_iinc C dX6_survey_81 rfl ic_1 (Nat.le_of_ble_eq_true rfl) (n := 84) rfl ?_
        refine j_goto C dX6_survey_84 (n := 10) (by decide) ?_
        exact j_to (hk10 _ _) ⟨rfl, ⟨rfl, ⟨rfl, ⟨rfl, trivial⟩⟩⟩⟩
      · refine j_aload_n C dX6_survey_37 rfl (n := 38) rfl ?_
        refine j_iload_n C dX6_survey_38 rfl (n := 39) rfl ?_
        refine j_bnd (fun r4 q3 => ?_)
        refine j_cz C (run_V C mi_X1_isHead lm_X6_52 iv_X1_isHead ⟨Nat.le_of_ble_eq_true rfl, Nat.le_of_ble_eq_true rfl⟩ (m_X1_isHead _ _ _ _ q3) (cX_1 g _) rfl rfl rfl rfl (Nat.le_of_ble_eq_true rfl) dX6_survey_39) (n := 42) rfl (fun b5 => ?_)
        refine j_if_eq C dX6_survey_42 (tgt := 81) (n := 45) (by decide) rfl (fun q6 => ?_) (fun q6 => ?_)
        · refine j_iinc C dX6_survey_81 rfl ic_1 (Nat.le_of_ble_eq_true rfl) (n := 84) rfl ?_
          refine j_goto C dX6_survey_84 (n := 10) (by decide) ?_
          exact j_to (hk10 _ _) ⟨rfl, ⟨rfl, ⟨rfl, ⟨rfl, trivial⟩⟩⟩⟩
        · refine j_aload_n C dX6_survey_45 rfl (n := 46) rfl ?_
          refine j_iload_n C dX6_survey_46 rfl (n := 47) rfl ?_
          refine j_iload C dX6_survey_47 rfl (n := 49) rfl ?_
          refine j_bnd (fun r8 q7 => ?_)
          refine j_ci C (run_V C mi_X1_likeTo lm_X6_56 iv_X1_likeTo ⟨Nat.le_of_ble_eq_true rfl, Nat.le_of_ble_eq_true rfl⟩ (m_X1_likeTo _ _ _ _ q7) (cX_1 g _) rfl rfl rfl rfl (Nat.le_of_ble_eq_true rfl) dX6_survey_49) (n := 52) rfl ?_
          refine j_aload_n C dX6_survey_52 rfl (n := 53) rfl ?_
          refine gf_X6_59 C 51 (cX_51 g _) rfl dX6_survey_53 (n := 56) rfl ?_
          refine j_iload C dX6_survey_56 rfl (n := 58) rfl ?_
          refine j_iald C 52 (cX_52 g _) dX6_survey_58 (n := 59) rfl ?_
          refine j_icmp_ne C dX6_survey_59 (tgt := 75) (n := 62) (by decide) rfl (fun q10 => ?_) (fun q10 => ?_)
          · refine j_iinc C dX6_survey_75 rfl ic_1 (Nat.le_of_ble_eq_true rfl) (n := 78) rfl ?_
            refine j_goto C dX6_survey_78 (n := 21) (by decide) ?_
            exact j_to (ih _ _ _) ⟨rfl, ⟨rfl, ⟨rfl, ⟨rfl, ⟨rfl, trivial⟩⟩⟩⟩⟩
          · refine j_aload_n C dX6_survey_62 rfl (n := 63) rfl ?_
            refine gf_X6_9 C 37 (cX_37 g _) rfl dX6_survey_63 (n := 66) rfl ?_
            refine j_iload_n C dX6_survey_66 rfl (n := 67) rfl ?_
            refine j_dup2 C dX6_survey_67 rfl rfl (n := 68) rfl ?_
            refine j_iald C 38 (cX_38 g _) dX6_survey_68 (n := 69) rfl ?_
            refine j_iconst C dX6_survey_69 ic_1 (n := 70) rfl ?_
            refine j_iload C dX6_survey_70 rfl (n := 72) rfl ?_
            refine j_ishl C dX6_survey_72 (n := 73) rfl ?_
            refine j_ior C dX6_survey_73 (n := 74) rfl ?_
            refine j_iast C 38 (cX_38 g _) (aX_38 g _ _ _) dX6_survey_74 (n := 75) rfl ?_
            refine j_iinc C dX6_survey_75 rfl ic_1 (Nat.le_of_ble_eq_true rfl) (n := 78) rfl ?_
            refine j_goto C dX6_survey_78 (n := 21) (by decide) ?_
            exact j_to (ih _ _ _) ⟨rfl, ⟨rfl, ⟨rfl, ⟨rfl, ⟨rfl, trivial⟩⟩⟩⟩⟩
set_option maxRecDepth 20000 in
theorem j_X6_survey_10_51 {x : Fx} {g : Gl} (C : Ok x g RX6 cX6_survey 5 none) (fu : Nat) : ∀ (n : Nat) (x3 : Int32) (h : Hp), J x g cwX 5 4 (fun r : Hp => qV cwX r) 10 [some (rf g 37), some (rf g 1), some (rf g 51), some (.int x3)] [] h (X6_survey_10 fu 51 n x3 h) := by
  intro n
  induction n with
  | zero =>
    intro x3 h
    rw [X6_survey_10]
    exact j_none
  | succ n ih =>
    intro x3 h
    rw [X6_survey_10]
    refine j_iload_n C dX6_survey_10 rfl (n := 11) rfl ?_
    refine j_aload_n C dX6_survey_11 rfl (n := 12) rfl ?_
    refine gf_X6_47 C 1 (cX_1 g _) rfl dX6_survey_12 (n := 15) rfl ?_
    refine j_icmp_ge C dX6_survey_15 (tgt := 87) (n := 18) (by decide) rfl (fun q1 => ?_) (fun q1 => ?_)
    · exact j_retV C dX6_survey_87
    · refine j_iconst C dX6_survey_18 ic_0 (n := 19) rfl ?_
      refine j_istore C dX6_survey_19 (Nat.le_of_ble_eq_true rfl) (n := 21) rfl ?_
      exact j_to (j_X6_survey_21_51 C _ _ ih _ _ _ _) ⟨rfl, ⟨rfl, ⟨rfl, ⟨rfl, ⟨rfl, trivial⟩⟩⟩⟩⟩
set_option maxRecDepth 20000 in
theorem m_X6_survey_51 (l : Launch) (fu : Nat) (h : Hp) {r : Hp} (e : X6_survey fu 51 h = some r) : CT l yX6_survey cX6_survey 5 none 4 cwX (fun g => [rf g 37, rf g 1, rf g 51]) h (qV cwX r) := by
  refine ct_of (QR := (fun r : Hp => qV cwX r)) (by decide +kernel) (fun g => ⟨rfl, Nat.le_of_ble_eq_true rfl⟩) e (fun x g hl C => ?_)
  unfold X6_survey
  refine j_aload_n C dX6_survey_0 rfl (n := 1) rfl ?_
  refine gf_X6_9 C 37 (cX_37 g _) rfl dX6_survey_1 (n := 4) rfl ?_
  refine j_iconst C dX6_survey_4 ic_0 (n := 5) rfl ?_
  refine j_bnd (fun h2 q1 => ?_)
  refine j_cv C (run_S C mi_J7_fill_53178 lm_X6_41 st_J7_fill_53178 ⟨Nat.le_of_ble_eq_true rfl, Nat.le_of_ble_eq_true rfl⟩ (m_J7_fill_53178_38 _ _ _ _ q1) rfl rfl rfl (Nat.le_of_ble_eq_true rfl) dX6_survey_5) (n := 8) rfl ?_
  refine j_iconst C dX6_survey_8 ic_0 (n := 9) rfl ?_
  refine j_istore_n C dX6_survey_9 (Nat.le_of_ble_eq_true rfl) (n := 10) rfl ?_
  exact j_to (j_X6_survey_10_51 C _ _ _ _) ⟨rfl, ⟨rfl, ⟨rfl, ⟨rfl, trivial⟩⟩⟩⟩
-- X6_survey
set_option maxRecDepth 20000 in
theorem j_X6_survey_21_53 {x : Fx} {g : Gl} (C : Ok x g RX6 cX6_survey 5 none) (fu : Nat) (k10 : Int32 → Hp → Option (Hp)) (hk10 : ∀ (x3 : Int32) (h : Hp), J x g cwX 5 4 (fun r : Hp => qV cwX r) 10 [some (rf g 37), some (rf g 1), some (rf g 53), some (.int x3)] [] h (k10 x3 h)) : ∀ (n : Nat) (x3 : Int32) (x4 : Int32) (h : Hp), J x g cwX 5 4 (fun r : Hp => qV cwX r) 21 [some (rf g 37), some (rf g 1), some (rf g 53), some (.int x3), some (.int x4)] [] h (X6_survey_21 fu 53 k10 n x3 x4 h) := by
  intro n
  induction n with
  | zero =>
    intro x3 x4 h
    rw [X6_survey_21]
    exact j_none
  | succ n ih =>
    intro x3 x4 h
    rw [X6_survey_21]
    refine j_iload C dX6_survey_21 rfl (n := 23) rfl ?_
    refine j_bipush C dX6_survey_23 bp_6 (n := 25) rfl ?_
    refine j_icmp_ge C dX6_survey_25 (tgt := 81) (n := 28) (by decide) rfl (fun q1 => ?_) (fun q1 => ?_)
    · refine j_iinc C dX6_survey_81 rfl ic_1 (Nat.le_of_ble_eq_true rfl) (n := 84) rfl ?_
      refine j_goto C dX6_survey_84 (n := 10) (by decide) ?_
      exact j_to (hk10 _ _) ⟨rfl, ⟨rfl, ⟨rfl, ⟨rfl, trivial⟩⟩⟩⟩
    · refine j_iload C dX6_survey_28 rfl (n := 30) rfl ?_
      refine j_aload_n C dX6_survey_30 rfl (n := 31) rfl ?_
      refine gf_X6_30 C 53 (cX_53 g _) rfl dX6_survey_31 (n := 34) rfl ?_
      refine j_icmp_ge C dX6_survey_34 (tgt := 81) (n := 37) (by decide) rfl (fun q2 => ?_) (fun q2 => ?_)
      · refine j_iinc C dX6_survey_81 rfl ic_1 (Nat.le_of_ble_eq_true rfl) (n := 84) rfl ?_
        refine j_goto C dX6_survey_84 (n := 10) (by decide) ?_
        exact j_to (hk10 _ _) ⟨rfl, ⟨rfl, ⟨rfl, ⟨rfl, trivial⟩⟩⟩⟩
      · refine j_aload_n C dX6_survey_37 rfl (n := 38) rfl ?_
        refine j_iload_n C dX6_survey_38 rfl (n := 39) rfl ?_
        refine j_bnd (fun r4 q3 => ?_)
        refine j_cz C (run_V C mi_X1_isHead lm_X6_52 iv_X1_isHead ⟨Nat.le_of_ble_eq_true rfl, Nat.le_of_ble_eq_true rfl⟩ (m_X1_isHead _ _ _ _ q3) (cX_1 g _) rfl rfl rfl rfl (Nat.le_of_ble_eq_true rfl) dX6_survey_39) (n := 42) rfl (fun b5 => ?_)
        refine j_if_eq C dX6_survey_42 (tgt := 81) (n := 45) (by decide) rfl (fun q6 => ?_) (fun q6 => ?_)
        · refine j_iinc C dX6_survey_81 rfl ic_1 (Nat.le_of_ble_eq_true rfl) (n := 84) rfl ?_
          refine j_goto C dX6_survey_84 (n := 10) (by decide) ?_
          exact j_to (hk10 _ _) ⟨rfl, ⟨rfl, ⟨rfl, ⟨rfl, trivial⟩⟩⟩⟩
        · refine j_aload_n C dX6_survey_45 rfl (n := 46) rfl ?_
          refine j_iload_n C dX6_survey_46 rfl (n := 47) rfl ?_
          refine j_iload C dX6_survey_47 rfl (n := 49) rfl ?_
          refine j_bnd (fun r8 q7 => ?_)
          refine j_ci C (run_V C mi_X1_likeTo lm_X6_56 iv_X1_likeTo ⟨Nat.le_of_ble_eq_true rfl, Nat.le_of_ble_eq_true rfl⟩ (m_X1_likeTo _ _ _ _ q7) (cX_1 g _) rfl rfl rfl rfl (Nat.le_of_ble_eq_true rfl) dX6_survey_49) (n := 52) rfl ?_
          refine j_aload_n C dX6_survey_52 rfl (n := 53) rfl ?_
          refine gf_X6_59 C 53 (cX_53 g _) rfl dX6_survey_53 (n := 56) rfl ?_
          refine j_iload C dX6_survey_56 rfl (n := 58) rfl ?_
          refine j_iald C 54 (cX_54 g _) dX6_survey_58 (n := 59) rfl ?_
          refine j_icmp_ne C dX6_survey_59 (tgt := 75) (n := 62) (by decide) rfl (fun q10 => ?_) (fun q10 => ?_)
          · refine j_iinc C dX6_survey_75 rfl ic_1 (Nat.le_of_ble_eq_true rfl) (n := 78) rfl ?_
            refine j_goto C dX6_survey_78 (n := 21) (by decide) ?_
            exact j_to (ih _ _ _) ⟨rfl, ⟨rfl, ⟨rfl, ⟨rfl, ⟨rfl, trivial⟩⟩⟩⟩⟩
          · refine j_aload_n C dX6_survey_62 rfl (n := 63) rfl ?_
            refine gf_X6_9 C 37 (cX_37 g _) rfl dX6_survey_63 (n := 66) rfl ?_
            refine j_iload_n C dX6_survey_66 rfl (n := 67) rfl ?_
            refine j_dup2 C dX6_survey_67 rfl rfl (n := 68) rfl ?_
            refine j_iald C 38 (cX_38 g _) dX6_survey_68 (n := 69) rfl ?_
            refine j_iconst C dX6_survey_69 ic_1 (n := 70) rfl ?_
            refine j_iload C dX6_survey_70 rfl (n := 72) rfl ?_
            refine j_ishl C dX6_survey_72 (n := 73) rfl ?_
            refine j_ior C dX6_survey_73 (n := 74) rfl ?_
            refine j_iast C 38 (cX_38 g _) (aX_38 g _ _ _) dX6_survey_74 (n := 75) rfl ?_
            refine j_iinc C dX6_survey_75 rfl ic_1 (Nat.le_of_ble_eq_true rfl) (n := 78) rfl ?_
            refine j_goto C dX6_survey_78 (n := 21) (by decide) ?_
            exact j_to (ih _ _ _) ⟨rfl, ⟨rfl, ⟨rfl, ⟨rfl, ⟨rfl, trivial⟩⟩⟩⟩⟩
set_option maxRecDepth 20000 in
theorem j_X6_survey_10_53 {x : Fx} {g : Gl} (C : Ok x g RX6 cX6_survey 5 none) (fu : Nat) : ∀ (n : Nat) (x3 : Int32) (h : Hp), J x g cwX 5 4 (fun r : Hp => qV cwX r) 10 [some (rf g 37), some (rf g 1), some (rf g 53), some (.int x3)] [] h (X6_survey_10 fu 53 n x3 h) := by
  intro n
  induction n with
  | zero =>
    intro x3 h
    rw [X6_survey_10]
    exact j_none
  | succ n ih =>
    intro x3 h
    rw [X6_survey_10]
    refine j_iload_n C dX6_survey_10 rfl (n := 11) rfl ?_
    refine j_aload_n C dX6_survey_11 rfl (n := 12) rfl ?_
    refine gf_X6_47 C 1 (cX_1 g _) rfl dX6_survey_12 (n := 15) rfl ?_
    refine j_icmp_ge C dX6_survey_15 (tgt := 87) (n := 18) (by decide) rfl (fun q1 => ?_) (fun q1 => ?_)
    · exact j_retV C dX6_survey_87
    · refine j_iconst C dX6_survey_18 ic_0 (n := 19) rfl ?_
      refine j_istore C dX6_survey_19 (Nat.le_of_ble_eq_true rfl) (n := 21) rfl ?_
      exact j_to (j_X6_survey_21_53 C _ _ ih _ _ _ _) ⟨rfl, ⟨rfl, ⟨rfl, ⟨rfl, ⟨rfl, trivial⟩⟩⟩⟩⟩
set_option maxRecDepth 20000 in
theorem m_X6_survey_53 (l : Launch) (fu : Nat) (h : Hp) {r : Hp} (e : X6_survey fu 53 h = some r) : CT l yX6_survey cX6_survey 5 none 4 cwX (fun g => [rf g 37, rf g 1, rf g 53]) h (qV cwX r) := by
  refine ct_of (QR := (fun r : Hp => qV cwX r)) (by decide +kernel) (fun g => ⟨rfl, Nat.le_of_ble_eq_true rfl⟩) e (fun x g hl C => ?_)
  unfold X6_survey
  refine j_aload_n C dX6_survey_0 rfl (n := 1) rfl ?_
  refine gf_X6_9 C 37 (cX_37 g _) rfl dX6_survey_1 (n := 4) rfl ?_
  refine j_iconst C dX6_survey_4 ic_0 (n := 5) rfl ?_
  refine j_bnd (fun h2 q1 => ?_)
  refine j_cv C (run_S C mi_J7_fill_53178 lm_X6_41 st_J7_fill_53178 ⟨Nat.le_of_ble_eq_true rfl, Nat.le_of_ble_eq_true rfl⟩ (m_J7_fill_53178_38 _ _ _ _ q1) rfl rfl rfl (Nat.le_of_ble_eq_true rfl) dX6_survey_5) (n := 8) rfl ?_
  refine j_iconst C dX6_survey_8 ic_0 (n := 9) rfl ?_
  refine j_istore_n C dX6_survey_9 (Nat.le_of_ble_eq_true rfl) (n := 10) rfl ?_
  exact j_to (j_X6_survey_10_53 C _ _ _ _) ⟨rfl, ⟨rfl, ⟨rfl, ⟨rfl, trivial⟩⟩⟩⟩
-- X6_facesOf
set_option maxRecDepth 20000 in
theorem m_X6_facesOf_47 (l : Launch) (h : Hp) : CT l yX6_facesOf cX6_facesOf 1 (some .int) 1 cwX (fun g => [rf g 47]) h (qI cwX (X6_facesOf 47 h) h) := by
  refine ct_of (QR := (fun r : Int32 => qI cwX r h)) (by decide +kernel) (fun g => ⟨rfl, Nat.le_of_ble_eq_true rfl⟩) (X6_facesOf_e 47 h) (fun x g hl C => ?_)
  unfold X6_facesOf_o
  refine j_iconst C dX6_facesOf_0 ic_1 (n := 1) rfl ?_
  refine j_aload_n C dX6_facesOf_1 rfl (n := 2) rfl ?_
  refine gf_X6_30 C 47 (cX_47 g _) rfl dX6_facesOf_2 (n := 5) rfl ?_
  refine j_bipush C dX6_facesOf_5 bp_6 (n := 7) rfl ?_
  refine j_mmin C lm_X6_36 (Nat.le_of_ble_eq_true rfl) (Nat.le_of_ble_eq_true rfl) dX6_facesOf_7 (n := 10) rfl ?_
  refine j_ishl C dX6_facesOf_10 (n := 11) rfl ?_
  refine j_iconst C dX6_facesOf_11 ic_1 (n := 12) rfl ?_
  refine j_isub C dX6_facesOf_12 (n := 13) rfl ?_
  exact j_ret C dX6_facesOf_13
-- X6_facesOf
set_option maxRecDepth 20000 in
theorem m_X6_facesOf_49 (l : Launch) (h : Hp) : CT l yX6_facesOf cX6_facesOf 1 (some .int) 1 cwX (fun g => [rf g 49]) h (qI cwX (X6_facesOf 49 h) h) := by
  refine ct_of (QR := (fun r : Int32 => qI cwX r h)) (by decide +kernel) (fun g => ⟨rfl, Nat.le_of_ble_eq_true rfl⟩) (X6_facesOf_e 49 h) (fun x g hl C => ?_)
  unfold X6_facesOf_o
  refine j_iconst C dX6_facesOf_0 ic_1 (n := 1) rfl ?_
  refine j_aload_n C dX6_facesOf_1 rfl (n := 2) rfl ?_
  refine gf_X6_30 C 49 (cX_49 g _) rfl dX6_facesOf_2 (n := 5) rfl ?_
  refine j_bipush C dX6_facesOf_5 bp_6 (n := 7) rfl ?_
  refine j_mmin C lm_X6_36 (Nat.le_of_ble_eq_true rfl) (Nat.le_of_ble_eq_true rfl) dX6_facesOf_7 (n := 10) rfl ?_
  refine j_ishl C dX6_facesOf_10 (n := 11) rfl ?_
  refine j_iconst C dX6_facesOf_11 ic_1 (n := 12) rfl ?_
  refine j_isub C dX6_facesOf_12 (n := 13) rfl ?_
  exact j_ret C dX6_facesOf_13
-- X6_facesOf
set_option maxRecDepth 20000 in
theorem m_X6_facesOf_51 (l : Launch) (h : Hp) : CT l yX6_facesOf cX6_facesOf 1 (some .int) 1 cwX (fun g => [rf g 51]) h (qI cwX (X6_facesOf 51 h) h) := by
  refine ct_of (QR := (fun r : Int32 => qI cwX r h)) (by decide +kernel) (fun g => ⟨rfl, Nat.le_of_ble_eq_true rfl⟩) (X6_facesOf_e 51 h) (fun x g hl C => ?_)
  unfold X6_facesOf_o
  refine j_iconst C dX6_facesOf_0 ic_1 (n := 1) rfl ?_
  refine j_aload_n C dX6_facesOf_1 rfl (n := 2) rfl ?_
  refine gf_X6_30 C 51 (cX_51 g _) rfl dX6_facesOf_2 (n := 5) rfl ?_
  refine j_bipush C dX6_facesOf_5 bp_6 (n := 7) rfl ?_
  refine j_mmin C lm_X6_36 (Nat.le_of_ble_eq_true rfl) (Nat.le_of_ble_eq_true rfl) dX6_facesOf_7 (n := 10) rfl ?_
  refine j_ishl C dX6_facesOf_10 (n := 11) rfl ?_
  refine j_iconst C dX6_facesOf_11 ic_1 (n := 12) rfl ?_
  refine j_isub C dX6_facesOf_12 (n := 13) rfl ?_
  exact j_ret C dX6_facesOf_13
-- X6_facesOf
set_option maxRecDepth 20000 in
theorem m_X6_facesOf_53 (l : Launch) (h : Hp) : CT l yX6_facesOf cX6_facesOf 1 (some .int) 1 cwX (fun g => [rf g 53]) h (qI cwX (X6_facesOf 53 h) h) := by
  refine ct_of (QR := (fun r : Int32 => qI cwX r h)) (by decide +kernel) (fun g => ⟨rfl, Nat.le_of_ble_eq_true rfl⟩) (X6_facesOf_e 53 h) (fun x g hl C => ?_)
  unfold X6_facesOf_o
  refine j_iconst C dX6_facesOf_0 ic_1 (n := 1) rfl ?_
  refine j_aload_n C dX6_facesOf_1 rfl (n := 2) rfl ?_
  refine gf_X6_30 C 53 (cX_53 g _) rfl dX6_facesOf_2 (n := 5) rfl ?_
  refine j_bipush C dX6_facesOf_5 bp_6 (n := 7) rfl ?_
  refine j_mmin C lm_X6_36 (Nat.le_of_ble_eq_true rfl) (Nat.le_of_ble_eq_true rfl) dX6_facesOf_7 (n := 10) rfl ?_
  refine j_ishl C dX6_facesOf_10 (n := 11) rfl ?_
  refine j_iconst C dX6_facesOf_11 ic_1 (n := 12) rfl ?_
  refine j_isub C dX6_facesOf_12 (n := 13) rfl ?_
  exact j_ret C dX6_facesOf_13
-- X6_offer
set_option maxRecDepth 20000 in
theorem j_X6_offer_9 {x : Fx} {g : Gl} (C : Ok x g RX6 cX6_offer 5 none) (fu : Nat) (k2 : Int32 → Int32 → Int32 → Hp → Option (Hp)) (hk2 : ∀ (x1 : Int32) (x2 : Int32) (x3 : Int32) (h : Hp), J x g cwX 5 0 (fun r : Hp => qV cwX r) 2 [some (rf g 37), some (.int x1), some (.int x2), some (.int x3)] [] h (k2 x1 x2 x3 h)) : ∀ (n : Nat) (x1 : Int32) (x2 : Int32) (x3 : Int32) (x4 : Int32) (h : Hp), J x g cwX 5 0 (fun r : Hp => qV cwX r) 9 [some (rf g 37), some (.int x1), some (.int x2), some (.int x3), some (.int x4)] [] h (X6_offer_9 fu k2 n x1 x2 x3 x4 h) := by
  intro n
  induction n with
  | zero =>
    intro x1 x2 x3 x4 h
    rw [X6_offer_9]
    exact j_none
  | succ n ih =>
    intro x1 x2 x3 x4 h
    rw [X6_offer_9]
    refine j_iload C dX6_offer_9 rfl (n := 11) rfl ?_
    refine j_bipush C dX6_offer_11 bp_6 (n := 13) rfl ?_
    refine j_icmp_ge C dX6_offer_13 (tgt := 63) (n := 16) (by decide) rfl (fun q1 => ?_) (fun q1 => ?_)
    · refine j_iinc C dX6_offer_63 rfl ic_m1 (Nat.le_of_ble_eq_true rfl) (n := 66) rfl ?_
      refine j_goto C dX6_offer_66 (n := 2) (by decide) ?_
      exact j_to (hk2 _ _ _ _) ⟨rfl, ⟨rfl, ⟨rfl, ⟨rfl, trivial⟩⟩⟩⟩
    · refine j_iload_n C dX6_offer_16 rfl (n := 17) rfl ?_
      refine j_iload_n C dX6_offer_17 rfl (n := 18) rfl ?_
      refine j_iconst C dX6_offer_18 ic_m1 (n := 19) rfl ?_
      refine j_ixor C dX6_offer_19 (n := 20) rfl ?_
      refine j_iand C dX6_offer_20 (n := 21) rfl ?_
      refine j_if_ne C dX6_offer_21 (tgt := 63) (n := 24) (by decide) rfl (fun q2 => ?_) (fun q2 => ?_)
      · refine j_iinc C dX6_offer_63 rfl ic_m1 (Nat.le_of_ble_eq_true rfl) (n := 66) rfl ?_
        refine j_goto C dX6_offer_66 (n := 2) (by decide) ?_
        exact j_to (hk2 _ _ _ _) ⟨rfl, ⟨rfl, ⟨rfl, ⟨rfl, trivial⟩⟩⟩⟩
      · refine j_iload_n C dX6_offer_24 rfl (n := 25) rfl ?_
        refine j_iload_n C dX6_offer_25 rfl (n := 26) rfl ?_
        refine j_iand C dX6_offer_26 (n := 27) rfl ?_
        refine j_iconst C dX6_offer_27 ic_1 (n := 28) rfl ?_
        refine j_iload C dX6_offer_28 rfl (n := 30) rfl ?_
        refine j_ishl C dX6_offer_30 (n := 31) rfl ?_
        refine j_iand C dX6_offer_31 (n := 32) rfl ?_
        refine j_if_eq C dX6_offer_32 (tgt := 57) (n := 35) (by decide) rfl (fun q3 => ?_) (fun q3 => ?_)
        · refine j_iinc C dX6_offer_57 rfl ic_1 (Nat.le_of_ble_eq_true rfl) (n := 60) rfl ?_
          refine j_goto C dX6_offer_60 (n := 9) (by decide) ?_
          exact j_to (ih _ _ _ _ _) ⟨rfl, ⟨rfl, ⟨rfl, ⟨rfl, ⟨rfl, trivial⟩⟩⟩⟩⟩
        · refine j_aload_n C dX6_offer_35 rfl (n := 36) rfl ?_
          refine gf_X6_15 C 37 (cX_37 g _) rfl dX6_offer_36 (n := 39) rfl ?_
          refine j_iload_n C dX6_offer_39 rfl (n := 40) rfl ?_
          refine j_dup2 C dX6_offer_40 rfl rfl (n := 41) rfl ?_
          refine j_iald C 39 (cX_39 g _) dX6_offer_41 (n := 42) rfl ?_
          refine j_aload_n C dX6_offer_42 rfl (n := 43) rfl ?_
          refine gf_X6_15 C 37 (cX_37 g _) rfl dX6_offer_43 (n := 46) rfl ?_
          refine j_iload_n C dX6_offer_46 rfl (n := 47) rfl ?_
          refine j_iconst C dX6_offer_47 ic_1 (n := 48) rfl ?_
          refine j_iload C dX6_offer_48 rfl (n := 50) rfl ?_
          refine j_ishl C dX6_offer_50 (n := 51) rfl ?_
          refine j_iconst C dX6_offer_51 ic_m1 (n := 52) rfl ?_
          refine j_ixor C dX6_offer_52 (n := 53) rfl ?_
          refine j_iand C dX6_offer_53 (n := 54) rfl ?_
          refine j_iald C 39 (cX_39 g _) dX6_offer_54 (n := 55) rfl ?_
          refine j_iadd C dX6_offer_55 (n := 56) rfl ?_
          refine j_iast C 39 (cX_39 g _) (aX_39 g _ _ _) dX6_offer_56 (n := 57) rfl ?_
          refine j_iinc C dX6_offer_57 rfl ic_1 (Nat.le_of_ble_eq_true rfl) (n := 60) rfl ?_
          refine j_goto C dX6_offer_60 (n := 9) (by decide) ?_
          exact j_to (ih _ _ _ _ _) ⟨rfl, ⟨rfl, ⟨rfl, ⟨rfl, ⟨rfl, trivial⟩⟩⟩⟩⟩
set_option maxRecDepth 20000 in
theorem j_X6_offer_2 {x : Fx} {g : Gl} (C : Ok x g RX6 cX6_offer 5 none) (fu : Nat) : ∀ (n : Nat) (x1 : Int32) (x2 : Int32) (x3 : Int32) (h : Hp), J x g cwX 5 0 (fun r : Hp => qV cwX r) 2 [some (rf g 37), some (.int x1), some (.int x2), some (.int x3)] [] h (X6_offer_2 fu n x1 x2 x3 h) := by
  intro n
  induction n with
  | zero =>
    intro x1 x2 x3 h
    rw [X6_offer_2]
    exact j_none
  | succ n ih =>
    intro x1 x2 x3 h
    rw [X6_offer_2]
    refine j_iload_n C dX6_offer_2 rfl (n := 3) rfl ?_
    refine j_if_le C dX6_offer_3 (tgt := 69) (n := 6) (by decide) rfl (fun q1 => ?_) (fun q1 => ?_)
    · exact j_retV C dX6_offer_69
    · refine j_iconst C dX6_offer_6 ic_0 (n := 7) rfl ?_
      refine j_istore C dX6_offer_7 (Nat.le_of_ble_eq_true rfl) (n := 9) rfl ?_
      exact j_to (j_X6_offer_9 C _ _ ih _ _ _ _ _ _) ⟨rfl, ⟨rfl, ⟨rfl, ⟨rfl, ⟨rfl, trivial⟩⟩⟩⟩⟩
set_option maxRecDepth 20000 in
theorem m_X6_offer (l : Launch) (fu : Nat) (x1 : Int32) (x2 : Int32) (h : Hp) {r : Hp} (e : X6_offer fu x1 x2 h = some r) : CT l yX6_offer cX6_offer 5 none 0 cwX (fun g => [rf g 37, .int x1, .int x2]) h (qV cwX r) := by
  refine ct_of (QR := (fun r : Hp => qV cwX r)) (by decide +kernel) (fun g => ⟨rfl, Nat.le_of_ble_eq_true rfl⟩) e (fun x g hl C => ?_)
  unfold X6_offer
  refine j_iload_n C dX6_offer_0 rfl (n := 1) rfl ?_
  refine j_istore_n C dX6_offer_1 (Nat.le_of_ble_eq_true rfl) (n := 2) rfl ?_
  exact j_to (j_X6_offer_2 C _ _ _ _ _ _) ⟨rfl, ⟨rfl, ⟨rfl, ⟨rfl, trivial⟩⟩⟩⟩
-- X6_waysFor
set_option maxRecDepth 20000 in
theorem j_X6_waysFor_17 {x : Fx} {g : Gl} (C : Ok x g RX6 cX6_waysFor 4 (some .int)) (fu : Nat) : ∀ (n : Nat) (x1 : Int32) (x2 : Int32) (x3 : Int32) (h : Hp), J x g cwX 4 1 (fun r : Int32 × Hp => qI cwX r.1 r.2) 17 [some (rf g 37), some (.int x1), some (.int x2), some (.int x3)] [] h (X6_waysFor_17 fu n x1 x2 x3 h) := by
  intro n
  induction n with
  | zero =>
    intro x1 x2 x3 h
    rw [X6_waysFor_17]
    exact j_none
  | succ n ih =>
    intro x1 x2 x3 h
    rw [X6_waysFor_17]
    refine j_iload_n C dX6_waysFor_17 rfl (n := 18) rfl ?_
    refine j_bipush C dX6_waysFor_18 bp_10 (n := 20) rfl ?_
    refine j_icmp_ge C dX6_waysFor_20 (tgt := 54) (n := 23) (by decide) rfl (fun q1 => ?_) (fun q1 => ?_)
    · refine j_aload_n C dX6_waysFor_54 rfl (n := 55) rfl ?_
      refine gf_X6_15 C 37 (cX_37 g _) rfl dX6_waysFor_55 (n := 58) rfl ?_
      refine j_iload_n C dX6_waysFor_58 rfl (n := 59) rfl ?_
      refine j_iald C 39 (cX_39 g _) dX6_waysFor_59 (n := 60) rfl ?_
      exact j_retP C dX6_waysFor_60
    · refine j_iload_n C dX6_waysFor_23 rfl (n := 24) rfl ?_
      refine j_iload_n C dX6_waysFor_24 rfl (n := 25) rfl ?_
      refine j_icmp_eq C dX6_waysFor_25 (tgt := 48) (n := 28) (by decide) rfl (fun q2 => ?_) (fun q2 => ?_)
      · refine j_iinc C dX6_waysFor_48 rfl ic_1 (Nat.le_of_ble_eq_true rfl) (n := 51) rfl ?_
        refine j_goto C dX6_waysFor_51 (n := 17) (by decide) ?_
        exact j_to (ih _ _ _ _) ⟨rfl, ⟨rfl, ⟨rfl, ⟨rfl, trivial⟩⟩⟩⟩
      · refine j_aload_n C dX6_waysFor_28 rfl (n := 29) rfl ?_
        refine gf_X6_9 C 37 (cX_37 g _) rfl dX6_waysFor_29 (n := 32) rfl ?_
        refine j_iload_n C dX6_waysFor_32 rfl (n := 33) rfl ?_
        refine j_iald C 38 (cX_38 g _) dX6_waysFor_33 (n := 34) rfl ?_
        refine j_if_eq C dX6_waysFor_34 (tgt := 48) (n := 37) (by decide) rfl (fun q3 => ?_) (fun q3 => ?_)
        · refine j_iinc C dX6_waysFor_48 rfl ic_1 (Nat.le_of_ble_eq_true rfl) (n := 51) rfl ?_
          refine j_goto C dX6_waysFor_51 (n := 17) (by decide) ?_
          exact j_to (ih _ _ _ _) ⟨rfl, ⟨rfl, ⟨rfl, ⟨rfl, trivial⟩⟩⟩⟩
        · refine j_aload_n C dX6_waysFor_37 rfl (n := 38) rfl ?_
          refine j_iload_n C dX6_waysFor_38 rfl (n := 39) rfl ?_
          refine j_aload_n C dX6_waysFor_39 rfl (n := 40) rfl ?_
          refine gf_X6_9 C 37 (cX_37 g _) rfl dX6_waysFor_40 (n := 43) rfl ?_
          refine j_iload_n C dX6_waysFor_43 rfl (n := 44) rfl ?_
          refine j_iald C 38 (cX_38 g _) dX6_waysFor_44 (n := 45) rfl ?_
          refine j_bnd (fun h5 q4 => ?_)
          refine j_cv C (run_V C mi_X6_offer lm_X6_62 iv_X6_offer ⟨Nat.le_of_ble_eq_true rfl, Nat.le_of_ble_eq_true rfl⟩ (m_X6_offer _ _ _ _ _ q4) (cX_37 g _) rfl rfl rfl rfl (Nat.le_of_ble_eq_true rfl) dX6_waysFor_45) (n := 48) rfl ?_
          refine j_iinc C dX6_waysFor_48 rfl ic_1 (Nat.le_of_ble_eq_true rfl) (n := 51) rfl ?_
          refine j_goto C dX6_waysFor_51 (n := 17) (by decide) ?_
          exact j_to (ih _ _ _ _) ⟨rfl, ⟨rfl, ⟨rfl, ⟨rfl, trivial⟩⟩⟩⟩
set_option maxRecDepth 20000 in
theorem m_X6_waysFor (l : Launch) (fu : Nat) (x1 : Int32) (x2 : Int32) (h : Hp) {r : Int32 × Hp} (e : X6_waysFor fu x1 x2 h = some r) : CT l yX6_waysFor cX6_waysFor 4 (some .int) 1 cwX (fun g => [rf g 37, .int x1, .int x2]) h (qI cwX r.1 r.2) := by
  refine ct_of (QR := (fun r : Int32 × Hp => qI cwX r.1 r.2)) (by decide +kernel) (fun g => ⟨rfl, Nat.le_of_ble_eq_true rfl⟩) e (fun x g hl C => ?_)
  unfold X6_waysFor
  refine j_aload_n C dX6_waysFor_0 rfl (n := 1) rfl ?_
  refine gf_X6_15 C 37 (cX_37 g _) rfl dX6_waysFor_1 (n := 4) rfl ?_
  refine j_iconst C dX6_waysFor_4 ic_0 (n := 5) rfl ?_
  refine j_bnd (fun h2 q1 => ?_)
  refine j_cv C (run_S C mi_J7_fill_53178 lm_X6_41 st_J7_fill_53178 ⟨Nat.le_of_ble_eq_true rfl, Nat.le_of_ble_eq_true rfl⟩ (m_J7_fill_53178_39 _ _ _ _ q1) rfl rfl rfl (Nat.le_of_ble_eq_true rfl) dX6_waysFor_5) (n := 8) rfl ?_
  refine j_aload_n C dX6_waysFor_8 rfl (n := 9) rfl ?_
  refine gf_X6_15 C 37 (cX_37 g _) rfl dX6_waysFor_9 (n := 12) rfl ?_
  refine j_iconst C dX6_waysFor_12 ic_0 (n := 13) rfl ?_
  refine j_iconst C dX6_waysFor_13 ic_1 (n := 14) rfl ?_
  refine j_iastL C 39 (cX_39 g _) (aX_39 g _ _ _) ir_0_64 dX6_waysFor_14 (n := 15) rfl ?_
  refine j_iconst C dX6_waysFor_15 ic_0 (n := 16) rfl ?_
  refine j_istore_n C dX6_waysFor_16 (Nat.le_of_ble_eq_true rfl) (n := 17) rfl ?_
  exact j_to (j_X6_waysFor_17 C _ _ _ _ _ _) ⟨rfl, ⟨rfl, ⟨rfl, ⟨rfl, trivial⟩⟩⟩⟩
-- X6_allWays
set_option maxRecDepth 20000 in
theorem m_X6_allWays_47 (l : Launch) (fu : Nat) (h : Hp) {r : Int32 × Hp} (e : X6_allWays fu 47 h = some r) : CT l yX6_allWays cX6_allWays 3 (some .int) 5 cwX (fun g => [rf g 37, rf g 1, rf g 47]) h (qI cwX r.1 r.2) := by
  refine ct_of (QR := (fun r : Int32 × Hp => qI cwX r.1 r.2)) (by decide +kernel) (fun g => ⟨rfl, Nat.le_of_ble_eq_true rfl⟩) e (fun x g hl C => ?_)
  unfold X6_allWays
  refine j_aload_n C dX6_allWays_0 rfl (n := 1) rfl ?_
  refine j_aload_n C dX6_allWays_1 rfl (n := 2) rfl ?_
  refine j_aload_n C dX6_allWays_2 rfl (n := 3) rfl ?_
  refine j_bnd (fun h2 q1 => ?_)
  refine j_cv C (run_V C mi_X6_survey lm_X6_18 iv_X6_survey ⟨Nat.le_of_ble_eq_true rfl, Nat.le_of_ble_eq_true rfl⟩ (m_X6_survey_47 _ _ _ q1) (cX_37 g _) rfl rfl rfl rfl (Nat.le_of_ble_eq_true rfl) dX6_allWays_3) (n := 6) rfl ?_
  refine j_aload_n C dX6_allWays_6 rfl (n := 7) rfl ?_
  refine j_aload_n C dX6_allWays_7 rfl (n := 8) rfl ?_
  refine j_ci C (run_S C mi_X6_facesOf lm_X6_22 st_X6_facesOf ⟨Nat.le_of_ble_eq_true rfl, Nat.le_of_ble_eq_true rfl⟩ (m_X6_facesOf_47 _ _) rfl rfl rfl (Nat.le_of_ble_eq_true rfl) dX6_allWays_8) (n := 11) rfl ?_
  refine j_iconst C dX6_allWays_11 ic_m1 (n := 12) rfl ?_
  refine j_bnd (fun r4 q3 => ?_)
  refine j_ci C (run_V C mi_X6_waysFor lm_X6_26 iv_X6_waysFor ⟨Nat.le_of_ble_eq_true rfl, Nat.le_of_ble_eq_true rfl⟩ (m_X6_waysFor _ _ _ _ _ q3) (cX_37 g _) rfl rfl rfl rfl (Nat.le_of_ble_eq_true rfl) dX6_allWays_12) (n := 15) rfl ?_
  exact j_retP C dX6_allWays_15
-- X6_allWays
set_option maxRecDepth 20000 in
theorem m_X6_allWays_49 (l : Launch) (fu : Nat) (h : Hp) {r : Int32 × Hp} (e : X6_allWays fu 49 h = some r) : CT l yX6_allWays cX6_allWays 3 (some .int) 5 cwX (fun g => [rf g 37, rf g 1, rf g 49]) h (qI cwX r.1 r.2) := by
  refine ct_of (QR := (fun r : Int32 × Hp => qI cwX r.1 r.2)) (by decide +kernel) (fun g => ⟨rfl, Nat.le_of_ble_eq_true rfl⟩) e (fun x g hl C => ?_)
  unfold X6_allWays
  refine j_aload_n C dX6_allWays_0 rfl (n := 1) rfl ?_
  refine j_aload_n C dX6_allWays_1 rfl (n := 2) rfl ?_
  refine j_aload_n C dX6_allWays_2 rfl (n := 3) rfl ?_
  refine j_bnd (fun h2 q1 => ?_)
  refine j_cv C (run_V C mi_X6_survey lm_X6_18 iv_X6_survey ⟨Nat.le_of_ble_eq_true rfl, Nat.le_of_ble_eq_true rfl⟩ (m_X6_survey_49 _ _ _ q1) (cX_37 g _) rfl rfl rfl rfl (Nat.le_of_ble_eq_true rfl) dX6_allWays_3) (n := 6) rfl ?_
  refine j_aload_n C dX6_allWays_6 rfl (n := 7) rfl ?_
  refine j_aload_n C dX6_allWays_7 rfl (n := 8) rfl ?_
  refine j_ci C (run_S C mi_X6_facesOf lm_X6_22 st_X6_facesOf ⟨Nat.le_of_ble_eq_true rfl, Nat.le_of_ble_eq_true rfl⟩ (m_X6_facesOf_49 _ _) rfl rfl rfl (Nat.le_of_ble_eq_true rfl) dX6_allWays_8) (n := 11) rfl ?_
  refine j_iconst C dX6_allWays_11 ic_m1 (n := 12) rfl ?_
  refine j_bnd (fun r4 q3 => ?_)
  refine j_ci C (run_V C mi_X6_waysFor lm_X6_26 iv_X6_waysFor ⟨Nat.le_of_ble_eq_true rfl, Nat.le_of_ble_eq_true rfl⟩ (m_X6_waysFor _ _ _ _ _ q3) (cX_37 g _) rfl rfl rfl rfl (Nat.le_of_ble_eq_true rfl) dX6_allWays_12) (n := 15) rfl ?_
  exact j_retP C dX6_allWays_15
-- X6_allWays
set_option maxRecDepth 20000 in
theorem m_X6_allWays_51 (l : Launch) (fu : Nat) (h : Hp) {r : Int32 × Hp} (e : X6_allWays fu 51 h = some r) : CT l yX6_allWays cX6_allWays 3 (some .int) 5 cwX (fun g => [rf g 37, rf g 1, rf g 51]) h (qI cwX r.1 r.2) := by
  refine ct_of (QR := (fun r : Int32 × Hp => qI cwX r.1 r.2)) (by decide +kernel) (fun g => ⟨rfl, Nat.le_of_ble_eq_true rfl⟩) e (fun x g hl C => ?_)
  unfold X6_allWays
  refine j_aload_n C dX6_allWays_0 rfl (n := 1) rfl ?_
  refine j_aload_n C dX6_allWays_1 rfl (n := 2) rfl ?_
  refine j_aload_n C dX6_allWays_2 rfl (n := 3) rfl ?_
  refine j_bnd (fun h2 q1 => ?_)
  refine j_cv C (run_V C mi_X6_survey lm_X6_18 iv_X6_survey ⟨Nat.le_of_ble_eq_true rfl, Nat.le_of_ble_eq_true rfl⟩ (m_X6_survey_51 _ _ _ q1) (cX_37 g _) rfl rfl rfl rfl (Nat.le_of_ble_eq_true rfl) dX6_allWays_3) (n := 6) rfl ?_
  refine j_aload_n C dX6_allWays_6 rfl (n := 7) rfl ?_
  refine j_aload_n C dX6_allWays_7 rfl (n := 8) rfl ?_
  refine j_ci C (run_S C mi_X6_facesOf lm_X6_22 st_X6_facesOf ⟨Nat.le_of_ble_eq_true rfl, Nat.le_of_ble_eq_true rfl⟩ (m_X6_facesOf_51 _ _) rfl rfl rfl (Nat.le_of_ble_eq_true rfl) dX6_allWays_8) (n := 11) rfl ?_
  refine j_iconst C dX6_allWays_11 ic_m1 (n := 12) rfl ?_
  refine j_bnd (fun r4 q3 => ?_)
  refine j_ci C (run_V C mi_X6_waysFor lm_X6_26 iv_X6_waysFor ⟨Nat.le_of_ble_eq_true rfl, Nat.le_of_ble_eq_true rfl⟩ (m_X6_waysFor _ _ _ _ _ q3) (cX_37 g _) rfl rfl rfl rfl (Nat.le_of_ble_eq_true rfl) dX6_allWays_12) (n := 15) rfl ?_
  exact j_retP C dX6_allWays_15
-- X6_allWays
set_option maxRecDepth 20000 in
theorem m_X6_allWays_53 (l : Launch) (fu : Nat) (h : Hp) {r : Int32 × Hp} (e : X6_allWays fu 53 h = some r) : CT l yX6_allWays cX6_allWays 3 (some .int) 5 cwX (fun g => [rf g 37, rf g 1, rf g 53]) h (qI cwX r.1 r.2) := by
  refine ct_of (QR := (fun r : Int32 × Hp => qI cwX r.1 r.2)) (by decide +kernel) (fun g => ⟨rfl, Nat.le_of_ble_eq_true rfl⟩) e (fun x g hl C => ?_)
  unfold X6_allWays
  refine j_aload_n C dX6_allWays_0 rfl (n := 1) rfl ?_
  refine j_aload_n C dX6_allWays_1 rfl (n := 2) rfl ?_
  refine j_aload_n C dX6_allWays_2 rfl (n := 3) rfl ?_
  refine j_bnd (fun h2 q1 => ?_)
  refine j_cv C (run_V C mi_X6_survey lm_X6_18 iv_X6_survey ⟨Nat.le_of_ble_eq_true rfl, Nat.le_of_ble_eq_true rfl⟩ (m_X6_survey_53 _ _ _ q1) (cX_37 g _) rfl rfl rfl rfl (Nat.le_of_ble_eq_true rfl) dX6_allWays_3) (n := 6) rfl ?_
  refine j_aload_n C dX6_allWays_6 rfl (n := 7) rfl ?_
  refine j_aload_n C dX6_allWays_7 rfl (n := 8) rfl ?_
  refine j_ci C (run_S C mi_X6_facesOf lm_X6_22 st_X6_facesOf ⟨Nat.le_of_ble_eq_true rfl, Nat.le_of_ble_eq_true rfl⟩ (m_X6_facesOf_53 _ _) rfl rfl rfl (Nat.le_of_ble_eq_true rfl) dX6_allWays_8) (n := 11) rfl ?_
  refine j_iconst C dX6_allWays_11 ic_m1 (n := 12) rfl ?_
  refine j_bnd (fun r4 q3 => ?_)
  refine j_ci C (run_V C mi_X6_waysFor lm_X6_26 iv_X6_waysFor ⟨Nat.le_of_ble_eq_true rfl, Nat.le_of_ble_eq_true rfl⟩ (m_X6_waysFor _ _ _ _ _ q3) (cX_37 g _) rfl rfl rfl rfl (Nat.le_of_ble_eq_true rfl) dX6_allWays_12) (n := 15) rfl ?_
  exact j_retP C dX6_allWays_15
-- X7_fits
set_option maxRecDepth 20000 in
theorem m_X7_fits (l : Launch) (fu : Nat) (x1 : Int32) (h : Hp) {r : Int32 × Hp} (e : X7_fits fu x1 h = some r) : CT l yX7_fits cX7_fits 2 (some .int) 6 cwX (fun g => [rf g 0, .int x1]) h (qI cwX r.1 r.2) := by
  refine ct_of (QR := (fun r : Int32 × Hp => qI cwX r.1 r.2)) (by decide +kernel) (fun g => ⟨rfl, Nat.le_of_ble_eq_true rfl⟩) e (fun x g hl C => ?_)
  unfold X7_fits
  refine j_iload_n C dX7_fits_0 rfl (n := 1) rfl ?_
  refine j_cz C (run_S C mi_X7_isSheet lm_X7_229 st_X7_isSheet ⟨Nat.le_of_ble_eq_true rfl, Nat.le_of_ble_eq_true rfl⟩ (m_X7_isSheet _ _ _) rfl rfl rfl (Nat.le_of_ble_eq_true rfl) dX7_fits_1) (n := 4) rfl (fun b1 => ?_)
  refine j_if_ne C dX7_fits_4 (tgt := 14) (n := 7) (by decide) rfl (fun q2 => ?_) (fun q2 => ?_)
  · refine j_aload_n C dX7_fits_14 rfl (n := 15) rfl ?_
    refine gf_X7_54 C 0 (cX_0 g _) rfl dX7_fits_15 (n := 18) rfl ?_
    refine j_iload_n C dX7_fits_18 rfl (n := 19) rfl ?_
    refine j_chk (fun q3 => ?_)
    rcases inR_4 q3 with rfl | rfl | rfl | rfl
    · rw [shc_0]
      refine j_aald C 46 2 (cX_46 g _) rfl (by decide) (b := g.2.1 47) rfl dX7_fits_19 rfl ?_
      refine j_cz C (run_V C mi_X4_isMissing lm_X7_232 iv_X4_isMissing ⟨Nat.le_of_ble_eq_true rfl, Nat.le_of_ble_eq_true rfl⟩ (m_X4_isMissing_47 _ _) (cX_47 g _) rfl rfl rfl rfl (Nat.le_of_ble_eq_true rfl) dX7_fits_20) (n := 23) rfl (fun b4 => ?_)
      refine j_if_eq C dX7_fits_23 (tgt := 33) (n := 26) (by decide) rfl (fun q5 => ?_) (fun q5 => ?_)
      · refine j_aload_n C dX7_fits_33 rfl (n := 34) rfl ?_
        refine gf_X7_32 C 0 (cX_0 g _) rfl dX7_fits_34 (n := 37) rfl ?_
        refine j_aload_n C dX7_fits_37 rfl (n := 38) rfl ?_
        refine gf_X7_12 C 0 (cX_0 g _) rfl dX7_fits_38 (n := 41) rfl ?_
        refine j_aload_n C dX7_fits_41 rfl (n := 42) rfl ?_
        refine gf_X7_54 C 0 (cX_0 g _) rfl dX7_fits_42 (n := 45) rfl ?_
        refine j_iload_n C dX7_fits_45 rfl (n := 46) rfl ?_
        refine j_aald C 46 2 (cX_46 g _) rfl (by decide) (b := g.2.1 47) rfl dX7_fits_46 rfl ?_
        refine j_bnd (fun r7 q6 => ?_)
        refine j_ci C (run_V C mi_X6_allWays lm_X7_237 iv_X6_allWays ⟨Nat.le_of_ble_eq_true rfl, Nat.le_of_ble_eq_true rfl⟩ (m_X6_allWays_47 _ _ _ q6) (cX_37 g _) rfl rfl rfl rfl (Nat.le_of_ble_eq_true rfl) dX7_fits_47) (n := 50) rfl ?_
        exact j_retP C dX7_fits_50
      · refine j_aload_n C dX7_fits_26 rfl (n := 27) rfl ?_
        refine j_ldc C dX7_fits_27 kc_X7_236 (n := 29) rfl ?_
        refine j_bnd (fun r10 q9 => ?_)
        refine j_ci C (run_V C mi_X7_finding lm_X7_68 iv_X7_finding ⟨Nat.le_of_ble_eq_true rfl, Nat.le_of_ble_eq_true rfl⟩ (m_X7_finding _ _ _ q9) (cX_0 g _) rfl rfl rfl rfl (Nat.le_of_ble_eq_true rfl) dX7_fits_29) (n := 32) rfl ?_
        exact j_retP C dX7_fits_32
    · rw [shc_1]
      refine j_aald C 46 2 (cX_46 g _) rfl (by decide) (b := g.2.1 49) rfl dX7_fits_19 rfl ?_
      refine j_cz C (run_V C mi_X4_isMissing lm_X7_232 iv_X4_isMissing ⟨Nat.le_of_ble_eq_true rfl, Nat.le_of_ble_eq_true rfl⟩ (m_X4_isMissing_49 _ _) (cX_49 g _) rfl rfl rfl rfl (Nat.le_of_ble_eq_true rfl) dX7_fits_20) (n := 23) rfl (fun b4 => ?_)
      refine j_if_eq C dX7_fits_23 (tgt := 33) (n := 26) (by decide) rfl (fun q5 => ?_) (fun q5 => ?_)
      · refine j_aload_n C dX7_fits_33 rfl (n := 34) rfl ?_
        refine gf_X7_32 C 0 (cX_0 g _) rfl dX7_fits_34 (n := 37) rfl ?_
        refine j_aload_n C dX7_fits_37 rfl (n := 38) rfl ?_
        refine gf_X7_12 C 0 (cX_0 g _) rfl dX7_fits_38 (n := 41) rfl ?_
        refine j_aload_n C dX7_fits_41 rfl (n := 42) rfl ?_
        refine gf_X7_54 C 0 (cX_0 g _) rfl dX7_fits_42 (n := 45) rfl ?_
        refine j_iload_n C dX7_fits_45 rfl (n := 46) rfl ?_
        refine j_aald C 46 2 (cX_46 g _) rfl (by decide) (b := g.2.1 49) rfl dX7_fits_46 rfl ?_
        refine j_bnd (fun r7 q6 => ?_)
        refine j_ci C (run_V C mi_X6_allWays lm_X7_237 iv_X6_allWays ⟨Nat.le_of_ble_eq_true rfl, Nat.le_of_ble_eq_true rfl⟩ (m_X6_allWays_49 _ _ _ q6) (cX_37 g _) rfl rfl rfl rfl (Nat.le_of_ble_eq_true rfl) dX7_fits_47) (n := 50) rfl ?_
        exact j_retP C dX7_fits_50
      · refine j_aload_n C dX7_fits_26 rfl (n := 27) rfl ?_
        refine j_ldc C dX7_fits_27 kc_X7_236 (n := 29) rfl ?_
        refine j_bnd (fun r10 q9 => ?_)
        refine j_ci C (run_V C mi_X7_finding lm_X7_68 iv_X7_finding ⟨Nat.le_of_ble_eq_true rfl, Nat.le_of_ble_eq_true rfl⟩ (m_X7_finding _ _ _ q9) (cX_0 g _) rfl rfl rfl rfl (Nat.le_of_ble_eq_true rfl) dX7_fits_29) (n := 32) rfl ?_
        exact j_retP C dX7_fits_32
    · rw [shc_2]
      refine j_aald C 46 2 (cX_46 g _) rfl (by decide) (b := g.2.1 51) rfl dX7_fits_19 rfl ?_
      refine j_cz C (run_V C mi_X4_isMissing lm_X7_232 iv_X4_isMissing ⟨Nat.le_of_ble_eq_true rfl, Nat.le_of_ble_eq_true rfl⟩ (m_X4_isMissing_51 _ _) (cX_51 g _) rfl rfl rfl rfl (Nat.le_of_ble_eq_true rfl) dX7_fits_20) (n := 23) rfl (fun b4 => ?_)
      refine j_if_eq C dX7_fits_23 (tgt := 33) (n := 26) (by decide) rfl (fun q5 => ?_) (fun q5 => ?_)
      · refine j_aload_n C dX7_fits_33 rfl (n := 34) rfl ?_
        refine gf_X7_32 C 0 (cX_0 g _) rfl dX7_fits_34 (n := 37) rfl ?_
        refine j_aload_n C dX7_fits_37 rfl (n := 38) rfl ?_
        refine gf_X7_12 C 0 (cX_0 g _) rfl dX7_fits_38 (n := 41) rfl ?_
        refine j_aload_n C dX7_fits_41 rfl (n := 42) rfl ?_
        refine gf_X7_54 C 0 (cX_0 g _) rfl dX7_fits_42 (n := 45) rfl ?_
        refine j_iload_n C dX7_fits_45 rfl (n := 46) rfl ?_
        refine j_aald C 46 2 (cX_46 g _) rfl (by decide) (b := g.2.1 51) rfl dX7_fits_46 rfl ?_
        refine j_bnd (fun r7 q6 => ?_)
        refine j_ci C (run_V C mi_X6_allWays lm_X7_237 iv_X6_allWays ⟨Nat.le_of_ble_eq_true rfl, Nat.le_of_ble_eq_true rfl⟩ (m_X6_allWays_51 _ _ _ q6) (cX_37 g _) rfl rfl rfl rfl (Nat.le_of_ble_eq_true rfl) dX7_fits_47) (n := 50) rfl ?_
        exact j_retP C dX7_fits_50
      · refine j_aload_n C dX7_fits_26 rfl (n := 27) rfl ?_
        refine j_ldc C dX7_fits_27 kc_X7_236 (n := 29) rfl ?_
        refine j_bnd (fun r10 q9 => ?_)
        refine j_ci C (run_V C mi_X7_finding lm_X7_68 iv_X7_finding ⟨Nat.le_of_ble_eq_true rfl, Nat.le_of_ble_eq_true rfl⟩ (m_X7_finding _ _ _ q9) (cX_0 g _) rfl rfl rfl rfl (Nat.le_of_ble_eq_true rfl) dX7_fits_29) (n := 32) rfl ?_
        exact j_retP C dX7_fits_32
    · rw [shc_3]
      refine j_aald C 46 2 (cX_46 g _) rfl (by decide) (b := g.2.1 53) rfl dX7_fits_19 rfl ?_
      refine j_cz C (run_V C mi_X4_isMissing lm_X7_232 iv_X4_isMissing ⟨Nat.le_of_ble_eq_true rfl, Nat.le_of_ble_eq_true rfl⟩ (m_X4_isMissing_53 _ _) (cX_53 g _) rfl rfl rfl rfl (Nat.le_of_ble_eq_true rfl) dX7_fits_20) (n := 23) rfl (fun b4 => ?_)
      refine j_if_eq C dX7_fits_23 (tgt := 33) (n := 26) (by decide) rfl (fun q5 => ?_) (fun q5 => ?_)
      · refine j_aload_n C dX7_fits_33 rfl (n := 34) rfl ?_
        refine gf_X7_32 C 0 (cX_0 g _) rfl dX7_fits_34 (n := 37) rfl ?_
        refine j_aload_n C dX7_fits_37 rfl (n := 38) rfl ?_
        refine gf_X7_12 C 0 (cX_0 g _) rfl dX7_fits_38 (n := 41) rfl ?_
        refine j_aload_n C dX7_fits_41 rfl (n := 42) rfl ?_
        refine gf_X7_54 C 0 (cX_0 g _) rfl dX7_fits_42 (n := 45) rfl ?_
        refine j_iload_n C dX7_fits_45 rfl (n := 46) rfl ?_
        refine j_aald C 46 2 (cX_46 g _) rfl (by decide) (b := g.2.1 53) rfl dX7_fits_46 rfl ?_
        refine j_bnd (fun r7 q6 => ?_)
        refine j_ci C (run_V C mi_X6_allWays lm_X7_237 iv_X6_allWays ⟨Nat.le_of_ble_eq_true rfl, Nat.le_of_ble_eq_true rfl⟩ (m_X6_allWays_53 _ _ _ q6) (cX_37 g _) rfl rfl rfl rfl (Nat.le_of_ble_eq_true rfl) dX7_fits_47) (n := 50) rfl ?_
        exact j_retP C dX7_fits_50
      · refine j_aload_n C dX7_fits_26 rfl (n := 27) rfl ?_
        refine j_ldc C dX7_fits_27 kc_X7_236 (n := 29) rfl ?_
        refine j_bnd (fun r10 q9 => ?_)
        refine j_ci C (run_V C mi_X7_finding lm_X7_68 iv_X7_finding ⟨Nat.le_of_ble_eq_true rfl, Nat.le_of_ble_eq_true rfl⟩ (m_X7_finding _ _ _ q9) (cX_0 g _) rfl rfl rfl rfl (Nat.le_of_ble_eq_true rfl) dX7_fits_29) (n := 32) rfl ?_
        exact j_retP C dX7_fits_32
  · refine j_aload_n C dX7_fits_7 rfl (n := 8) rfl ?_
    refine j_ldc C dX7_fits_8 kc_X7_67 (n := 10) rfl ?_
    refine j_bnd (fun r13 q12 => ?_)
    refine j_ci C (run_V C mi_X7_finding lm_X7_68 iv_X7_finding ⟨Nat.le_of_ble_eq_true rfl, Nat.le_of_ble_eq_true rfl⟩ (m_X7_finding _ _ _ q12) (cX_0 g _) rfl rfl rfl rfl (Nat.le_of_ble_eq_true rfl) dX7_fits_10) (n := 13) rfl ?_
    exact j_retP C dX7_fits_13
-- X6_headsFor
set_option maxRecDepth 20000 in
theorem j_X6_headsFor_24_47 {x : Fx} {g : Gl} (C : Ok x g RX6 cX6_headsFor 7 (some .int)) (fu : Nat) : ∀ (n : Nat) (x3 : Int32) (x4 : Int32) (x5 : Int32) (x6 : Int32) (h : Hp), J x g cwX 7 5 (fun r : Int32 × Hp => qI cwX r.1 r.2) 24 [some (rf g 37), none, none, some (.int x3), some (.int x4), some (.int x5), some (.int x6)] [] h (X6_headsFor_24 fu 47 n x3 x4 x5 x6 h) := by
  intro n
  induction n with
  | zero =>
    intro x3 x4 x5 x6 h
    rw [X6_headsFor_24]
    exact j_none
  | succ n ih =>
    intro x3 x4 x5 x6 h
    rw [X6_headsFor_24]
    refine j_iload C dX6_headsFor_24 rfl (n := 26) rfl ?_
    refine j_bipush C dX6_headsFor_26 bp_10 (n := 28) rfl ?_
    refine j_icmp_ge C dX6_headsFor_28 (tgt := 71) (n := 31) (by decide) rfl (fun q1 => ?_) (fun q1 => ?_)
    · refine j_iload C dX6_headsFor_71 rfl (n := 73) rfl ?_
      exact j_retP C dX6_headsFor_73
    · refine j_aload_n C dX6_headsFor_31 rfl (n := 32) rfl ?_
      refine gf_X6_9 C 37 (cX_37 g _) rfl dX6_headsFor_32 (n := 35) rfl ?_
      refine j_iload C dX6_headsFor_35 rfl (n := 37) rfl ?_
      refine j_iald C 38 (cX_38 g _) dX6_headsFor_37 (n := 38) rfl ?_
      refine j_iconst C dX6_headsFor_38 ic_1 (n := 39) rfl ?_
      refine j_iload_n C dX6_headsFor_39 rfl (n := 40) rfl ?_
      refine j_ishl C dX6_headsFor_40 (n := 41) rfl ?_
      refine j_iand C dX6_headsFor_41 (n := 42) rfl ?_
      refine j_if_eq C dX6_headsFor_42 (tgt := 65) (n := 45) (by decide) rfl (fun q2 => ?_) (fun q2 => ?_)
      · refine j_iinc C dX6_headsFor_65 rfl ic_1 (Nat.le_of_ble_eq_true rfl) (n := 68) rfl ?_
        refine j_goto C dX6_headsFor_68 (n := 24) (by decide) ?_
        exact j_to (ih _ _ _ _ _) ⟨rfl, ⟨rfl, ⟨rfl, ⟨rfl, ⟨rfl, trivial⟩⟩⟩⟩⟩
      · refine j_aload_n C dX6_headsFor_45 rfl (n := 46) rfl ?_
        refine j_iload C dX6_headsFor_46 rfl (n := 48) rfl ?_
        refine j_iload C dX6_headsFor_48 rfl (n := 50) rfl ?_
        refine j_bnd (fun r4 q3 => ?_)
        refine j_ci C (run_V C mi_X6_waysFor lm_X6_26 iv_X6_waysFor ⟨Nat.le_of_ble_eq_true rfl, Nat.le_of_ble_eq_true rfl⟩ (m_X6_waysFor _ _ _ _ _ q3) (cX_37 g _) rfl rfl rfl rfl (Nat.le_of_ble_eq_true rfl) dX6_headsFor_50) (n := 53) rfl ?_
        refine j_if_le C dX6_headsFor_53 (tgt := 65) (n := 56) (by decide) rfl (fun q6 => ?_) (fun q6 => ?_)
        · refine j_iinc C dX6_headsFor_65 rfl ic_1 (Nat.le_of_ble_eq_true rfl) (n := 68) rfl ?_
          refine j_goto C dX6_headsFor_68 (n := 24) (by decide) ?_
          exact j_to (ih _ _ _ _ _) ⟨rfl, ⟨rfl, ⟨rfl, ⟨rfl, ⟨rfl, trivial⟩⟩⟩⟩⟩
        · refine j_iload C dX6_headsFor_56 rfl (n := 58) rfl ?_
          refine j_iconst C dX6_headsFor_58 ic_1 (n := 59) rfl ?_
          refine j_iload C dX6_headsFor_59 rfl (n := 61) rfl ?_
          refine j_ishl C dX6_headsFor_61 (n := 62) rfl ?_
          refine j_ior C dX6_headsFor_62 (n := 63) rfl ?_
          refine j_istore C dX6_headsFor_63 (Nat.le_of_ble_eq_true rfl) (n := 65) rfl ?_
          refine j_iinc C dX6_headsFor_65 rfl ic_1 (Nat.le_of_ble_eq_true rfl) (n := 68) rfl ?_
          refine j_goto C dX6_headsFor_68 (n := 24) (by decide) ?_
          exact j_to (ih _ _ _ _ _) ⟨rfl, ⟨rfl, ⟨rfl, ⟨rfl, ⟨rfl, trivial⟩⟩⟩⟩⟩
set_option maxRecDepth 20000 in
theorem m_X6_headsFor_47 (l : Launch) (fu : Nat) (x3 : Int32) (h : Hp) {r : Int32 × Hp} (e : X6_headsFor fu 47 x3 h = some r) : CT l yX6_headsFor cX6_headsFor 7 (some .int) 5 cwX (fun g => [rf g 37, rf g 1, rf g 47, .int x3]) h (qI cwX r.1 r.2) := by
  refine ct_of (QR := (fun r : Int32 × Hp => qI cwX r.1 r.2)) (by decide +kernel) (fun g => ⟨rfl, Nat.le_of_ble_eq_true rfl⟩) e (fun x g hl C => ?_)
  unfold X6_headsFor
  refine j_aload_n C dX6_headsFor_0 rfl (n := 1) rfl ?_
  refine j_aload_n C dX6_headsFor_1 rfl (n := 2) rfl ?_
  refine j_aload_n C dX6_headsFor_2 rfl (n := 3) rfl ?_
  refine j_bnd (fun h2 q1 => ?_)
  refine j_cv C (run_V C mi_X6_survey lm_X6_18 iv_X6_survey ⟨Nat.le_of_ble_eq_true rfl, Nat.le_of_ble_eq_true rfl⟩ (m_X6_survey_47 _ _ _ q1) (cX_37 g _) rfl rfl rfl rfl (Nat.le_of_ble_eq_true rfl) dX6_headsFor_3) (n := 6) rfl ?_
  refine j_aload_n C dX6_headsFor_6 rfl (n := 7) rfl ?_
  refine j_ci C (run_S C mi_X6_facesOf lm_X6_22 st_X6_facesOf ⟨Nat.le_of_ble_eq_true rfl, Nat.le_of_ble_eq_true rfl⟩ (m_X6_facesOf_47 _ _) rfl rfl rfl (Nat.le_of_ble_eq_true rfl) dX6_headsFor_7) (n := 10) rfl ?_
  refine j_iconst C dX6_headsFor_10 ic_1 (n := 11) rfl ?_
  refine j_iload_n C dX6_headsFor_11 rfl (n := 12) rfl ?_
  refine j_ishl C dX6_headsFor_12 (n := 13) rfl ?_
  refine j_iconst C dX6_headsFor_13 ic_m1 (n := 14) rfl ?_
  refine j_ixor C dX6_headsFor_14 (n := 15) rfl ?_
  refine j_iand C dX6_headsFor_15 (n := 16) rfl ?_
  refine j_istore C dX6_headsFor_16 (Nat.le_of_ble_eq_true rfl) (n := 18) rfl ?_
  refine j_iconst C dX6_headsFor_18 ic_0 (n := 19) rfl ?_
  refine j_istore C dX6_headsFor_19 (Nat.le_of_ble_eq_true rfl) (n := 21) rfl ?_
  refine j_iconst C dX6_headsFor_21 ic_0 (n := 22) rfl ?_
  refine j_istore C dX6_headsFor_22 (Nat.le_of_ble_eq_true rfl) (n := 24) rfl ?_
  exact j_to (j_X6_headsFor_24_47 C _ _ _ _ _ _ _) ⟨rfl, ⟨rfl, ⟨rfl, ⟨rfl, ⟨rfl, trivial⟩⟩⟩⟩⟩
-- X6_headsFor
set_option maxRecDepth 20000 in
theorem j_X6_headsFor_24_49 {x : Fx} {g : Gl} (C : Ok x g RX6 cX6_headsFor 7 (some .int)) (fu : Nat) : ∀ (n : Nat) (x3 : Int32) (x4 : Int32) (x5 : Int32) (x6 : Int32) (h : Hp), J x g cwX 7 5 (fun r : Int32 × Hp => qI cwX r.1 r.2) 24 [some (rf g 37), none, none, some (.int x3), some (.int x4), some (.int x5), some (.int x6)] [] h (X6_headsFor_24 fu 49 n x3 x4 x5 x6 h) := by
  intro n
  induction n with
  | zero =>
    intro x3 x4 x5 x6 h
    rw [X6_headsFor_24]
    exact j_none
  | succ n ih =>
    intro x3 x4 x5 x6 h
    rw [X6_headsFor_24]
    refine j_iload C dX6_headsFor_24 rfl (n := 26) rfl ?_
    refine j_bipush C dX6_headsFor_26 bp_10 (n := 28) rfl ?_
    refine j_icmp_ge C dX6_headsFor_28 (tgt := 71) (n := 31) (by decide) rfl (fun q1 => ?_) (fun q1 => ?_)
    · refine j_iload C dX6_headsFor_71 rfl (n := 73) rfl ?_
      exact j_retP C dX6_headsFor_73
    · refine j_aload_n C dX6_headsFor_31 rfl (n := 32) rfl ?_
      refine gf_X6_9 C 37 (cX_37 g _) rfl dX6_headsFor_32 (n := 35) rfl ?_
      refine j_iload C dX6_headsFor_35 rfl (n := 37) rfl ?_
      refine j_iald C 38 (cX_38 g _) dX6_headsFor_37 (n := 38) rfl ?_
      refine j_iconst C dX6_headsFor_38 ic_1 (n := 39) rfl ?_
      refine j_iload_n C dX6_headsFor_39 rfl (n := 40) rfl ?_
      refine j_ishl C dX6_headsFor_40 (n := 41) rfl ?_
      refine j_iand C dX6_headsFor_41 (n := 42) rfl ?_
      refine j_if_eq C dX6_headsFor_42 (tgt := 65) (n := 45) (by decide) rfl (fun q2 => ?_) (fun q2 => ?_)
      · refine j_iinc C dX6_headsFor_65 rfl ic_1 (Nat.le_of_ble_eq_true rfl) (n := 68) rfl ?_
        refine j_goto C dX6_headsFor_68 (n := 24) (by decide) ?_
        exact j_to (ih _ _ _ _ _) ⟨rfl, ⟨rfl, ⟨rfl, ⟨rfl, ⟨rfl, trivial⟩⟩⟩⟩⟩
      · refine j_aload_n C dX6_headsFor_45 rfl (n := 46) rfl ?_
        refine j_iload C dX6_headsFor_46 rfl (n := 48) rfl ?_
        refine j_iload C dX6_headsFor_48 rfl (n := 50) rfl ?_
        refine j_bnd (fun r4 q3 => ?_)
        refine j_ci C (run_V C mi_X6_waysFor lm_X6_26 iv_X6_waysFor ⟨Nat.le_of_ble_eq_true rfl, Nat.le_of_ble_eq_true rfl⟩ (m_X6_waysFor _ _ _ _ _ q3) (cX_37 g _) rfl rfl rfl rfl (Nat.le_of_ble_eq_true rfl) dX6_headsFor_50) (n := 53) rfl ?_
        refine j_if_le C dX6_headsFor_53 (tgt := 65) (n := 56) (by decide) rfl (fun q6 => ?_) (fun q6 => ?_)
        · refine j_iinc C dX6_headsFor_65 rfl ic_1 (Nat.le_of_ble_eq_true rfl) (n := 68) rfl ?_
          refine j_goto C dX6_headsFor_68 (n := 24) (by decide) ?_
          exact j_to (ih _ _ _ _ _) ⟨rfl, ⟨rfl, ⟨rfl, ⟨rfl, ⟨rfl, trivial⟩⟩⟩⟩⟩
        · refine j_iload C dX6_headsFor_56 rfl (n := 58) rfl ?_
          refine j_iconst C dX6_headsFor_58 ic_1 (n := 59) rfl ?_
          refine j_iload C dX6_headsFor_59 rfl (n := 61) rfl ?_
          refine j_ishl C dX6_headsFor_61 (n := 62) rfl ?_
          refine j_ior C dX6_headsFor_62 (n := 63) rfl ?_
          refine j_istore C dX6_headsFor_63 (Nat.le_of_ble_eq_true rfl) (n := 65) rfl ?_
          refine j_iinc C dX6_headsFor_65 rfl ic_1 (Nat.le_of_ble_eq_true rfl) (n := 68) rfl ?_
          refine j_goto C dX6_headsFor_68 (n := 24) (by decide) ?_
          exact j_to (ih _ _ _ _ _) ⟨rfl, ⟨rfl, ⟨rfl, ⟨rfl, ⟨rfl, trivial⟩⟩⟩⟩⟩
set_option maxRecDepth 20000 in
theorem m_X6_headsFor_49 (l : Launch) (fu : Nat) (x3 : Int32) (h : Hp) {r : Int32 × Hp} (e : X6_headsFor fu 49 x3 h = some r) : CT l yX6_headsFor cX6_headsFor 7 (some .int) 5 cwX (fun g => [rf g 37, rf g 1, rf g 49, .int x3]) h (qI cwX r.1 r.2) := by
  refine ct_of (QR := (fun r : Int32 × Hp => qI cwX r.1 r.2)) (by decide +kernel) (fun g => ⟨rfl, Nat.le_of_ble_eq_true rfl⟩) e (fun x g hl C => ?_)
  unfold X6_headsFor
  refine j_aload_n C dX6_headsFor_0 rfl (n := 1) rfl ?_
  refine j_aload_n C dX6_headsFor_1 rfl (n := 2) rfl ?_
  refine j_aload_n C dX6_headsFor_2 rfl (n := 3) rfl ?_
  refine j_bnd (fun h2 q1 => ?_)
  refine j_cv C (run_V C mi_X6_survey lm_X6_18 iv_X6_survey ⟨Nat.le_of_ble_eq_true rfl, Nat.le_of_ble_eq_true rfl⟩ (m_X6_survey_49 _ _ _ q1) (cX_37 g _) rfl rfl rfl rfl (Nat.le_of_ble_eq_true rfl) dX6_headsFor_3) (n := 6) rfl ?_
  refine j_aload_n C dX6_headsFor_6 rfl (n := 7) rfl ?_
  refine j_ci C (run_S C mi_X6_facesOf lm_X6_22 st_X6_facesOf ⟨Nat.le_of_ble_eq_true rfl, Nat.le_of_ble_eq_true rfl⟩ (m_X6_facesOf_49 _ _) rfl rfl rfl (Nat.le_of_ble_eq_true rfl) dX6_headsFor_7) (n := 10) rfl ?_
  refine j_iconst C dX6_headsFor_10 ic_1 (n := 11) rfl ?_
  refine j_iload_n C dX6_headsFor_11 rfl (n := 12) rfl ?_
  refine j_ishl C dX6_headsFor_12 (n := 13) rfl ?_
  refine j_iconst C dX6_headsFor_13 ic_m1 (n := 14) rfl ?_
  refine j_ixor C dX6_headsFor_14 (n := 15) rfl ?_
  refine j_iand C dX6_headsFor_15 (n := 16) rfl ?_
  refine j_istore C dX6_headsFor_16 (Nat.le_of_ble_eq_true rfl) (n := 18) rfl ?_
  refine j_iconst C dX6_headsFor_18 ic_0 (n := 19) rfl ?_
  refine j_istore C dX6_headsFor_19 (Nat.le_of_ble_eq_true rfl) (n := 21) rfl ?_
  refine j_iconst C dX6_headsFor_21 ic_0 (n := 22) rfl ?_
  refine j_istore C dX6_headsFor_22 (Nat.le_of_ble_eq_true rfl) (n := 24) rfl ?_
  exact j_to (j_X6_headsFor_24_49 C _ _ _ _ _ _ _) ⟨rfl, ⟨rfl, ⟨rfl, ⟨rfl, ⟨rfl, trivial⟩⟩⟩⟩⟩
-- X6_headsFor
set_option maxRecDepth 20000 in
theorem j_X6_headsFor_24_51 {x : Fx} {g : Gl} (C : Ok x g RX6 cX6_headsFor 7 (some .int)) (fu : Nat) : ∀ (n : Nat) (x3 : Int32) (x4 : Int32) (x5 : Int32) (x6 : Int32) (h : Hp), J x g cwX 7 5 (fun r : Int32 × Hp => qI cwX r.1 r.2) 24 [some (rf g 37), none, none, some (.int x3), some (.int x4), some (.int x5), some (.int x6)] [] h (X6_headsFor_24 fu 51 n x3 x4 x5 x6 h) := by
  intro n
  induction n with
  | zero =>
    intro x3 x4 x5 x6 h
    rw [X6_headsFor_24]
    exact j_none
  | succ n ih =>
    intro x3 x4 x5 x6 h
    rw [X6_headsFor_24]
    refine j_iload C dX6_headsFor_24 rfl (n := 26) rfl ?_
    refine j_bipush C dX6_headsFor_26 bp_10 (n := 28) rfl ?_
    refine j_icmp_ge C dX6_headsFor_28 (tgt := 71) (n := 31) (by decide) rfl (fun q1 => ?_) (fun q1 => ?_)
    · refine j_iload C dX6_headsFor_71 rfl (n := 73) rfl ?_
      exact j_retP C dX6_headsFor_73
    · refine j_aload_n C dX6_headsFor_31 rfl (n := 32) rfl ?_
      refine gf_X6_9 C 37 (cX_37 g _) rfl dX6_headsFor_32 (n := 35) rfl ?_
      refine j_iload C dX6_headsFor_35 rfl (n := 37) rfl ?_
      refine j_iald C 38 (cX_38 g _) dX6_headsFor_37 (n := 38) rfl ?_
      refine j_iconst C dX6_headsFor_38 ic_1 (n := 39) rfl ?_
      refine j_iload_n C dX6_headsFor_39 rfl (n := 40) rfl ?_
      refine j_ishl C dX6_headsFor_40 (n := 41) rfl ?_
      refine j_iand C dX6_headsFor_41 (n := 42) rfl ?_
      refine j_if_eq C dX6_headsFor_42 (tgt := 65) (n := 45) (by decide) rfl (fun q2 => ?_) (fun q2 => ?_)
      · refine j_iinc C dX6_headsFor_65 rfl ic_1 (Nat.le_of_ble_eq_true rfl) (n := 68) rfl ?_
        refine j_goto C dX6_headsFor_68 (n := 24) (by decide) ?_
        exact j_to (ih _ _ _ _ _) ⟨rfl, ⟨rfl, ⟨rfl, ⟨rfl, ⟨rfl, trivial⟩⟩⟩⟩⟩
      · refine j_aload_n C dX6_headsFor_45 rfl (n := 46) rfl ?_
        refine j_iload C dX6_headsFor_46 rfl (n := 48) rfl ?_
        refine j_iload C dX6_headsFor_48 rfl (n := 50) rfl ?_
        refine j_bnd (fun r4 q3 => ?_)
        refine j_ci C (run_V C mi_X6_waysFor lm_X6_26 iv_X6_waysFor ⟨Nat.le_of_ble_eq_true rfl, Nat.le_of_ble_eq_true rfl⟩ (m_X6_waysFor _ _ _ _ _ q3) (cX_37 g _) rfl rfl rfl rfl (Nat.le_of_ble_eq_true rfl) dX6_headsFor_50) (n := 53) rfl ?_
        refine j_if_le C dX6_headsFor_53 (tgt := 65) (n := 56) (by decide) rfl (fun q6 => ?_) (fun q6 => ?_)
        · refine j_iinc C dX6_headsFor_65 rfl ic_1 (Nat.le_of_ble_eq_true rfl) (n := 68) rfl ?_
          refine j_goto C dX6_headsFor_68 (n := 24) (by decide) ?_
          exact j_to (ih _ _ _ _ _) ⟨rfl, ⟨rfl, ⟨rfl, ⟨rfl, ⟨rfl, trivial⟩⟩⟩⟩⟩
        · refine j_iload C dX6_headsFor_56 rfl (n := 58) rfl ?_
          refine j_iconst C dX6_headsFor_58 ic_1 (n := 59) rfl ?_
          refine j_iload C dX6_headsFor_59 rfl (n := 61) rfl ?_
          refine j_ishl C dX6_headsFor_61 (n := 62) rfl ?_
          refine j_ior C dX6_headsFor_62 (n := 63) rfl ?_
          refine j_istore C dX6_headsFor_63 (Nat.le_of_ble_eq_true rfl) (n := 65) rfl ?_
          refine j_iinc C dX6_headsFor_65 rfl ic_1 (Nat.le_of_ble_eq_true rfl) (n := 68) rfl ?_
          refine j_goto C dX6_headsFor_68 (n := 24) (by decide) ?_
          exact j_to (ih _ _ _ _ _) ⟨rfl, ⟨rfl, ⟨rfl, ⟨rfl, ⟨rfl, trivial⟩⟩⟩⟩⟩
set_option maxRecDepth 20000 in
theorem m_X6_headsFor_51 (l : Launch) (fu : Nat) (x3 : Int32) (h : Hp) {r : Int32 × Hp} (e : X6_headsFor fu 51 x3 h = some r) : CT l yX6_headsFor cX6_headsFor 7 (some .int) 5 cwX (fun g => [rf g 37, rf g 1, rf g 51, .int x3]) h (qI cwX r.1 r.2) := by
  refine ct_of (QR := (fun r : Int32 × Hp => qI cwX r.1 r.2)) (by decide +kernel) (fun g => ⟨rfl, Nat.le_of_ble_eq_true rfl⟩) e (fun x g hl C => ?_)
  unfold X6_headsFor
  refine j_aload_n C dX6_headsFor_0 rfl (n := 1) rfl ?_
  refine j_aload_n C dX6_headsFor_1 rfl (n := 2) rfl ?_
  refine j_aload_n C dX6_headsFor_2 rfl (n := 3) rfl ?_
  refine j_bnd (fun h2 q1 => ?_)
  refine j_cv C (run_V C mi_X6_survey lm_X6_18 iv_X6_survey ⟨Nat.le_of_ble_eq_true rfl, Nat.le_of_ble_eq_true rfl⟩ (m_X6_survey_51 _ _ _ q1) (cX_37 g _) rfl rfl rfl rfl (Nat.le_of_ble_eq_true rfl) dX6_headsFor_3) (n := 6) rfl ?_
  refine j_aload_n C dX6_headsFor_6 rfl (n := 7) rfl ?_
  refine j_ci C (run_S C mi_X6_facesOf lm_X6_22 st_X6_facesOf ⟨Nat.le_of_ble_eq_true rfl, Nat.le_of_ble_eq_true rfl⟩ (m_X6_facesOf_51 _ _) rfl rfl rfl (Nat.le_of_ble_eq_true rfl) dX6_headsFor_7) (n := 10) rfl ?_
  refine j_iconst C dX6_headsFor_10 ic_1 (n := 11) rfl ?_
  refine j_iload_n C dX6_headsFor_11 rfl (n := 12) rfl ?_
  refine j_ishl C dX6_headsFor_12 (n := 13) rfl ?_
  refine j_iconst C dX6_headsFor_13 ic_m1 (n := 14) rfl ?_
  refine j_ixor C dX6_headsFor_14 (n := 15) rfl ?_
  refine j_iand C dX6_headsFor_15 (n := 16) rfl ?_
  refine j_istore C dX6_headsFor_16 (Nat.le_of_ble_eq_true rfl) (n := 18) rfl ?_
  refine j_iconst C dX6_headsFor_18 ic_0 (n := 19) rfl ?_
  refine j_istore C dX6_headsFor_19 (Nat.le_of_ble_eq_true rfl) (n := 21) rfl ?_
  refine j_iconst C dX6_headsFor_21 ic_0 (n := 22) rfl ?_
  refine j_istore C dX6_headsFor_22 (Nat.le_of_ble_eq_true rfl) (n := 24) rfl ?_
  exact j_to (j_X6_headsFor_24_51 C _ _ _ _ _ _ _) ⟨rfl, ⟨rfl, ⟨rfl, ⟨rfl, ⟨rfl, trivial⟩⟩⟩⟩⟩
-- X6_headsFor
set_option maxRecDepth 20000 in
theorem j_X6_headsFor_24_53 {x : Fx} {g : Gl} (C : Ok x g RX6 cX6_headsFor 7 (some .int)) (fu : Nat) : ∀ (n : Nat) (x3 : Int32) (x4 : Int32) (x5 : Int32) (x6 : Int32) (h : Hp), J x g cwX 7 5 (fun r : Int32 × Hp => qI cwX r.1 r.2) 24 [some (rf g 37), none, none, some (.int x3), some (.int x4), some (.int x5), some (.int x6)] [] h (X6_headsFor_24 fu 53 n x3 x4 x5 x6 h) := by
  intro n
  induction n with
  | zero =>
    intro x3 x4 x5 x6 h
    rw [X6_headsFor_24]
    exact j_none
  | succ n ih =>
    intro x3 x4 x5 x6 h
    rw [X6_headsFor_24]
    refine j_iload C dX6_headsFor_24 rfl (n := 26) rfl ?_
    refine j_bipush C dX6_headsFor_26 bp_10 (n := 28) rfl ?_
    refine j_icmp_ge C dX6_headsFor_28 (tgt := 71) (n := 31) (by decide) rfl (fun q1 => ?_) (fun q1 => ?_)
    · refine j_iload C dX6_headsFor_71 rfl (n := 73) rfl ?_
      exact j_retP C dX6_headsFor_73
    · refine j_aload_n C dX6_headsFor_31 rfl (n := 32) rfl ?_
      refine gf_X6_9 C 37 (cX_37 g _) rfl dX6_headsFor_32 (n := 35) rfl ?_
      refine j_iload C dX6_headsFor_35 rfl (n := 37) rfl ?_
      refine j_iald C 38 (cX_38 g _) dX6_headsFor_37 (n := 38) rfl ?_
      refine j_iconst C dX6_headsFor_38 ic_1 (n := 39) rfl ?_
      refine j_iload_n C dX6_headsFor_39 rfl (n := 40) rfl ?_
      refine j_ishl C dX6_headsFor_40 (n := 41) rfl ?_
      refine j_iand C dX6_headsFor_41 (n := 42) rfl ?_
      refine j_if_eq C dX6_headsFor_42 (tgt := 65) (n := 45) (by decide) rfl (fun q2 => ?_) (fun q2 => ?_)
      · refine j_iinc C dX6_headsFor_65 rfl ic_1 (Nat.le_of_ble_eq_true rfl) (n := 68) rfl ?_
        refine j_goto C dX6_headsFor_68 (n := 24) (by decide) ?_
        exact j_to (ih _ _ _ _ _) ⟨rfl, ⟨rfl, ⟨rfl, ⟨rfl, ⟨rfl, trivial⟩⟩⟩⟩⟩
      · refine j_aload_n C dX6_headsFor_45 rfl (n := 46) rfl ?_
        refine j_iload C dX6_headsFor_46 rfl (n := 48) rfl ?_
        refine j_iload C dX6_headsFor_48 rfl (n := 50) rfl ?_
        refine j_bnd (fun r4 q3 => ?_)
        refine j_ci C (run_V C mi_X6_waysFor lm_X6_26 iv_X6_waysFor ⟨Nat.le_of_ble_eq_true rfl, Nat.le_of_ble_eq_true rfl⟩ (m_X6_waysFor _ _ _ _ _ q3) (cX_37 g _) rfl rfl rfl rfl (Nat.le_of_ble_eq_true rfl) dX6_headsFor_50) (n := 53) rfl ?_
        refine j_if_le C dX6_headsFor_53 (tgt := 65) (n := 56) (by decide) rfl (fun q6 => ?_) (fun q6 => ?_)
        · refine j_iinc C dX6_headsFor_65 rfl ic_1 (Nat.le_of_ble_eq_true rfl) (n := 68) rfl ?_
          refine j_goto C dX6_headsFor_68 (n := 24) (by decide) ?_
          exact j_to (ih _ _ _ _ _) ⟨rfl, ⟨rfl, ⟨rfl, ⟨rfl, ⟨rfl, trivial⟩⟩⟩⟩⟩
        · refine j_iload C dX6_headsFor_56 rfl (n := 58) rfl ?_
          refine j_iconst C dX6_headsFor_58 ic_1 (n := 59) rfl ?_
          refine j_iload C dX6_headsFor_59 rfl (n := 61) rfl ?_
          refine j_ishl C dX6_headsFor_61 (n := 62) rfl ?_
          refine j_ior C dX6_headsFor_62 (n := 63) rfl ?_
          refine j_istore C dX6_headsFor_63 (Nat.le_of_ble_eq_true rfl) (n := 65) rfl ?_
          refine j_iinc C dX6_headsFor_65 rfl ic_1 (Nat.le_of_ble_eq_true rfl) (n := 68) rfl ?_
          refine j_goto C dX6_headsFor_68 (n := 24) (by decide) ?_
          exact j_to (ih _ _ _ _ _) ⟨rfl, ⟨rfl, ⟨rfl, ⟨rfl, ⟨rfl, trivial⟩⟩⟩⟩⟩
set_option maxRecDepth 20000 in
theorem m_X6_headsFor_53 (l : Launch) (fu : Nat) (x3 : Int32) (h : Hp) {r : Int32 × Hp} (e : X6_headsFor fu 53 x3 h = some r) : CT l yX6_headsFor cX6_headsFor 7 (some .int) 5 cwX (fun g => [rf g 37, rf g 1, rf g 53, .int x3]) h (qI cwX r.1 r.2) := by
  refine ct_of (QR := (fun r : Int32 × Hp => qI cwX r.1 r.2)) (by decide +kernel) (fun g => ⟨rfl, Nat.le_of_ble_eq_true rfl⟩) e (fun x g hl C => ?_)
  unfold X6_headsFor
  refine j_aload_n C dX6_headsFor_0 rfl (n := 1) rfl ?_
  refine j_aload_n C dX6_headsFor_1 rfl (n := 2) rfl ?_
  refine j_aload_n C dX6_headsFor_2 rfl (n := 3) rfl ?_
  refine j_bnd (fun h2 q1 => ?_)
  refine j_cv C (run_V C mi_X6_survey lm_X6_18 iv_X6_survey ⟨Nat.le_of_ble_eq_true rfl, Nat.le_of_ble_eq_true rfl⟩ (m_X6_survey_53 _ _ _ q1) (cX_37 g _) rfl rfl rfl rfl (Nat.le_of_ble_eq_true rfl) dX6_headsFor_3) (n := 6) rfl ?_
  refine j_aload_n C dX6_headsFor_6 rfl (n := 7) rfl ?_
  refine j_ci C (run_S C mi_X6_facesOf lm_X6_22 st_X6_facesOf ⟨Nat.le_of_ble_eq_true rfl, Nat.le_of_ble_eq_true rfl⟩ (m_X6_facesOf_53 _ _) rfl rfl rfl (Nat.le_of_ble_eq_true rfl) dX6_headsFor_7) (n := 10) rfl ?_
  refine j_iconst C dX6_headsFor_10 ic_1 (n := 11) rfl ?_
  refine j_iload_n C dX6_headsFor_11 rfl (n := 12) rfl ?_
  refine j_ishl C dX6_headsFor_12 (n := 13) rfl ?_
  refine j_iconst C dX6_headsFor_13 ic_m1 (n := 14) rfl ?_
  refine j_ixor C dX6_headsFor_14 (n := 15) rfl ?_
  refine j_iand C dX6_headsFor_15 (n := 16) rfl ?_
  refine j_istore C dX6_headsFor_16 (Nat.le_of_ble_eq_true rfl) (n := 18) rfl ?_
  refine j_iconst C dX6_headsFor_18 ic_0 (n := 19) rfl ?_
  refine j_istore C dX6_headsFor_19 (Nat.le_of_ble_eq_true rfl) (n := 21) rfl ?_
  refine j_iconst C dX6_headsFor_21 ic_0 (n := 22) rfl ?_
  refine j_istore C dX6_headsFor_22 (Nat.le_of_ble_eq_true rfl) (n := 24) rfl ?_
  exact j_to (j_X6_headsFor_24_53 C _ _ _ _ _ _ _) ⟨rfl, ⟨rfl, ⟨rfl, ⟨rfl, ⟨rfl, trivial⟩⟩⟩⟩⟩
-- X7_maybe
set_option maxRecDepth 20000 in
theorem m_X7_maybe (l : Launch) (fu : Nat) (x1 : Int32) (x2 : Int32) (h : Hp) {r : Int32 × Hp} (e : X7_maybe fu x1 x2 h = some r) : CT l yX7_maybe cX7_maybe 3 (some .int) 6 cwX (fun g => [rf g 0, .int x1, .int x2]) h (qI cwX r.1 r.2) := by
  refine ct_of (QR := (fun r : Int32 × Hp => qI cwX r.1 r.2)) (by decide +kernel) (fun g => ⟨rfl, Nat.le_of_ble_eq_true rfl⟩) e (fun x g hl C => ?_)
  unfold X7_maybe
  refine j_iload_n C dX7_maybe_0 rfl (n := 1) rfl ?_
  refine j_cz C (run_S C mi_X7_isSheet lm_X7_229 st_X7_isSheet ⟨Nat.le_of_ble_eq_true rfl, Nat.le_of_ble_eq_true rfl⟩ (m_X7_isSheet _ _ _) rfl rfl rfl (Nat.le_of_ble_eq_true rfl) dX7_maybe_1) (n := 4) rfl (fun b1 => ?_)
  refine j_if_ne C dX7_maybe_4 (tgt := 14) (n := 7) (by decide) rfl (fun q2 => ?_) (fun q2 => ?_)
  · refine j_aload_n C dX7_maybe_14 rfl (n := 15) rfl ?_
    refine gf_X7_54 C 0 (cX_0 g _) rfl dX7_maybe_15 (n := 18) rfl ?_
    refine j_iload_n C dX7_maybe_18 rfl (n := 19) rfl ?_
    refine j_chk (fun q3 => ?_)
    rcases inR_4 q3 with rfl | rfl | rfl | rfl
    · rw [shc_0]
      refine j_aald C 46 2 (cX_46 g _) rfl (by decide) (b := g.2.1 47) rfl dX7_maybe_19 rfl ?_
      refine j_cz C (run_V C mi_X4_isMissing lm_X7_232 iv_X4_isMissing ⟨Nat.le_of_ble_eq_true rfl, Nat.le_of_ble_eq_true rfl⟩ (m_X4_isMissing_47 _ _) (cX_47 g _) rfl rfl rfl rfl (Nat.le_of_ble_eq_true rfl) dX7_maybe_20) (n := 23) rfl (fun b4 => ?_)
      refine j_if_eq C dX7_maybe_23 (tgt := 33) (n := 26) (by decide) rfl (fun q5 => ?_) (fun q5 => ?_)
      · refine j_iload_n C dX7_maybe_33 rfl (n := 34) rfl ?_
        refine j_cz C (run_S C mi_X7_isFace lm_X7_98 st_X7_isFace ⟨Nat.le_of_ble_eq_true rfl, Nat.le_of_ble_eq_true rfl⟩ (m_X7_isFace _ _ _) rfl rfl rfl (Nat.le_of_ble_eq_true rfl) dX7_maybe_34) (n := 37) rfl (fun b6 => ?_)
        refine j_if_eq C dX7_maybe_37 (tgt := 53) (n := 40) (by decide) rfl (fun q7 => ?_) (fun q7 => ?_)
        · refine j_aload_n C dX7_maybe_53 rfl (n := 54) rfl ?_
          refine j_ldc C dX7_maybe_54 kc_X7_67 (n := 56) rfl ?_
          refine j_bnd (fun r9 q8 => ?_)
          refine j_ci C (run_V C mi_X7_finding lm_X7_68 iv_X7_finding ⟨Nat.le_of_ble_eq_true rfl, Nat.le_of_ble_eq_true rfl⟩ (m_X7_finding _ _ _ q8) (cX_0 g _) rfl rfl rfl rfl (Nat.le_of_ble_eq_true rfl) dX7_maybe_56) (n := 59) rfl ?_
          exact j_retP C dX7_maybe_59
        · refine j_iload_n C dX7_maybe_40 rfl (n := 41) rfl ?_
          refine j_aload_n C dX7_maybe_41 rfl (n := 42) rfl ?_
          refine gf_X7_54 C 0 (cX_0 g _) rfl dX7_maybe_42 (n := 45) rfl ?_
          refine j_iload_n C dX7_maybe_45 rfl (n := 46) rfl ?_
          refine j_aald C 46 2 (cX_46 g _) rfl (by decide) (b := g.2.1 47) rfl dX7_maybe_46 rfl ?_
          refine gf_X7_241 C 47 (cX_47 g _) rfl dX7_maybe_47 (n := 50) rfl ?_
          refine j_icmp_lt C dX7_maybe_50 (tgt := 60) (n := 53) (by decide) rfl (fun q11 => ?_) (fun q11 => ?_)
          · refine j_aload_n C dX7_maybe_60 rfl (n := 61) rfl ?_
            refine gf_X7_32 C 0 (cX_0 g _) rfl dX7_maybe_61 (n := 64) rfl ?_
            refine j_aload_n C dX7_maybe_64 rfl (n := 65) rfl ?_
            refine gf_X7_12 C 0 (cX_0 g _) rfl dX7_maybe_65 (n := 68) rfl ?_
            refine j_aload_n C dX7_maybe_68 rfl (n := 69) rfl ?_
            refine gf_X7_54 C 0 (cX_0 g _) rfl dX7_maybe_69 (n := 72) rfl ?_
            refine j_iload_n C dX7_maybe_72 rfl (n := 73) rfl ?_
            refine j_aald C 46 2 (cX_46 g _) rfl (by decide) (b := g.2.1 47) rfl dX7_maybe_73 rfl ?_
            refine j_iload_n C dX7_maybe_74 rfl (n := 75) rfl ?_
            refine j_bnd (fun r13 q12 => ?_)
            refine j_ci C (run_V C mi_X6_headsFor lm_X7_244 iv_X6_headsFor ⟨Nat.le_of_ble_eq_true rfl, Nat.le_of_ble_eq_true rfl⟩ (m_X6_headsFor_47 _ _ _ _ q12) (cX_37 g _) rfl rfl rfl rfl (Nat.le_of_ble_eq_true rfl) dX7_maybe_75) (n := 78) rfl ?_
            exact j_retP C dX7_maybe_78
          · refine j_aload_n C dX7_maybe_53 rfl (n := 54) rfl ?_
            refine j_ldc C dX7_maybe_54 kc_X7_67 (n := 56) rfl ?_
            refine j_bnd (fun r16 q15 => ?_)
            refine j_ci C (run_V C mi_X7_finding lm_X7_68 iv_X7_finding ⟨Nat.le_of_ble_eq_true rfl, Nat.le_of_ble_eq_true rfl⟩ (m_X7_finding _ _ _ q15) (cX_0 g _) rfl rfl rfl rfl (Nat.le_of_ble_eq_true rfl) dX7_maybe_56) (n := 59) rfl ?_
            exact j_retP C dX7_maybe_59
      · refine j_aload_n C dX7_maybe_26 rfl (n := 27) rfl ?_
        refine j_ldc C dX7_maybe_27 kc_X7_236 (n := 29) rfl ?_
        refine j_bnd (fun r19 q18 => ?_)
        refine j_ci C (run_V C mi_X7_finding lm_X7_68 iv_X7_finding ⟨Nat.le_of_ble_eq_true rfl, Nat.le_of_ble_eq_true rfl⟩ (m_X7_finding _ _ _ q18) (cX_0 g _) rfl rfl rfl rfl (Nat.le_of_ble_eq_true rfl) dX7_maybe_29) (n := 32) rfl ?_
        exact j_retP C dX7_maybe_32
    · rw [shc_1]
      refine j_aald C 46 2 (cX_46 g _) rfl (by decide) (b := g.2.1 49) rfl dX7_maybe_19 rfl ?_
      refine j_cz C (run_V C mi_X4_isMissing lm_X7_232 iv_X4_isMissing ⟨Nat.le_of_ble_eq_true rfl, Nat.le_of_ble_eq_true rfl⟩ (m_X4_isMissing_49 _ _) (cX_49 g _) rfl rfl rfl rfl (Nat.le_of_ble_eq_true rfl) dX7_maybe_20) (n := 23) rfl (fun b4 => ?_)
      refine j_if_eq C dX7_maybe_23 (tgt := 33) (n := 26) (by decide) rfl (fun q5 => ?_) (fun q5 => ?_)
      · refine j_iload_n C dX7_maybe_33 rfl (n := 34) rfl ?_
        refine j_cz C (run_S C mi_X7_isFace lm_X7_98 st_X7_isFace ⟨Nat.le_of_ble_eq_true rfl, Nat.le_of_ble_eq_true rfl⟩ (m_X7_isFace _ _ _) rfl rfl rfl (Nat.le_of_ble_eq_true rfl) dX7_maybe_34) (n := 37) rfl (fun b6 => ?_)
        refine j_if_eq C dX7_maybe_37 (tgt := 53) (n := 40) (by decide) rfl (fun q7 => ?_) (fun q7 => ?_)
        · refine j_aload_n C dX7_maybe_53 rfl (n := 54) rfl ?_
          refine j_ldc C dX7_maybe_54 kc_X7_67 (n := 56) rfl ?_
          refine j_bnd (fun r9 q8 => ?_)
          refine j_ci C (run_V C mi_X7_finding lm_X7_68 iv_X7_finding ⟨Nat.le_of_ble_eq_true rfl, Nat.le_of_ble_eq_true rfl⟩ (m_X7_finding _ _ _ q8) (cX_0 g _) rfl rfl rfl rfl (Nat.le_of_ble_eq_true rfl) dX7_maybe_56) (n := 59) rfl ?_
          exact j_retP C dX7_maybe_59
        · refine j_iload_n C dX7_maybe_40 rfl (n := 41) rfl ?_
          refine j_aload_n C dX7_maybe_41 rfl (n := 42) rfl ?_
          refine gf_X7_54 C 0 (cX_0 g _) rfl dX7_maybe_42 (n := 45) rfl ?_
          refine j_iload_n C dX7_maybe_45 rfl (n := 46) rfl ?_
          refine j_aald C 46 2 (cX_46 g _) rfl (by decide) (b := g.2.1 49) rfl dX7_maybe_46 rfl ?_
          refine gf_X7_241 C 49 (cX_49 g _) rfl dX7_maybe_47 (n := 50) rfl ?_
          refine j_icmp_lt C dX7_maybe_50 (tgt := 60) (n := 53) (by decide) rfl (fun q11 => ?_) (fun q11 => ?_)
          · refine j_aload_n C dX7_maybe_60 rfl (n := 61) rfl ?_
            refine gf_X7_32 C 0 (cX_0 g _) rfl dX7_maybe_61 (n := 64) rfl ?_
            refine j_aload_n C dX7_maybe_64 rfl (n := 65) rfl ?_
            refine gf_X7_12 C 0 (cX_0 g _) rfl dX7_maybe_65 (n := 68) rfl ?_
            refine j_aload_n C dX7_maybe_68 rfl (n := 69) rfl ?_
            refine gf_X7_54 C 0 (cX_0 g _) rfl dX7_maybe_69 (n := 72) rfl ?_
            refine j_iload_n C dX7_maybe_72 rfl (n := 73) rfl ?_
            refine j_aald C 46 2 (cX_46 g _) rfl (by decide) (b := g.2.1 49) rfl dX7_maybe_73 rfl ?_
            refine j_iload_n C dX7_maybe_74 rfl (n := 75) rfl ?_
            refine j_bnd (fun r13 q12 => ?_)
            refine j_ci C (run_V C mi_X6_headsFor lm_X7_244 iv_X6_headsFor ⟨Nat.le_of_ble_eq_true rfl, Nat.le_of_ble_eq_true rfl⟩ (m_X6_headsFor_49 _ _ _ _ q12) (cX_37 g _) rfl rfl rfl rfl (Nat.le_of_ble_eq_true rfl) dX7_maybe_75) (n := 78) rfl ?_
            exact j_retP C dX7_maybe_78
          · refine j_aload_n C dX7_maybe_53 rfl (n := 54) rfl ?_
            refine j_ldc C dX7_maybe_54 kc_X7_67 (n := 56) rfl ?_
            refine j_bnd (fun r16 q15 => ?_)
            refine j_ci C (run_V C mi_X7_finding lm_X7_68 iv_X7_finding ⟨Nat.le_of_ble_eq_true rfl, Nat.le_of_ble_eq_true rfl⟩ (m_X7_finding _ _ _ q15) (cX_0 g _) rfl rfl rfl rfl (Nat.le_of_ble_eq_true rfl) dX7_maybe_56) (n := 59) rfl ?_
            exact j_retP C dX7_maybe_59
      · refine j_aload_n C dX7_maybe_26 rfl (n := 27) rfl ?_
        refine j_ldc C dX7_maybe_27 kc_X7_236 (n := 29) rfl ?_
        refine j_bnd (fun r19 q18 => ?_)
        refine j_ci C (run_V C mi_X7_finding lm_X7_68 iv_X7_finding ⟨Nat.le_of_ble_eq_true rfl, Nat.le_of_ble_eq_true rfl⟩ (m_X7_finding _ _ _ q18) (cX_0 g _) rfl rfl rfl rfl (Nat.le_of_ble_eq_true rfl) dX7_maybe_29) (n := 32) rfl ?_
        exact j_retP C dX7_maybe_32
    · rw [shc_2]
      refine j_aald C 46 2 (cX_46 g _) rfl (by decide) (b := g.2.1 51) rfl dX7_maybe_19 rfl ?_
      refine j_cz C (run_V C mi_X4_isMissing lm_X7_232 iv_X4_isMissing ⟨Nat.le_of_ble_eq_true rfl, Nat.le_of_ble_eq_true rfl⟩ (m_X4_isMissing_51 _ _) (cX_51 g _) rfl rfl rfl rfl (Nat.le_of_ble_eq_true rfl) dX7_maybe_20) (n := 23) rfl (fun b4 => ?_)
      refine j_if_eq C dX7_maybe_23 (tgt := 33) (n := 26) (by decide) rfl (fun q5 => ?_) (fun q5 => ?_)
      · refine j_iload_n C dX7_maybe_33 rfl (n := 34) rfl ?_
        refine j_cz C (run_S C mi_X7_isFace lm_X7_98 st_X7_isFace ⟨Nat.le_of_ble_eq_true rfl, Nat.le_of_ble_eq_true rfl⟩ (m_X7_isFace _ _ _) rfl rfl rfl (Nat.le_of_ble_eq_true rfl) dX7_maybe_34) (n := 37) rfl (fun b6 => ?_)
        refine j_if_eq C dX7_maybe_37 (tgt := 53) (n := 40) (by decide) rfl (fun q7 => ?_) (fun q7 => ?_)
        · refine j_aload_n C dX7_maybe_53 rfl (n := 54) rfl ?_
          refine j_ldc C dX7_maybe_54 kc_X7_67 (n := 56) rfl ?_
          refine j_bnd (fun r9 q8 => ?_)
          refine j_ci C (run_V C mi_X7_finding lm_X7_68 iv_X7_finding ⟨Nat.le_of_ble_eq_true rfl, Nat.le_of_ble_eq_true rfl⟩ (m_X7_finding _ _ _ q8) (cX_0 g _) rfl rfl rfl rfl (Nat.le_of_ble_eq_true rfl) dX7_maybe_56) (n := 59) rfl ?_
          exact j_retP C dX7_maybe_59
        · refine j_iload_n C dX7_maybe_40 rfl (n := 41) rfl ?_
          refine j_aload_n C dX7_maybe_41 rfl (n := 42) rfl ?_
          refine gf_X7_54 C 0 (cX_0 g _) rfl dX7_maybe_42 (n := 45) rfl ?_
          refine j_iload_n C dX7_maybe_45 rfl (n := 46) rfl ?_
          refine j_aald C 46 2 (cX_46 g _) rfl (by decide) (b := g.2.1 51) rfl dX7_maybe_46 rfl ?_
          refine gf_X7_241 C 51 (cX_51 g _) rfl dX7_maybe_47 (n := 50) rfl ?_
          refine j_icmp_lt C dX7_maybe_50 (tgt := 60) (n := 53) (by decide) rfl (fun q11 => ?_) (fun q11 => ?_)
          · refine j_aload_n C dX7_maybe_60 rfl (n := 61) rfl ?_
            refine gf_X7_32 C 0 (cX_0 g _) rfl dX7_maybe_61 (n := 64) rfl ?_
            refine j_aload_n C dX7_maybe_64 rfl (n := 65) rfl ?_
            refine gf_X7_12 C 0 (cX_0 g _) rfl dX7_maybe_65 (n := 68) rfl ?_
            refine j_aload_n C dX7_maybe_68 rfl (n := 69) rfl ?_
            refine gf_X7_54 C 0 (cX_0 g _) rfl dX7_maybe_69 (n := 72) rfl ?_
            refine j_iload_n C dX7_maybe_72 rfl (n := 73) rfl ?_
            refine j_aald C 46 2 (cX_46 g _) rfl (by decide) (b := g.2.1 51) rfl dX7_maybe_73 rfl ?_
            refine j_iload_n C dX7_maybe_74 rfl (n := 75) rfl ?_
            refine j_bnd (fun r13 q12 => ?_)
            refine j_ci C (run_V C mi_X6_headsFor lm_X7_244 iv_X6_headsFor ⟨Nat.le_of_ble_eq_true rfl, Nat.le_of_ble_eq_true rfl⟩ (m_X6_headsFor_51 _ _ _ _ q12) (cX_37 g _) rfl rfl rfl rfl (Nat.le_of_ble_eq_true rfl) dX7_maybe_75) (n := 78) rfl ?_
            exact j_retP C dX7_maybe_78
          · refine j_aload_n C dX7_maybe_53 rfl (n := 54) rfl ?_
            refine j_ldc C dX7_maybe_54 kc_X7_67 (n := 56) rfl ?_
            refine j_bnd (fun r16 q15 => ?_)
            refine j_ci C (run_V C mi_X7_finding lm_X7_68 iv_X7_finding ⟨Nat.le_of_ble_eq_true rfl, Nat.le_of_ble_eq_true rfl⟩ (m_X7_finding _ _ _ q15) (cX_0 g _) rfl rfl rfl rfl (Nat.le_of_ble_eq_true rfl) dX7_maybe_56) (n := 59) rfl ?_
            exact j_retP C dX7_maybe_59
      · refine j_aload_n C dX7_maybe_26 rfl (n := 27) rfl ?_
        refine j_ldc C dX7_maybe_27 kc_X7_236 (n := 29) rfl ?_
        refine j_bnd (fun r19 q18 => ?_)
        refine j_ci C (run_V C mi_X7_finding lm_X7_68 iv_X7_finding ⟨Nat.le_of_ble_eq_true rfl, Nat.le_of_ble_eq_true rfl⟩ (m_X7_finding _ _ _ q18) (cX_0 g _) rfl rfl rfl rfl (Nat.le_of_ble_eq_true rfl) dX7_maybe_29) (n := 32) rfl ?_
        exact j_retP C dX7_maybe_32
    · rw [shc_3]
      refine j_aald C 46 2 (cX_46 g _) rfl (by decide) (b := g.2.1 53) rfl dX7_maybe_19 rfl ?_
      refine j_cz C (run_V C mi_X4_isMissing lm_X7_232 iv_X4_isMissing ⟨Nat.le_of_ble_eq_true rfl, Nat.le_of_ble_eq_true rfl⟩ (m_X4_isMissing_53 _ _) (cX_53 g _) rfl rfl rfl rfl (Nat.le_of_ble_eq_true rfl) dX7_maybe_20) (n := 23) rfl (fun b4 => ?_)
      refine j_if_eq C dX7_maybe_23 (tgt := 33) (n := 26) (by decide) rfl (fun q5 => ?_) (fun q5 => ?_)
      · refine j_iload_n C dX7_maybe_33 rfl (n := 34) rfl ?_
        refine j_cz C (run_S C mi_X7_isFace lm_X7_98 st_X7_isFace ⟨Nat.le_of_ble_eq_true rfl, Nat.le_of_ble_eq_true rfl⟩ (m_X7_isFace _ _ _) rfl rfl rfl (Nat.le_of_ble_eq_true rfl) dX7_maybe_34) (n := 37) rfl (fun b6 => ?_)
        refine j_if_eq C dX7_maybe_37 (tgt := 53) (n := 40) (by decide) rfl (fun q7 => ?_) (fun q7 => ?_)
        · refine j_aload_n C dX7_maybe_53 rfl (n := 54) rfl ?_
          refine j_ldc C dX7_maybe_54 kc_X7_67 (n := 56) rfl ?_
          refine j_bnd (fun r9 q8 => ?_)
          refine j_ci C (run_V C mi_X7_finding lm_X7_68 iv_X7_finding ⟨Nat.le_of_ble_eq_true rfl, Nat.le_of_ble_eq_true rfl⟩ (m_X7_finding _ _ _ q8) (cX_0 g _) rfl rfl rfl rfl (Nat.le_of_ble_eq_true rfl) dX7_maybe_56) (n := 59) rfl ?_
          exact j_retP C dX7_maybe_59
        · refine j_iload_n C dX7_maybe_40 rfl (n := 41) rfl ?_
          refine j_aload_n C dX7_maybe_41 rfl (n := 42) rfl ?_
          refine gf_X7_54 C 0 (cX_0 g _) rfl dX7_maybe_42 (n := 45) rfl ?_
          refine j_iload_n C dX7_maybe_45 rfl (n := 46) rfl ?_
          refine j_aald C 46 2 (cX_46 g _) rfl (by decide) (b := g.2.1 53) rfl dX7_maybe_46 rfl ?_
          refine gf_X7_241 C 53 (cX_53 g _) rfl dX7_maybe_47 (n := 50) rfl ?_
          refine j_icmp_lt C dX7_maybe_50 (tgt := 60) (n := 53) (by decide) rfl (fun q11 => ?_) (fun q11 => ?_)
          · refine j_aload_n C dX7_maybe_60 rfl (n := 61) rfl ?_
            refine gf_X7_32 C 0 (cX_0 g _) rfl dX7_maybe_61 (n := 64) rfl ?_
            refine j_aload_n C dX7_maybe_64 rfl (n := 65) rfl ?_
            refine gf_X7_12 C 0 (cX_0 g _) rfl dX7_maybe_65 (n := 68) rfl ?_
            refine j_aload_n C dX7_maybe_68 rfl (n := 69) rfl ?_
            refine gf_X7_54 C 0 (cX_0 g _) rfl dX7_maybe_69 (n := 72) rfl ?_
            refine j_iload_n C dX7_maybe_72 rfl (n := 73) rfl ?_
            refine j_aald C 46 2 (cX_46 g _) rfl (by decide) (b := g.2.1 53) rfl dX7_maybe_73 rfl ?_
            refine j_iload_n C dX7_maybe_74 rfl (n := 75) rfl ?_
            refine j_bnd (fun r13 q12 => ?_)
            refine j_ci C (run_V C mi_X6_headsFor lm_X7_244 iv_X6_headsFor ⟨Nat.le_of_ble_eq_true rfl, Nat.le_of_ble_eq_true rfl⟩ (m_X6_headsFor_53 _ _ _ _ q12) (cX_37 g _) rfl rfl rfl rfl (Nat.le_of_ble_eq_true rfl) dX7_maybe_75) (n := 78) rfl ?_
            exact j_retP C dX7_maybe_78
          · refine j_aload_n C dX7_maybe_53 rfl (n := 54) rfl ?_
            refine j_ldc C dX7_maybe_54 kc_X7_67 (n := 56) rfl ?_
            refine j_bnd (fun r16 q15 => ?_)
            refine j_ci C (run_V C mi_X7_finding lm_X7_68 iv_X7_finding ⟨Nat.le_of_ble_eq_true rfl, Nat.le_of_ble_eq_true rfl⟩ (m_X7_finding _ _ _ q15) (cX_0 g _) rfl rfl rfl rfl (Nat.le_of_ble_eq_true rfl) dX7_maybe_56) (n := 59) rfl ?_
            exact j_retP C dX7_maybe_59
      · refine j_aload_n C dX7_maybe_26 rfl (n := 27) rfl ?_
        refine j_ldc C dX7_maybe_27 kc_X7_236 (n := 29) rfl ?_
        refine j_bnd (fun r19 q18 => ?_)
        refine j_ci C (run_V C mi_X7_finding lm_X7_68 iv_X7_finding ⟨Nat.le_of_ble_eq_true rfl, Nat.le_of_ble_eq_true rfl⟩ (m_X7_finding _ _ _ q18) (cX_0 g _) rfl rfl rfl rfl (Nat.le_of_ble_eq_true rfl) dX7_maybe_29) (n := 32) rfl ?_
        exact j_retP C dX7_maybe_32
  · refine j_aload_n C dX7_maybe_7 rfl (n := 8) rfl ?_
    refine j_ldc C dX7_maybe_8 kc_X7_67 (n := 10) rfl ?_
    refine j_bnd (fun r22 q21 => ?_)
    refine j_ci C (run_V C mi_X7_finding lm_X7_68 iv_X7_finding ⟨Nat.le_of_ble_eq_true rfl, Nat.le_of_ble_eq_true rfl⟩ (m_X7_finding _ _ _ q21) (cX_0 g _) rfl rfl rfl rfl (Nat.le_of_ble_eq_true rfl) dX7_maybe_10) (n := 13) rfl ?_
    exact j_retP C dX7_maybe_13
-- X1_headsLike
set_option maxRecDepth 20000 in
theorem j_X1_headsLike_5 {x : Fx} {g : Gl} (C : Ok x g RX1 cX1_headsLike 5 (some .int)) (fu : Nat) (h : Hp) : ∀ (n : Nat) (x1 : Int32) (x2 : Int32) (x3 : Int32) (x4 : Int32), J x g cwX 5 4 (fun r : Int32 => qI cwX r h) 5 [some (rf g 1), some (.int x1), some (.int x2), some (.int x3), some (.int x4)] [] h (X1_headsLike_5 fu h n x1 x2 x3 x4) := by
  intro n
  induction n with
  | zero =>
    intro x1 x2 x3 x4
    rw [X1_headsLike_5]
    exact j_none
  | succ n ih =>
    intro x1 x2 x3 x4
    rw [X1_headsLike_5]
    refine j_iload C dX1_headsLike_5 rfl (n := 7) rfl ?_
    refine j_aload_n C dX1_headsLike_7 rfl (n := 8) rfl ?_
    refine gf_X1_61 C 1 (cX_1 g _) rfl dX1_headsLike_8 (n := 11) rfl ?_
    refine j_icmp_ge C dX1_headsLike_11 (tgt := 47) (n := 14) (by decide) rfl (fun q1 => ?_) (fun q1 => ?_)
    · refine j_iload_n C dX1_headsLike_47 rfl (n := 48) rfl ?_
      exact j_ret C dX1_headsLike_48
    · refine j_aload_n C dX1_headsLike_14 rfl (n := 15) rfl ?_
      refine j_iload C dX1_headsLike_15 rfl (n := 17) rfl ?_
      refine j_bnd (fun r3 q2 => ?_)
      refine j_cz C (run_V C mi_X1_isHead lm_X1_144 iv_X1_isHead ⟨Nat.le_of_ble_eq_true rfl, Nat.le_of_ble_eq_true rfl⟩ (m_X1_isHead _ _ _ _ q2) (cX_1 g _) rfl rfl rfl rfl (Nat.le_of_ble_eq_true rfl) dX1_headsLike_17) (n := 20) rfl (fun b4 => ?_)
      refine j_if_eq C dX1_headsLike_20 (tgt := 41) (n := 23) (by decide) rfl (fun q5 => ?_) (fun q5 => ?_)
      · refine j_iinc C dX1_headsLike_41 rfl ic_1 (Nat.le_of_ble_eq_true rfl) (n := 44) rfl ?_
        refine j_goto C dX1_headsLike_44 (n := 5) (by decide) ?_
        exact j_to (ih _ _ _ _) ⟨rfl, ⟨rfl, ⟨rfl, ⟨rfl, ⟨rfl, trivial⟩⟩⟩⟩⟩
      · refine j_aload_n C dX1_headsLike_23 rfl (n := 24) rfl ?_
        refine j_iload C dX1_headsLike_24 rfl (n := 26) rfl ?_
        refine j_iload_n C dX1_headsLike_26 rfl (n := 27) rfl ?_
        refine j_bnd (fun r7 q6 => ?_)
        refine j_ci C (run_V C mi_X1_likeTo lm_X1_97 iv_X1_likeTo ⟨Nat.le_of_ble_eq_true rfl, Nat.le_of_ble_eq_true rfl⟩ (m_X1_likeTo _ _ _ _ q6) (cX_1 g _) rfl rfl rfl rfl (Nat.le_of_ble_eq_true rfl) dX1_headsLike_27) (n := 30) rfl ?_
        refine j_iload_n C dX1_headsLike_30 rfl (n := 31) rfl ?_
        refine j_icmp_lt C dX1_headsLike_31 (tgt := 41) (n := 34) (by decide) rfl (fun q9 => ?_) (fun q9 => ?_)
        · refine j_iinc C dX1_headsLike_41 rfl ic_1 (Nat.le_of_ble_eq_true rfl) (n := 44) rfl ?_
          refine j_goto C dX1_headsLike_44 (n := 5) (by decide) ?_
          exact j_to (ih _ _ _ _) ⟨rfl, ⟨rfl, ⟨rfl, ⟨rfl, ⟨rfl, trivial⟩⟩⟩⟩⟩
        · refine j_iload_n C dX1_headsLike_34 rfl (n := 35) rfl ?_
          refine j_iconst C dX1_headsLike_35 ic_1 (n := 36) rfl ?_
          refine j_iload C dX1_headsLike_36 rfl (n := 38) rfl ?_
          refine j_ishl C dX1_headsLike_38 (n := 39) rfl ?_
          refine j_ior C dX1_headsLike_39 (n := 40) rfl ?_
          refine j_istore_n C dX1_headsLike_40 (Nat.le_of_ble_eq_true rfl) (n := 41) rfl ?_
          refine j_iinc C dX1_headsLike_41 rfl ic_1 (Nat.le_of_ble_eq_true rfl) (n := 44) rfl ?_
          refine j_goto C dX1_headsLike_44 (n := 5) (by decide) ?_
          exact j_to (ih _ _ _ _) ⟨rfl, ⟨rfl, ⟨rfl, ⟨rfl, ⟨rfl, trivial⟩⟩⟩⟩⟩
set_option maxRecDepth 20000 in
theorem m_X1_headsLike (l : Launch) (fu : Nat) (x1 : Int32) (x2 : Int32) (h : Hp) {r : Int32} (e : X1_headsLike fu x1 x2 h = some r) : CT l yX1_headsLike cX1_headsLike 5 (some .int) 4 cwX (fun g => [rf g 1, .int x1, .int x2]) h (qI cwX r h) := by
  refine ct_of (QR := (fun r : Int32 => qI cwX r h)) (by decide +kernel) (fun g => ⟨rfl, Nat.le_of_ble_eq_true rfl⟩) e (fun x g hl C => ?_)
  unfold X1_headsLike
  refine j_iconst C dX1_headsLike_0 ic_0 (n := 1) rfl ?_
  refine j_istore_n C dX1_headsLike_1 (Nat.le_of_ble_eq_true rfl) (n := 2) rfl ?_
  refine j_iconst C dX1_headsLike_2 ic_0 (n := 3) rfl ?_
  refine j_istore C dX1_headsLike_3 (Nat.le_of_ble_eq_true rfl) (n := 5) rfl ?_
  exact j_to (j_X1_headsLike_5 C _ _ _ _ _ _ _) ⟨rfl, ⟨rfl, ⟨rfl, ⟨rfl, ⟨rfl, trivial⟩⟩⟩⟩⟩
-- X7_stand
set_option maxRecDepth 20000 in
theorem j_X7_stand_41 {x : Fx} {g : Gl} (C : Ok x g RX7 cX7_stand 5 (some .int)) (fu : Nat) : ∀ (n : Nat) (x1 : Int32) (x2 : Int32) (x3 : Int32) (x4 : Int32) (h : Hp), J x g cwX 5 5 (fun r : Int32 × Hp => qI cwX r.1 r.2) 41 [some (rf g 0), some (.int x1), some (.int x2), some (.int x3), some (.int x4)] [] h (X7_stand_41 fu n x1 x2 x3 x4 h) := by
  intro n
  induction n with
  | zero =>
    intro x1 x2 x3 x4 h
    rw [X7_stand_41]
    exact j_none
  | succ n ih =>
    intro x1 x2 x3 x4 h
    rw [X7_stand_41]
    refine j_iload C dX7_stand_41 rfl (n := 43) rfl ?_
    refine j_bipush C dX7_stand_43 bp_6 (n := 45) rfl ?_
    refine j_icmp_ge C dX7_stand_45 (tgt := 78) (n := 48) (by decide) rfl (fun q1 => ?_) (fun q1 => ?_)
    · refine j_iload_n C dX7_stand_78 rfl (n := 79) rfl ?_
      exact j_retP C dX7_stand_79
    · refine j_aload_n C dX7_stand_48 rfl (n := 49) rfl ?_
      refine gf_X7_12 C 0 (cX_0 g _) rfl dX7_stand_49 (n := 52) rfl ?_
      refine j_iload C dX7_stand_52 rfl (n := 54) rfl ?_
      refine j_iload_n C dX7_stand_54 rfl (n := 55) rfl ?_
      refine j_bnd (fun r3 q2 => ?_)
      refine j_ci C (run_V C mi_X1_headsLike lm_X7_248 iv_X1_headsLike ⟨Nat.le_of_ble_eq_true rfl, Nat.le_of_ble_eq_true rfl⟩ (m_X1_headsLike _ _ _ _ _ q2) (cX_1 g _) rfl rfl rfl rfl (Nat.le_of_ble_eq_true rfl) dX7_stand_55) (n := 58) rfl ?_
      refine j_iload_n C dX7_stand_58 rfl (n := 59) rfl ?_
      refine j_iconst C dX7_stand_59 ic_m1 (n := 60) rfl ?_
      refine j_ixor C dX7_stand_60 (n := 61) rfl ?_
      refine j_iand C dX7_stand_61 (n := 62) rfl ?_
      refine j_if_eq C dX7_stand_62 (tgt := 72) (n := 65) (by decide) rfl (fun q5 => ?_) (fun q5 => ?_)
      · refine j_iinc C dX7_stand_72 rfl ic_1 (Nat.le_of_ble_eq_true rfl) (n := 75) rfl ?_
        refine j_goto C dX7_stand_75 (n := 41) (by decide) ?_
        exact j_to (ih _ _ _ _ _) ⟨rfl, ⟨rfl, ⟨rfl, ⟨rfl, ⟨rfl, trivial⟩⟩⟩⟩⟩
      · refine j_iload_n C dX7_stand_65 rfl (n := 66) rfl ?_
        refine j_iconst C dX7_stand_66 ic_1 (n := 67) rfl ?_
        refine j_iload C dX7_stand_67 rfl (n := 69) rfl ?_
        refine j_ishl C dX7_stand_69 (n := 70) rfl ?_
        refine j_ior C dX7_stand_70 (n := 71) rfl ?_
        refine j_istore_n C dX7_stand_71 (Nat.le_of_ble_eq_true rfl) (n := 72) rfl ?_
        refine j_iinc C dX7_stand_72 rfl ic_1 (Nat.le_of_ble_eq_true rfl) (n := 75) rfl ?_
        refine j_goto C dX7_stand_75 (n := 41) (by decide) ?_
        exact j_to (ih _ _ _ _ _) ⟨rfl, ⟨rfl, ⟨rfl, ⟨rfl, ⟨rfl, trivial⟩⟩⟩⟩⟩
set_option maxRecDepth 20000 in
theorem m_X7_stand (l : Launch) (fu : Nat) (x1 : Int32) (x2 : Int32) (h : Hp) {r : Int32 × Hp} (e : X7_stand fu x1 x2 h = some r) : CT l yX7_stand cX7_stand 5 (some .int) 5 cwX (fun g => [rf g 0, .int x1, .int x2]) h (qI cwX r.1 r.2) := by
  refine ct_of (QR := (fun r : Int32 × Hp => qI cwX r.1 r.2)) (by decide +kernel) (fun g => ⟨rfl, Nat.le_of_ble_eq_true rfl⟩) e (fun x g hl C => ?_)
  unfold X7_stand
  refine j_iload_n C dX7_stand_0 rfl (n := 1) rfl ?_
  refine j_iconst C dX7_stand_1 ic_0 (n := 2) rfl ?_
  refine j_iconst C dX7_stand_2 ic_1 (n := 3) rfl ?_
  refine j_aload_n C dX7_stand_3 rfl (n := 4) rfl ?_
  refine gf_X7_12 C 0 (cX_0 g _) rfl dX7_stand_4 (n := 7) rfl ?_
  refine gf_X7_72 C 1 (cX_1 g _) rfl dX7_stand_7 (n := 10) rfl ?_
  refine j_ishl C dX7_stand_10 (n := 11) rfl ?_
  refine j_iconst C dX7_stand_11 ic_1 (n := 12) rfl ?_
  refine j_isub C dX7_stand_12 (n := 13) rfl ?_
  refine j_cz C (run_S C mi_X7_within lm_X7_94 st_X7_within ⟨Nat.le_of_ble_eq_true rfl, Nat.le_of_ble_eq_true rfl⟩ (m_X7_within _ _ _ _ _) rfl rfl rfl (Nat.le_of_ble_eq_true rfl) dX7_stand_13) (n := 16) rfl (fun b1 => ?_)
  refine j_if_eq C dX7_stand_16 (tgt := 29) (n := 19) (by decide) rfl (fun q2 => ?_) (fun q2 => ?_)
  · refine j_aload_n C dX7_stand_29 rfl (n := 30) rfl ?_
    refine j_ldc C dX7_stand_30 kc_X7_67 (n := 32) rfl ?_
    refine j_bnd (fun r4 q3 => ?_)
    refine j_ci C (run_V C mi_X7_finding lm_X7_68 iv_X7_finding ⟨Nat.le_of_ble_eq_true rfl, Nat.le_of_ble_eq_true rfl⟩ (m_X7_finding _ _ _ q3) (cX_0 g _) rfl rfl rfl rfl (Nat.le_of_ble_eq_true rfl) dX7_stand_32) (n := 35) rfl ?_
    exact j_retP C dX7_stand_35
  · refine j_iload_n C dX7_stand_19 rfl (n := 20) rfl ?_
    refine j_iconst C dX7_stand_20 ic_0 (n := 21) rfl ?_
    refine j_bipush C dX7_stand_21 bp_99 (n := 23) rfl ?_
    refine j_cz C (run_S C mi_X7_within lm_X7_94 st_X7_within ⟨Nat.le_of_ble_eq_true rfl, Nat.le_of_ble_eq_true rfl⟩ (m_X7_within _ _ _ _ _) rfl rfl rfl (Nat.le_of_ble_eq_true rfl) dX7_stand_23) (n := 26) rfl (fun b6 => ?_)
    refine j_if_ne C dX7_stand_26 (tgt := 36) (n := 29) (by decide) rfl (fun q7 => ?_) (fun q7 => ?_)
    · refine j_iconst C dX7_stand_36 ic_0 (n := 37) rfl ?_
      refine j_istore_n C dX7_stand_37 (Nat.le_of_ble_eq_true rfl) (n := 38) rfl ?_
      refine j_iconst C dX7_stand_38 ic_0 (n := 39) rfl ?_
      refine j_istore C dX7_stand_39 (Nat.le_of_ble_eq_true rfl) (n := 41) rfl ?_
      exact j_to (j_X7_stand_41 C _ _ _ _ _ _ _) ⟨rfl, ⟨rfl, ⟨rfl, ⟨rfl, ⟨rfl, trivial⟩⟩⟩⟩⟩
    · refine j_aload_n C dX7_stand_29 rfl (n := 30) rfl ?_
      refine j_ldc C dX7_stand_30 kc_X7_67 (n := 32) rfl ?_
      refine j_bnd (fun r9 q8 => ?_)
      refine j_ci C (run_V C mi_X7_finding lm_X7_68 iv_X7_finding ⟨Nat.le_of_ble_eq_true rfl, Nat.le_of_ble_eq_true rfl⟩ (m_X7_finding _ _ _ q8) (cX_0 g _) rfl rfl rfl rfl (Nat.le_of_ble_eq_true rfl) dX7_stand_32) (n := 35) rfl ?_
      exact j_retP C dX7_stand_35
-- X7_fire
set_option maxRecDepth 20000 in
theorem m_X7_fire (l : Launch) (fu : Nat) (x1 : Int32) (x2 : Int32) (h : Hp) {r : Int32 × Hp} (e : X7_fire fu x1 x2 h = some r) : CT l yX7_fire cX7_fire 3 (some .int) 5 cwX (fun g => [rf g 0, .int x1, .int x2]) h (qI cwX r.1 r.2) := by
  refine ct_of (QR := (fun r : Int32 × Hp => qI cwX r.1 r.2)) (by decide +kernel) (fun g => ⟨rfl, Nat.le_of_ble_eq_true rfl⟩) e (fun x g hl C => ?_)
  unfold X7_fire
  refine j_iload_n C dX7_fire_0 rfl (n := 1) rfl ?_
  refine j_cz C (run_S C mi_X7_isFace lm_X7_98 st_X7_isFace ⟨Nat.le_of_ble_eq_true rfl, Nat.le_of_ble_eq_true rfl⟩ (m_X7_isFace _ _ _) rfl rfl rfl (Nat.le_of_ble_eq_true rfl) dX7_fire_1) (n := 4) rfl (fun b1 => ?_)
  refine j_if_eq C dX7_fire_4 (tgt := 17) (n := 7) (by decide) rfl (fun q2 => ?_) (fun q2 => ?_)
  · refine j_aload_n C dX7_fire_17 rfl (n := 18) rfl ?_
    refine j_ldc C dX7_fire_18 kc_X7_67 (n := 20) rfl ?_
    refine j_bnd (fun r4 q3 => ?_)
    refine j_ci C (run_V C mi_X7_finding lm_X7_68 iv_X7_finding ⟨Nat.le_of_ble_eq_true rfl, Nat.le_of_ble_eq_true rfl⟩ (m_X7_finding _ _ _ q3) (cX_0 g _) rfl rfl rfl rfl (Nat.le_of_ble_eq_true rfl) dX7_fire_20) (n := 23) rfl ?_
    exact j_retP C dX7_fire_23
  · refine j_iload_n C dX7_fire_7 rfl (n := 8) rfl ?_
    refine j_iconst C dX7_fire_8 ic_0 (n := 9) rfl ?_
    refine j_bipush C dX7_fire_9 bp_99 (n := 11) rfl ?_
    refine j_cz C (run_S C mi_X7_within lm_X7_94 st_X7_within ⟨Nat.le_of_ble_eq_true rfl, Nat.le_of_ble_eq_true rfl⟩ (m_X7_within _ _ _ _ _) rfl rfl rfl (Nat.le_of_ble_eq_true rfl) dX7_fire_11) (n := 14) rfl (fun b6 => ?_)
    refine j_if_ne C dX7_fire_14 (tgt := 24) (n := 17) (by decide) rfl (fun q7 => ?_) (fun q7 => ?_)
    · refine j_aload_n C dX7_fire_24 rfl (n := 25) rfl ?_
      refine gf_X7_12 C 0 (cX_0 g _) rfl dX7_fire_25 (n := 28) rfl ?_
      refine j_iload_n C dX7_fire_28 rfl (n := 29) rfl ?_
      refine j_iload_n C dX7_fire_29 rfl (n := 30) rfl ?_
      refine j_bnd (fun r9 q8 => ?_)
      refine j_ci C (run_V C mi_X1_headsLike lm_X7_248 iv_X1_headsLike ⟨Nat.le_of_ble_eq_true rfl, Nat.le_of_ble_eq_true rfl⟩ (m_X1_headsLike _ _ _ _ _ q8) (cX_1 g _) rfl rfl rfl rfl (Nat.le_of_ble_eq_true rfl) dX7_fire_30) (n := 33) rfl ?_
      exact j_retP C dX7_fire_33
    · refine j_aload_n C dX7_fire_17 rfl (n := 18) rfl ?_
      refine j_ldc C dX7_fire_18 kc_X7_67 (n := 20) rfl ?_
      refine j_bnd (fun r12 q11 => ?_)
      refine j_ci C (run_V C mi_X7_finding lm_X7_68 iv_X7_finding ⟨Nat.le_of_ble_eq_true rfl, Nat.le_of_ble_eq_true rfl⟩ (m_X7_finding _ _ _ q11) (cX_0 g _) rfl rfl rfl rfl (Nat.le_of_ble_eq_true rfl) dX7_fire_20) (n := 23) rfl ?_
      exact j_retP C dX7_fire_23
-- X1_draw
set_option maxRecDepth 20000 in
theorem m_X1_draw (l : Launch) (h : Hp) {r : Int32 × Hp} (e : X1_draw h = some r) : CT l yX1_draw cX1_draw 1 (some .int) 0 cwX (fun g => [rf g 1]) h (qI cwX r.1 r.2) := by
  refine ct_of (QR := (fun r : Int32 × Hp => qI cwX r.1 r.2)) (by decide +kernel) (fun g => ⟨rfl, Nat.le_of_ble_eq_true rfl⟩) e (fun x g hl C => ?_)
  unfold X1_draw
  refine j_aload_n C dX1_draw_0 rfl (n := 1) rfl ?_
  refine j_aload_n C dX1_draw_1 rfl (n := 2) rfl ?_
  refine gf_X1_46 C 1 (cX_1 g _) rfl dX1_draw_2 (n := 5) rfl ?_
  refine j_ldc C dX1_draw_5 kc_X1_147 (n := 7) rfl ?_
  refine j_imul C dX1_draw_7 (n := 8) rfl ?_
  refine j_sipush C dX1_draw_8 sp_12345 (n := 11) rfl ?_
  refine j_iadd C dX1_draw_11 (n := 12) rfl ?_
  refine pf_X1_46 C 1 (cX_1 g _) (sX_1_14 g _ _) rfl dX1_draw_12 (n := 15) rfl ?_
  refine j_aload_n C dX1_draw_15 rfl (n := 16) rfl ?_
  refine gf_X1_46 C 1 (cX_1 g _) rfl dX1_draw_16 (n := 19) rfl ?_
  refine j_bipush C dX1_draw_19 bp_8 (n := 21) rfl ?_
  refine j_iushr C dX1_draw_21 (n := 22) rfl ?_
  exact j_retP C dX1_draw_22
-- X7_papers
set_option maxRecDepth 20000 in
theorem j_X7_papers_19 {x : Fx} {g : Gl} (C : Ok x g RX7 cX7_papers 4 (some .int)) (fu : Nat) : ∀ (n : Nat) (x1 : Int32) (x2 : Int32) (h : Hp), J x g cwX 4 6 (fun r : Int32 × Hp => qI cwX r.1 r.2) 19 [some (rf g 0), some (.int x1), some (.int x2)] [] h (X7_papers_19 fu n x1 x2 h) := by
  intro n
  induction n with
  | zero =>
    intro x1 x2 h
    rw [X7_papers_19]
    exact j_none
  | succ n ih =>
    intro x1 x2 h
    rw [X7_papers_19]
    refine j_iload_n C dX7_papers_19 rfl (n := 20) rfl ?_
    refine j_iload_n C dX7_papers_20 rfl (n := 21) rfl ?_
    refine j_icmp_ge C dX7_papers_21 (tgt := 60) (n := 24) (by decide) rfl (fun q1 => ?_) (fun q1 => ?_)
    · refine j_aload_n C dX7_papers_60 rfl (n := 61) rfl ?_
      refine gf_X7_25 C 0 (cX_0 g _) rfl dX7_papers_61 (n := 64) rfl ?_
      refine j_aload_n C dX7_papers_64 rfl (n := 65) rfl ?_
      refine gf_X7_12 C 0 (cX_0 g _) rfl dX7_papers_65 (n := 68) rfl ?_
      refine j_bnd (fun r3 q2 => ?_)
      refine j_ci C (run_V C mi_X0_bestWorth lm_X7_180 iv_X0_bestWorth ⟨Nat.le_of_ble_eq_true rfl, Nat.le_of_ble_eq_true rfl⟩ (m_X0_bestWorth _ _ _ q2) (cX_34 g _) rfl rfl rfl rfl (Nat.le_of_ble_eq_true rfl) dX7_papers_68) (n := 71) rfl ?_
      exact j_retP C dX7_papers_71
    · refine j_aload_n C dX7_papers_24 rfl (n := 25) rfl ?_
      refine gf_X7_12 C 0 (cX_0 g _) rfl dX7_papers_25 (n := 28) rfl ?_
      refine j_bnd (fun r6 q5 => ?_)
      refine j_ci C (run_V C mi_X1_draw lm_X7_251 iv_X1_draw ⟨Nat.le_of_ble_eq_true rfl, Nat.le_of_ble_eq_true rfl⟩ (m_X1_draw _ _ q5) (cX_1 g _) rfl rfl rfl rfl (Nat.le_of_ble_eq_true rfl) dX7_papers_28) (n := 31) rfl ?_
      refine j_bipush C dX7_papers_31 bp_6 (n := 33) rfl ?_
      refine j_iremL C dX7_papers_33 (by decide) (n := 34) rfl ?_
      refine j_istore_n C dX7_papers_34 (Nat.le_of_ble_eq_true rfl) (n := 35) rfl ?_
      refine j_aload_n C dX7_papers_35 rfl (n := 36) rfl ?_
      refine gf_X7_12 C 0 (cX_0 g _) rfl dX7_papers_36 (n := 39) rfl ?_
      refine gf_X7_110 C 1 (cX_1 g _) rfl dX7_papers_39 (n := 42) rfl ?_
      refine j_iload_n C dX7_papers_42 rfl (n := 43) rfl ?_
      refine j_aload_n C dX7_papers_43 rfl (n := 44) rfl ?_
      refine gf_X7_12 C 0 (cX_0 g _) rfl dX7_papers_44 (n := 47) rfl ?_
      refine j_bnd (fun r9 q8 => ?_)
      refine j_ci C (run_V C mi_X1_draw lm_X7_251 iv_X1_draw ⟨Nat.le_of_ble_eq_true rfl, Nat.le_of_ble_eq_true rfl⟩ (m_X1_draw _ _ q8) (cX_1 g _) rfl rfl rfl rfl (Nat.le_of_ble_eq_true rfl) dX7_papers_47) (n := 50) rfl ?_
      refine j_bipush C dX7_papers_50 bp_6 (n := 52) rfl ?_
      refine j_iremL C dX7_papers_52 (by decide) (n := 53) rfl ?_
      refine j_iast C 8 (cX_8 g _) (aX_8 g _ _ _) dX7_papers_53 (n := 54) rfl ?_
      refine j_iinc C dX7_papers_54 rfl ic_1 (Nat.le_of_ble_eq_true rfl) (n := 57) rfl ?_
      refine j_goto C dX7_papers_57 (n := 19) (by decide) ?_
      exact j_to (ih _ _ _) ⟨rfl, ⟨rfl, ⟨rfl, trivial⟩⟩⟩
set_option maxRecDepth 20000 in
theorem m_X7_papers (l : Launch) (fu : Nat) (x1 : Int32) (h : Hp) {r : Int32 × Hp} (e : X7_papers fu x1 h = some r) : CT l yX7_papers cX7_papers 4 (some .int) 6 cwX (fun g => [rf g 0, .int x1]) h (qI cwX r.1 r.2) := by
  refine ct_of (QR := (fun r : Int32 × Hp => qI cwX r.1 r.2)) (by decide +kernel) (fun g => ⟨rfl, Nat.le_of_ble_eq_true rfl⟩) e (fun x g hl C => ?_)
  unfold X7_papers
  refine j_iload_n C dX7_papers_0 rfl (n := 1) rfl ?_
  refine j_iconst C dX7_papers_1 ic_1 (n := 2) rfl ?_
  refine j_bipush C dX7_papers_2 bp_12 (n := 4) rfl ?_
  refine j_cz C (run_S C mi_X7_within lm_X7_94 st_X7_within ⟨Nat.le_of_ble_eq_true rfl, Nat.le_of_ble_eq_true rfl⟩ (m_X7_within _ _ _ _ _) rfl rfl rfl (Nat.le_of_ble_eq_true rfl) dX7_papers_4) (n := 7) rfl (fun b1 => ?_)
  refine j_if_ne C dX7_papers_7 (tgt := 17) (n := 10) (by decide) rfl (fun q2 => ?_) (fun q2 => ?_)
  · refine j_iconst C dX7_papers_17 ic_0 (n := 18) rfl ?_
    refine j_istore_n C dX7_papers_18 (Nat.le_of_ble_eq_true rfl) (n := 19) rfl ?_
    exact j_to (j_X7_papers_19 C _ _ _ _ _) ⟨rfl, ⟨rfl, ⟨rfl, trivial⟩⟩⟩
  · refine j_aload_n C dX7_papers_10 rfl (n := 11) rfl ?_
    refine j_ldc C dX7_papers_11 kc_X7_67 (n := 13) rfl ?_
    refine j_bnd (fun r4 q3 => ?_)
    refine j_ci C (run_V C mi_X7_finding lm_X7_68 iv_X7_finding ⟨Nat.le_of_ble_eq_true rfl, Nat.le_of_ble_eq_true rfl⟩ (m_X7_finding _ _ _ q3) (cX_0 g _) rfl rfl rfl rfl (Nat.le_of_ble_eq_true rfl) dX7_papers_13) (n := 16) rfl ?_
    exact j_retP C dX7_papers_16
-- X7_seed
set_option maxRecDepth 20000 in
theorem m_X7_seed (l : Launch) (x1 : Int32) (h : Hp) {r : Int32 × Hp} (e : X7_seed x1 h = some r) : CT l yX7_seed cX7_seed 3 (some .int) 0 cwX (fun g => [rf g 0, .int x1]) h (qI cwX r.1 r.2) := by
  refine ct_of (QR := (fun r : Int32 × Hp => qI cwX r.1 r.2)) (by decide +kernel) (fun g => ⟨rfl, Nat.le_of_ble_eq_true rfl⟩) e (fun x g hl C => ?_)
  unfold X7_seed
  refine j_aload_n C dX7_seed_0 rfl (n := 1) rfl ?_
  refine gf_X7_12 C 0 (cX_0 g _) rfl dX7_seed_1 (n := 4) rfl ?_
  refine gf_X7_254 C 1 (cX_1 g _) rfl dX7_seed_4 (n := 7) rfl ?_
  refine j_istore_n C dX7_seed_7 (Nat.le_of_ble_eq_true rfl) (n := 8) rfl ?_
  refine j_aload_n C dX7_seed_8 rfl (n := 9) rfl ?_
  refine gf_X7_12 C 0 (cX_0 g _) rfl dX7_seed_9 (n := 12) rfl ?_
  refine j_iload_n C dX7_seed_12 rfl (n := 13) rfl ?_
  refine pf_X7_254 C 1 (cX_1 g _) (sX_1_14 g _ _) rfl dX7_seed_13 (n := 16) rfl ?_
  refine j_iload_n C dX7_seed_16 rfl (n := 17) rfl ?_
  exact j_retP C dX7_seed_17
-- X5_append
set_option maxRecDepth 20000 in
theorem m_X5_append (l : Launch) (x1 : Int32) (h : Hp) {r : Hp} (e : X5_append x1 h = some r) : CT l yX5_append cX5_append 2 none 0 cwX (fun g => [rf g 40, .int x1]) h (qV cwX r) := by
  refine ct_of (QR := (fun r : Hp => qV cwX r)) (by decide +kernel) (fun g => ⟨rfl, Nat.le_of_ble_eq_true rfl⟩) e (fun x g hl C => ?_)
  unfold X5_append
  refine j_aload_n C dX5_append_0 rfl (n := 1) rfl ?_
  refine gf_X5_9 C 40 (cX_40 g _) rfl dX5_append_1 (n := 4) rfl ?_
  refine j_aload_n C dX5_append_4 rfl (n := 5) rfl ?_
  refine gf_X5_15 C 40 (cX_40 g _) rfl dX5_append_5 (n := 8) rfl ?_
  refine j_iload_n C dX5_append_8 rfl (n := 9) rfl ?_
  refine j_bast C 41 (cX_41 g _) (aX_41 g _ _ _) dX5_append_9 (n := 10) rfl ?_
  refine j_aload_n C dX5_append_10 rfl (n := 11) rfl ?_
  refine j_dup C dX5_append_11 rfl (n := 12) rfl ?_
  refine gf_X5_15 C 40 (cX_40 g _) rfl dX5_append_12 (n := 15) rfl ?_
  refine j_iconst C dX5_append_15 ic_1 (n := 16) rfl ?_
  refine j_iadd C dX5_append_16 (n := 17) rfl ?_
  refine pf_X5_15 C 40 (cX_40 g _) (sX_40_1 g _ _) rfl dX5_append_17 (n := 20) rfl ?_
  exact j_retV C dX5_append_20
-- X7_feed
set_option maxRecDepth 20000 in
theorem j_X7_feed_41 {x : Fx} {g : Gl} (C : Ok x g RX7 cX7_feed 4 (some .int)) (fu : Nat) : ∀ (n : Nat) (x1 : Int32) (x3 : Int32) (h : Hp), J x g cwX 4 2 (fun r : Int32 × Hp => qI cwX r.1 r.2) 41 [some (rf g 0), some (.int x1), none, some (.int x3)] [] h (X7_feed_41 fu n x1 x3 h) := by
  intro n
  induction n with
  | zero =>
    intro x1 x3 h
    rw [X7_feed_41]
    exact j_none
  | succ n ih =>
    intro x1 x3 h
    rw [X7_feed_41]
    refine j_iload_n C dX7_feed_41 rfl (n := 42) rfl ?_
    refine j_if_lt C dX7_feed_42 (tgt := 65) (n := 45) (by decide) rfl (fun q1 => ?_) (fun q1 => ?_)
    · refine j_aload_n C dX7_feed_65 rfl (n := 66) rfl ?_
      refine gf_X7_39 C 0 (cX_0 g _) rfl dX7_feed_66 (n := 69) rfl ?_
      refine gf_X7_257 C 40 (cX_40 g _) rfl dX7_feed_69 (n := 72) rfl ?_
      exact j_retP C dX7_feed_72
    · refine j_aload_n C dX7_feed_45 rfl (n := 46) rfl ?_
      refine gf_X7_39 C 0 (cX_0 g _) rfl dX7_feed_46 (n := 49) rfl ?_
      refine j_iload_n C dX7_feed_49 rfl (n := 50) rfl ?_
      refine j_bipush C dX7_feed_50 bp_8 (n := 52) rfl ?_
      refine j_iload_n C dX7_feed_52 rfl (n := 53) rfl ?_
      refine j_imul C dX7_feed_53 (n := 54) rfl ?_
      refine j_ishr C dX7_feed_54 (n := 55) rfl ?_
      refine j_i2b C dX7_feed_55 (n := 56) rfl ?_
      refine j_bnd (fun h3 q2 => ?_)
      refine j_cv C (run_V C mi_X5_append lm_X7_260 iv_X5_append ⟨Nat.le_of_ble_eq_true rfl, Nat.le_of_ble_eq_true rfl⟩ (m_X5_append _ _ _ q2) (cX_40 g _) rfl rfl rfl rfl (Nat.le_of_ble_eq_true rfl) dX7_feed_56) (n := 59) rfl ?_
      refine j_iinc C dX7_feed_59 rfl ic_m1 (Nat.le_of_ble_eq_true rfl) (n := 62) rfl ?_
      refine j_goto C dX7_feed_62 (n := 41) (by decide) ?_
      exact j_to (ih _ _ _) ⟨rfl, ⟨rfl, ⟨rfl, trivial⟩⟩⟩
set_option maxRecDepth 20000 in
theorem m_X7_feed (l : Launch) (fu : Nat) (x1 : Int32) (x2 : Int32) (h : Hp) {r : Int32 × Hp} (e : X7_feed fu x1 x2 h = some r) : CT l yX7_feed cX7_feed 4 (some .int) 2 cwX (fun g => [rf g 0, .int x1, .int x2]) h (qI cwX r.1 r.2) := by
  refine ct_of (QR := (fun r : Int32 × Hp => qI cwX r.1 r.2)) (by decide +kernel) (fun g => ⟨rfl, Nat.le_of_ble_eq_true rfl⟩) e (fun x g hl C => ?_)
  unfold X7_feed
  refine j_iload_n C dX7_feed_0 rfl (n := 1) rfl ?_
  refine j_iconst C dX7_feed_1 ic_1 (n := 2) rfl ?_
  refine j_iconst C dX7_feed_2 ic_4 (n := 3) rfl ?_
  refine j_cz C (run_S C mi_X7_within lm_X7_94 st_X7_within ⟨Nat.le_of_ble_eq_true rfl, Nat.le_of_ble_eq_true rfl⟩ (m_X7_within _ _ _ _ _) rfl rfl rfl (Nat.le_of_ble_eq_true rfl) dX7_feed_3) (n := 6) rfl (fun b1 => ?_)
  refine j_if_ne C dX7_feed_6 (tgt := 16) (n := 9) (by decide) rfl (fun q2 => ?_) (fun q2 => ?_)
  · refine j_aload_n C dX7_feed_16 rfl (n := 17) rfl ?_
    refine gf_X7_39 C 0 (cX_0 g _) rfl dX7_feed_17 (n := 20) rfl ?_
    refine gf_X7_257 C 40 (cX_40 g _) rfl dX7_feed_20 (n := 23) rfl ?_
    refine j_iload_n C dX7_feed_23 rfl (n := 24) rfl ?_
    refine j_iadd C dX7_feed_24 (n := 25) rfl ?_
    refine j_bipush C dX7_feed_25 bp_120 (n := 27) rfl ?_
    refine j_icmp_le C dX7_feed_27 (tgt := 37) (n := 30) (by decide) rfl (fun q3 => ?_) (fun q3 => ?_)
    · refine j_iload_n C dX7_feed_37 rfl (n := 38) rfl ?_
      refine j_iconst C dX7_feed_38 ic_1 (n := 39) rfl ?_
      refine j_isub C dX7_feed_39 (n := 40) rfl ?_
      refine j_istore_n C dX7_feed_40 (Nat.le_of_ble_eq_true rfl) (n := 41) rfl ?_
      exact j_to (j_X7_feed_41 C _ _ _ _ _) ⟨rfl, ⟨rfl, ⟨rfl, trivial⟩⟩⟩
    · refine j_aload_n C dX7_feed_30 rfl (n := 31) rfl ?_
      refine j_ldc C dX7_feed_31 kc_X7_76 (n := 33) rfl ?_
      refine j_bnd (fun r5 q4 => ?_)
      refine j_ci C (run_V C mi_X7_finding lm_X7_68 iv_X7_finding ⟨Nat.le_of_ble_eq_true rfl, Nat.le_of_ble_eq_true rfl⟩ (m_X7_finding _ _ _ q4) (cX_0 g _) rfl rfl rfl rfl (Nat.le_of_ble_eq_true rfl) dX7_feed_33) (n := 36) rfl ?_
      exact j_retP C dX7_feed_36
  · refine j_aload_n C dX7_feed_9 rfl (n := 10) rfl ?_
    refine j_ldc C dX7_feed_10 kc_X7_67 (n := 12) rfl ?_
    refine j_bnd (fun r8 q7 => ?_)
    refine j_ci C (run_V C mi_X7_finding lm_X7_68 iv_X7_finding ⟨Nat.le_of_ble_eq_true rfl, Nat.le_of_ble_eq_true rfl⟩ (m_X7_finding _ _ _ q7) (cX_0 g _) rfl rfl rfl rfl (Nat.le_of_ble_eq_true rfl) dX7_feed_12) (n := 15) rfl ?_
    exact j_retP C dX7_feed_15
-- X7_wipe
set_option maxRecDepth 20000 in
theorem m_X7_wipe (l : Launch) (h : Hp) {r : Int32 × Hp} (e : X7_wipe h = some r) : CT l yX7_wipe cX7_wipe 2 (some .int) 0 cwX (fun g => [rf g 0]) h (qI cwX r.1 r.2) := by
  refine ct_of (QR := (fun r : Int32 × Hp => qI cwX r.1 r.2)) (by decide +kernel) (fun g => ⟨rfl, Nat.le_of_ble_eq_true rfl⟩) e (fun x g hl C => ?_)
  unfold X7_wipe
  refine j_aload_n C dX7_wipe_0 rfl (n := 1) rfl ?_
  refine gf_X7_39 C 0 (cX_0 g _) rfl dX7_wipe_1 (n := 4) rfl ?_
  refine gf_X7_257 C 40 (cX_40 g _) rfl dX7_wipe_4 (n := 7) rfl ?_
  refine j_istore_n C dX7_wipe_7 (Nat.le_of_ble_eq_true rfl) (n := 8) rfl ?_
  refine j_aload_n C dX7_wipe_8 rfl (n := 9) rfl ?_
  refine gf_X7_39 C 0 (cX_0 g _) rfl dX7_wipe_9 (n := 12) rfl ?_
  refine j_iconst C dX7_wipe_12 ic_0 (n := 13) rfl ?_
  refine pf_X7_257 C 40 (cX_40 g _) (sX_40_1 g _ _) rfl dX7_wipe_13 (n := 16) rfl ?_
  refine j_iload_n C dX7_wipe_16 rfl (n := 17) rfl ?_
  exact j_retP C dX7_wipe_17
-- X1_become
set_option maxRecDepth 20000 in
theorem j_X1_become_186_23_1 {x : Fx} {g : Gl} (C : Ok x g RX1 cX1_become 2 none) (s1 : Int32) (h : Hp) : J x g cwX 2 1 (fun r : Hp => qV cwX r) 186 [] [.int s1, rf g 23] h (X1_become_186 23 1 s1 h) := by
  unfold X1_become_186
  refine pf_X1_46 C 23 (cX_23 g _) (sX_23_14 g _ _) rfl dX1_become_186 (n := 189) rfl ?_
  exact j_retV C dX1_become_189
set_option maxRecDepth 20000 in
theorem j_X1_become_149_23_1 {x : Fx} {g : Gl} (C : Ok x g RX1 cX1_become 2 none) (h : Hp) : J x g cwX 2 1 (fun r : Hp => qV cwX r) 149 [some (rf g 23), some (rf g 1)] [] h (X1_become_149 23 1 h) := by
  unfold X1_become_149
  refine j_aload_n C dX1_become_149 rfl (n := 150) rfl ?_
  refine j_aload_n C dX1_become_150 rfl (n := 151) rfl ?_
  refine gf_X1_61 C 1 (cX_1 g _) rfl dX1_become_151 (n := 154) rfl ?_
  refine pf_X1_61 C 23 (cX_23 g _) (sX_23_10 g _ _) rfl dX1_become_154 (n := 157) rfl ?_
  refine j_aload_n C dX1_become_157 rfl (n := 158) rfl ?_
  refine j_aload_n C dX1_become_158 rfl (n := 159) rfl ?_
  refine gf_X1_64 C 1 (cX_1 g _) rfl dX1_become_159 (n := 162) rfl ?_
  refine pf_X1_64 C 23 (cX_23 g _) (sX_23_11 g _ _) rfl dX1_become_162 (n := 165) rfl ?_
  refine j_aload_n C dX1_become_165 rfl (n := 166) rfl ?_
  refine j_aload_n C dX1_become_166 rfl (n := 167) rfl ?_
  refine gf_X1_67 C 1 (cX_1 g _) rfl dX1_become_167 (n := 170) rfl ?_
  refine pf_X1_67 C 23 (cX_23 g _) (sX_23_12 g _ _) rfl dX1_become_170 (n := 173) rfl ?_
  refine j_aload_n C dX1_become_173 rfl (n := 174) rfl ?_
  refine j_aload_n C dX1_become_174 rfl (n := 175) rfl ?_
  refine gf_X1_42 C 1 (cX_1 g _) rfl dX1_become_175 (n := 178) rfl ?_
  refine pf_X1_42 C 23 (cX_23 g _) (sX_23_13 g _ _) rfl dX1_become_178 (n := 181) rfl ?_
  refine j_aload_n C dX1_become_181 rfl (n := 182) rfl ?_
  refine j_aload_n C dX1_become_182 rfl (n := 183) rfl ?_
  refine gf_X1_46 C 1 (cX_1 g _) rfl dX1_become_183 (n := 186) rfl ?_
  exact j_to (j_X1_become_186_23_1 C _ _) trivial
set_option maxRecDepth 20000 in
theorem j_X1_become_119_23_1 {x : Fx} {g : Gl} (C : Ok x g RX1 cX1_become 2 none) (h : Hp) : J x g cwX 2 1 (fun r : Hp => qV cwX r) 119 [some (rf g 23), some (rf g 1)] [] h (X1_become_119 23 1 h) := by
  unfold X1_become_119
  refine j_aload_n C dX1_become_119 rfl (n := 120) rfl ?_
  refine gf_X1_36 C 1 (cX_1 g _) rfl dX1_become_120 (n := 123) rfl ?_
  refine j_iconst C dX1_become_123 ic_0 (n := 124) rfl ?_
  refine j_aload_n C dX1_become_124 rfl (n := 125) rfl ?_
  refine gf_X1_36 C 23 (cX_23 g _) rfl dX1_become_125 (n := 128) rfl ?_
  refine j_iconst C dX1_become_128 ic_0 (n := 129) rfl ?_
  refine j_bipush C dX1_become_129 bp_40 (n := 131) rfl ?_
  refine j_copy C 10 32 (cX_10 g _) (cX_32 g _) (wX_32 g _ _) lm_X1_55 (Nat.le_of_ble_eq_true rfl) (Nat.le_of_ble_eq_true rfl) dX1_become_131 (n := 134) rfl ?_
  refine j_aload_n C dX1_become_134 rfl (n := 135) rfl ?_
  refine gf_X1_39 C 1 (cX_1 g _) rfl dX1_become_135 (n := 138) rfl ?_
  refine j_iconst C dX1_become_138 ic_0 (n := 139) rfl ?_
  refine j_aload_n C dX1_become_139 rfl (n := 140) rfl ?_
  refine gf_X1_39 C 23 (cX_23 g _) rfl dX1_become_140 (n := 143) rfl ?_
  refine j_iconst C dX1_become_143 ic_0 (n := 144) rfl ?_
  refine j_bipush C dX1_become_144 bp_10 (n := 146) rfl ?_
  refine j_copy C 11 33 (cX_11 g _) (cX_33 g _) (wX_33 g _ _) lm_X1_55 (Nat.le_of_ble_eq_true rfl) (Nat.le_of_ble_eq_true rfl) dX1_become_146 (n := 149) rfl ?_
  exact j_to (j_X1_become_149_23_1 C _) ⟨rfl, ⟨rfl, trivial⟩⟩
set_option maxRecDepth 20000 in
theorem j_X1_become_90_23_1 {x : Fx} {g : Gl} (C : Ok x g RX1 cX1_become 2 none) (h : Hp) : J x g cwX 2 1 (fun r : Hp => qV cwX r) 90 [some (rf g 23), some (rf g 1)] [] h (X1_become_90 23 1 h) := by
  unfold X1_become_90
  refine j_aload_n C dX1_become_90 rfl (n := 91) rfl ?_
  refine gf_X1_30 C 1 (cX_1 g _) rfl dX1_become_91 (n := 94) rfl ?_
  refine j_iconst C dX1_become_94 ic_0 (n := 95) rfl ?_
  refine j_aload_n C dX1_become_95 rfl (n := 96) rfl ?_
  refine gf_X1_30 C 23 (cX_23 g _) rfl dX1_become_96 (n := 99) rfl ?_
  refine j_iconst C dX1_become_99 ic_0 (n := 100) rfl ?_
  refine j_bipush C dX1_become_100 bp_6 (n := 102) rfl ?_
  refine j_copy C 8 30 (cX_8 g _) (cX_30 g _) (wX_30 g _ _) lm_X1_55 (Nat.le_of_ble_eq_true rfl) (Nat.le_of_ble_eq_true rfl) dX1_become_102 (n := 105) rfl ?_
  refine j_aload_n C dX1_become_105 rfl (n := 106) rfl ?_
  refine gf_X1_33 C 1 (cX_1 g _) rfl dX1_become_106 (n := 109) rfl ?_
  refine j_iconst C dX1_become_109 ic_0 (n := 110) rfl ?_
  refine j_aload_n C dX1_become_110 rfl (n := 111) rfl ?_
  refine gf_X1_33 C 23 (cX_23 g _) rfl dX1_become_111 (n := 114) rfl ?_
  refine j_iconst C dX1_become_114 ic_0 (n := 115) rfl ?_
  refine j_iconst C dX1_become_115 ic_4 (n := 116) rfl ?_
  refine j_copy C 9 31 (cX_9 g _) (cX_31 g _) (wX_31 g _ _) lm_X1_55 (Nat.le_of_ble_eq_true rfl) (Nat.le_of_ble_eq_true rfl) dX1_become_116 (n := 119) rfl ?_
  exact j_to (j_X1_become_119_23_1 C _) ⟨rfl, ⟨rfl, trivial⟩⟩
set_option maxRecDepth 20000 in
theorem j_X1_become_60_23_1 {x : Fx} {g : Gl} (C : Ok x g RX1 cX1_become 2 none) (h : Hp) : J x g cwX 2 1 (fun r : Hp => qV cwX r) 60 [some (rf g 23), some (rf g 1)] [] h (X1_become_60 23 1 h) := by
  unfold X1_become_60
  refine j_aload_n C dX1_become_60 rfl (n := 61) rfl ?_
  refine gf_X1_24 C 1 (cX_1 g _) rfl dX1_become_61 (n := 64) rfl ?_
  refine j_iconst C dX1_become_64 ic_0 (n := 65) rfl ?_
  refine j_aload_n C dX1_become_65 rfl (n := 66) rfl ?_
  refine gf_X1_24 C 23 (cX_23 g _) rfl dX1_become_66 (n := 69) rfl ?_
  refine j_iconst C dX1_become_69 ic_0 (n := 70) rfl ?_
  refine j_bipush C dX1_become_70 bp_6 (n := 72) rfl ?_
  refine j_copy C 6 28 (cX_6 g _) (cX_28 g _) (wX_28 g _ _) lm_X1_55 (Nat.le_of_ble_eq_true rfl) (Nat.le_of_ble_eq_true rfl) dX1_become_72 (n := 75) rfl ?_
  refine j_aload_n C dX1_become_75 rfl (n := 76) rfl ?_
  refine gf_X1_27 C 1 (cX_1 g _) rfl dX1_become_76 (n := 79) rfl ?_
  refine j_iconst C dX1_become_79 ic_0 (n := 80) rfl ?_
  refine j_aload_n C dX1_become_80 rfl (n := 81) rfl ?_
  refine gf_X1_27 C 23 (cX_23 g _) rfl dX1_become_81 (n := 84) rfl ?_
  refine j_iconst C dX1_become_84 ic_0 (n := 85) rfl ?_
  refine j_bipush C dX1_become_85 bp_6 (n := 87) rfl ?_
  refine j_copy C 7 29 (cX_7 g _) (cX_29 g _) (wX_29 g _ _) lm_X1_55 (Nat.le_of_ble_eq_true rfl) (Nat.le_of_ble_eq_true rfl) dX1_become_87 (n := 90) rfl ?_
  exact j_to (j_X1_become_90_23_1 C _) ⟨rfl, ⟨rfl, trivial⟩⟩
set_option maxRecDepth 20000 in
theorem j_X1_become_30_23_1 {x : Fx} {g : Gl} (C : Ok x g RX1 cX1_become 2 none) (h : Hp) : J x g cwX 2 1 (fun r : Hp => qV cwX r) 30 [some (rf g 23), some (rf g 1)] [] h (X1_become_30 23 1 h) := by
  unfold X1_become_30
  refine j_aload_n C dX1_become_30 rfl (n := 31) rfl ?_
  refine gf_X1_18 C 1 (cX_1 g _) rfl dX1_become_31 (n := 34) rfl ?_
  refine j_iconst C dX1_become_34 ic_0 (n := 35) rfl ?_
  refine j_aload_n C dX1_become_35 rfl (n := 36) rfl ?_
  refine gf_X1_18 C 23 (cX_23 g _) rfl dX1_become_36 (n := 39) rfl ?_
  refine j_iconst C dX1_become_39 ic_0 (n := 40) rfl ?_
  refine j_bipush C dX1_become_40 bp_10 (n := 42) rfl ?_
  refine j_copy C 4 26 (cX_4 g _) (cX_26 g _) (wX_26 g _ _) lm_X1_55 (Nat.le_of_ble_eq_true rfl) (Nat.le_of_ble_eq_true rfl) dX1_become_42 (n := 45) rfl ?_
  refine j_aload_n C dX1_become_45 rfl (n := 46) rfl ?_
  refine gf_X1_21 C 1 (cX_1 g _) rfl dX1_become_46 (n := 49) rfl ?_
  refine j_iconst C dX1_become_49 ic_0 (n := 50) rfl ?_
  refine j_aload_n C dX1_become_50 rfl (n := 51) rfl ?_
  refine gf_X1_21 C 23 (cX_23 g _) rfl dX1_become_51 (n := 54) rfl ?_
  refine j_iconst C dX1_become_54 ic_0 (n := 55) rfl ?_
  refine j_bipush C dX1_become_55 bp_10 (n := 57) rfl ?_
  refine j_copy C 5 27 (cX_5 g _) (cX_27 g _) (wX_27 g _ _) lm_X1_55 (Nat.le_of_ble_eq_true rfl) (Nat.le_of_ble_eq_true rfl) dX1_become_57 (n := 60) rfl ?_
  exact j_to (j_X1_become_60_23_1 C _) ⟨rfl, ⟨rfl, trivial⟩⟩
set_option maxRecDepth 20000 in
theorem m_X1_become_23_1 (l : Launch) (h : Hp) {r : Hp} (e : X1_become 23 1 h = some r) : CT l yX1_become cX1_become 2 none 1 cwX (fun g => [rf g 23, rf g 1]) h (qV cwX r) := by
  refine ct_of (QR := (fun r : Hp => qV cwX r)) (by decide +kernel) (fun g => ⟨rfl, Nat.le_of_ble_eq_true rfl⟩) e (fun x g hl C => ?_)
  unfold X1_become
  refine j_aload_n C dX1_become_0 rfl (n := 1) rfl ?_
  refine gf_X1_9 C 1 (cX_1 g _) rfl dX1_become_1 (n := 4) rfl ?_
  refine j_iconst C dX1_become_4 ic_0 (n := 5) rfl ?_
  refine j_aload_n C dX1_become_5 rfl (n := 6) rfl ?_
  refine gf_X1_9 C 23 (cX_23 g _) rfl dX1_become_6 (n := 9) rfl ?_
  refine j_iconst C dX1_become_9 ic_0 (n := 10) rfl ?_
  refine j_bipush C dX1_become_10 bp_10 (n := 12) rfl ?_
  refine j_copy C 2 24 (cX_2 g _) (cX_24 g _) (wX_24 g _ _) lm_X1_55 (Nat.le_of_ble_eq_true rfl) (Nat.le_of_ble_eq_true rfl) dX1_become_12 (n := 15) rfl ?_
  refine j_aload_n C dX1_become_15 rfl (n := 16) rfl ?_
  refine gf_X1_15 C 1 (cX_1 g _) rfl dX1_become_16 (n := 19) rfl ?_
  refine j_iconst C dX1_become_19 ic_0 (n := 20) rfl ?_
  refine j_aload_n C dX1_become_20 rfl (n := 21) rfl ?_
  refine gf_X1_15 C 23 (cX_23 g _) rfl dX1_become_21 (n := 24) rfl ?_
  refine j_iconst C dX1_become_24 ic_0 (n := 25) rfl ?_
  refine j_bipush C dX1_become_25 bp_10 (n := 27) rfl ?_
  refine j_copy C 3 25 (cX_3 g _) (cX_25 g _) (wX_25 g _ _) lm_X1_55 (Nat.le_of_ble_eq_true rfl) (Nat.le_of_ble_eq_true rfl) dX1_become_27 (n := 30) rfl ?_
  exact j_to (j_X1_become_30_23_1 C _) ⟨rfl, ⟨rfl, trivial⟩⟩
-- X1_become
set_option maxRecDepth 20000 in
theorem j_X1_become_186_1_23 {x : Fx} {g : Gl} (C : Ok x g RX1 cX1_become 2 none) (s1 : Int32) (h : Hp) : J x g cwX 2 1 (fun r : Hp => qV cwX r) 186 [] [.int s1, rf g 1] h (X1_become_186 1 23 s1 h) := by
  unfold X1_become_186
  refine pf_X1_46 C 1 (cX_1 g _) (sX_1_14 g _ _) rfl dX1_become_186 (n := 189) rfl ?_
  exact j_retV C dX1_become_189
set_option maxRecDepth 20000 in
theorem j_X1_become_149_1_23 {x : Fx} {g : Gl} (C : Ok x g RX1 cX1_become 2 none) (h : Hp) : J x g cwX 2 1 (fun r : Hp => qV cwX r) 149 [some (rf g 1), some (rf g 23)] [] h (X1_become_149 1 23 h) := by
  unfold X1_become_149
  refine j_aload_n C dX1_become_149 rfl (n := 150) rfl ?_
  refine j_aload_n C dX1_become_150 rfl (n := 151) rfl ?_
  refine gf_X1_61 C 23 (cX_23 g _) rfl dX1_become_151 (n := 154) rfl ?_
  refine pf_X1_61 C 1 (cX_1 g _) (sX_1_10 g _ _) rfl dX1_become_154 (n := 157) rfl ?_
  refine j_aload_n C dX1_become_157 rfl (n := 158) rfl ?_
  refine j_aload_n C dX1_become_158 rfl (n := 159) rfl ?_
  refine gf_X1_64 C 23 (cX_23 g _) rfl dX1_become_159 (n := 162) rfl ?_
  refine pf_X1_64 C 1 (cX_1 g _) (sX_1_11 g _ _) rfl dX1_become_162 (n := 165) rfl ?_
  refine j_aload_n C dX1_become_165 rfl (n := 166) rfl ?_
  refine j_aload_n C dX1_become_166 rfl (n := 167) rfl ?_
  refine gf_X1_67 C 23 (cX_23 g _) rfl dX1_become_167 (n := 170) rfl ?_
  refine pf_X1_67 C 1 (cX_1 g _) (sX_1_12 g _ _) rfl dX1_become_170 (n := 173) rfl ?_
  refine j_aload_n C dX1_become_173 rfl (n := 174) rfl ?_
  refine j_aload_n C dX1_become_174 rfl (n := 175) rfl ?_
  refine gf_X1_42 C 23 (cX_23 g _) rfl dX1_become_175 (n := 178) rfl ?_
  refine pf_X1_42 C 1 (cX_1 g _) (sX_1_13 g _ _) rfl dX1_become_178 (n := 181) rfl ?_
  refine j_aload_n C dX1_become_181 rfl (n := 182) rfl ?_
  refine j_aload_n C dX1_become_182 rfl (n := 183) rfl ?_
  refine gf_X1_46 C 23 (cX_23 g _) rfl dX1_become_183 (n := 186) rfl ?_
  exact j_to (j_X1_become_186_1_23 C _ _) trivial
set_option maxRecDepth 20000 in
theorem j_X1_become_119_1_23 {x : Fx} {g : Gl} (C : Ok x g RX1 cX1_become 2 none) (h : Hp) : J x g cwX 2 1 (fun r : Hp => qV cwX r) 119 [some (rf g 1), some (rf g 23)] [] h (X1_become_119 1 23 h) := by
  unfold X1_become_119
  refine j_aload_n C dX1_become_119 rfl (n := 120) rfl ?_
  refine gf_X1_36 C 23 (cX_23 g _) rfl dX1_become_120 (n := 123) rfl ?_
  refine j_iconst C dX1_become_123 ic_0 (n := 124) rfl ?_
  refine j_aload_n C dX1_become_124 rfl (n := 125) rfl ?_
  refine gf_X1_36 C 1 (cX_1 g _) rfl dX1_become_125 (n := 128) rfl ?_
  refine j_iconst C dX1_become_128 ic_0 (n := 129) rfl ?_
  refine j_bipush C dX1_become_129 bp_40 (n := 131) rfl ?_
  refine j_copy C 32 10 (cX_32 g _) (cX_10 g _) (wX_10 g _ _) lm_X1_55 (Nat.le_of_ble_eq_true rfl) (Nat.le_of_ble_eq_true rfl) dX1_become_131 (n := 134) rfl ?_
  refine j_aload_n C dX1_become_134 rfl (n := 135) rfl ?_
  refine gf_X1_39 C 23 (cX_23 g _) rfl dX1_become_135 (n := 138) rfl ?_
  refine j_iconst C dX1_become_138 ic_0 (n := 139) rfl ?_
  refine j_aload_n C dX1_become_139 rfl (n := 140) rfl ?_
  refine gf_X1_39 C 1 (cX_1 g _) rfl dX1_become_140 (n := 143) rfl ?_
  refine j_iconst C dX1_become_143 ic_0 (n := 144) rfl ?_
  refine j_bipush C dX1_become_144 bp_10 (n := 146) rfl ?_
  refine j_copy C 33 11 (cX_33 g _) (cX_11 g _) (wX_11 g _ _) lm_X1_55 (Nat.le_of_ble_eq_true rfl) (Nat.le_of_ble_eq_true rfl) dX1_become_146 (n := 149) rfl ?_
  exact j_to (j_X1_become_149_1_23 C _) ⟨rfl, ⟨rfl, trivial⟩⟩
set_option maxRecDepth 20000 in
theorem j_X1_become_90_1_23 {x : Fx} {g : Gl} (C : Ok x g RX1 cX1_become 2 none) (h : Hp) : J x g cwX 2 1 (fun r : Hp => qV cwX r) 90 [some (rf g 1), some (rf g 23)] [] h (X1_become_90 1 23 h) := by
  unfold X1_become_90
  refine j_aload_n C dX1_become_90 rfl (n := 91) rfl ?_
  refine gf_X1_30 C 23 (cX_23 g _) rfl dX1_become_91 (n := 94) rfl ?_
  refine j_iconst C dX1_become_94 ic_0 (n := 95) rfl ?_
  refine j_aload_n C dX1_become_95 rfl (n := 96) rfl ?_
  refine gf_X1_30 C 1 (cX_1 g _) rfl dX1_become_96 (n := 99) rfl ?_
  refine j_iconst C dX1_become_99 ic_0 (n := 100) rfl ?_
  refine j_bipush C dX1_become_100 bp_6 (n := 102) rfl ?_
  refine j_copy C 30 8 (cX_30 g _) (cX_8 g _) (wX_8 g _ _) lm_X1_55 (Nat.le_of_ble_eq_true rfl) (Nat.le_of_ble_eq_true rfl) dX1_become_102 (n := 105) rfl ?_
  refine j_aload_n C dX1_become_105 rfl (n := 106) rfl ?_
  refine gf_X1_33 C 23 (cX_23 g _) rfl dX1_become_106 (n := 109) rfl ?_
  refine j_iconst C dX1_become_109 ic_0 (n := 110) rfl ?_
  refine j_aload_n C dX1_become_110 rfl (n := 111) rfl ?_
  refine gf_X1_33 C 1 (cX_1 g _) rfl dX1_become_111 (n := 114) rfl ?_
  refine j_iconst C dX1_become_114 ic_0 (n := 115) rfl ?_
  refine j_iconst C dX1_become_115 ic_4 (n := 116) rfl ?_
  refine j_copy C 31 9 (cX_31 g _) (cX_9 g _) (wX_9 g _ _) lm_X1_55 (Nat.le_of_ble_eq_true rfl) (Nat.le_of_ble_eq_true rfl) dX1_become_116 (n := 119) rfl ?_
  exact j_to (j_X1_become_119_1_23 C _) ⟨rfl, ⟨rfl, trivial⟩⟩
set_option maxRecDepth 20000 in
theorem j_X1_become_60_1_23 {x : Fx} {g : Gl} (C : Ok x g RX1 cX1_become 2 none) (h : Hp) : J x g cwX 2 1 (fun r : Hp => qV cwX r) 60 [some (rf g 1), some (rf g 23)] [] h (X1_become_60 1 23 h) := by
  unfold X1_become_60
  refine j_aload_n C dX1_become_60 rfl (n := 61) rfl ?_
  refine gf_X1_24 C 23 (cX_23 g _) rfl dX1_become_61 (n := 64) rfl ?_
  refine j_iconst C dX1_become_64 ic_0 (n := 65) rfl ?_
  refine j_aload_n C dX1_become_65 rfl (n := 66) rfl ?_
  refine gf_X1_24 C 1 (cX_1 g _) rfl dX1_become_66 (n := 69) rfl ?_
  refine j_iconst C dX1_become_69 ic_0 (n := 70) rfl ?_
  refine j_bipush C dX1_become_70 bp_6 (n := 72) rfl ?_
  refine j_copy C 28 6 (cX_28 g _) (cX_6 g _) (wX_6 g _ _) lm_X1_55 (Nat.le_of_ble_eq_true rfl) (Nat.le_of_ble_eq_true rfl) dX1_become_72 (n := 75) rfl ?_
  refine j_aload_n C dX1_become_75 rfl (n := 76) rfl ?_
  refine gf_X1_27 C 23 (cX_23 g _) rfl dX1_become_76 (n := 79) rfl ?_
  refine j_iconst C dX1_become_79 ic_0 (n := 80) rfl ?_
  refine j_aload_n C dX1_become_80 rfl (n := 81) rfl ?_
  refine gf_X1_27 C 1 (cX_1 g _) rfl dX1_become_81 (n := 84) rfl ?_
  refine j_iconst C dX1_become_84 ic_0 (n := 85) rfl ?_
  refine j_bipush C dX1_become_85 bp_6 (n := 87) rfl ?_
  refine j_copy C 29 7 (cX_29 g _) (cX_7 g _) (wX_7 g _ _) lm_X1_55 (Nat.le_of_ble_eq_true rfl) (Nat.le_of_ble_eq_true rfl) dX1_become_87 (n := 90) rfl ?_
  exact j_to (j_X1_become_90_1_23 C _) ⟨rfl, ⟨rfl, trivial⟩⟩
set_option maxRecDepth 20000 in
theorem j_X1_become_30_1_23 {x : Fx} {g : Gl} (C : Ok x g RX1 cX1_become 2 none) (h : Hp) : J x g cwX 2 1 (fun r : Hp => qV cwX r) 30 [some (rf g 1), some (rf g 23)] [] h (X1_become_30 1 23 h) := by
  unfold X1_become_30
  refine j_aload_n C dX1_become_30 rfl (n := 31) rfl ?_
  refine gf_X1_18 C 23 (cX_23 g _) rfl dX1_become_31 (n := 34) rfl ?_
  refine j_iconst C dX1_become_34 ic_0 (n := 35) rfl ?_
  refine j_aload_n C dX1_become_35 rfl (n := 36) rfl ?_
  refine gf_X1_18 C 1 (cX_1 g _) rfl dX1_become_36 (n := 39) rfl ?_
  refine j_iconst C dX1_become_39 ic_0 (n := 40) rfl ?_
  refine j_bipush C dX1_become_40 bp_10 (n := 42) rfl ?_
  refine j_copy C 26 4 (cX_26 g _) (cX_4 g _) (wX_4 g _ _) lm_X1_55 (Nat.le_of_ble_eq_true rfl) (Nat.le_of_ble_eq_true rfl) dX1_become_42 (n := 45) rfl ?_
  refine j_aload_n C dX1_become_45 rfl (n := 46) rfl ?_
  refine gf_X1_21 C 23 (cX_23 g _) rfl dX1_become_46 (n := 49) rfl ?_
  refine j_iconst C dX1_become_49 ic_0 (n := 50) rfl ?_
  refine j_aload_n C dX1_become_50 rfl (n := 51) rfl ?_
  refine gf_X1_21 C 1 (cX_1 g _) rfl dX1_become_51 (n := 54) rfl ?_
  refine j_iconst C dX1_become_54 ic_0 (n := 55) rfl ?_
  refine j_bipush C dX1_become_55 bp_10 (n := 57) rfl ?_
  refine j_copy C 27 5 (cX_27 g _) (cX_5 g _) (wX_5 g _ _) lm_X1_55 (Nat.le_of_ble_eq_true rfl) (Nat.le_of_ble_eq_true rfl) dX1_become_57 (n := 60) rfl ?_
  exact j_to (j_X1_become_60_1_23 C _) ⟨rfl, ⟨rfl, trivial⟩⟩
set_option maxRecDepth 20000 in
theorem m_X1_become_1_23 (l : Launch) (h : Hp) {r : Hp} (e : X1_become 1 23 h = some r) : CT l yX1_become cX1_become 2 none 1 cwX (fun g => [rf g 1, rf g 23]) h (qV cwX r) := by
  refine ct_of (QR := (fun r : Hp => qV cwX r)) (by decide +kernel) (fun g => ⟨rfl, Nat.le_of_ble_eq_true rfl⟩) e (fun x g hl C => ?_)
  unfold X1_become
  refine j_aload_n C dX1_become_0 rfl (n := 1) rfl ?_
  refine gf_X1_9 C 23 (cX_23 g _) rfl dX1_become_1 (n := 4) rfl ?_
  refine j_iconst C dX1_become_4 ic_0 (n := 5) rfl ?_
  refine j_aload_n C dX1_become_5 rfl (n := 6) rfl ?_
  refine gf_X1_9 C 1 (cX_1 g _) rfl dX1_become_6 (n := 9) rfl ?_
  refine j_iconst C dX1_become_9 ic_0 (n := 10) rfl ?_
  refine j_bipush C dX1_become_10 bp_10 (n := 12) rfl ?_
  refine j_copy C 24 2 (cX_24 g _) (cX_2 g _) (wX_2 g _ _) lm_X1_55 (Nat.le_of_ble_eq_true rfl) (Nat.le_of_ble_eq_true rfl) dX1_become_12 (n := 15) rfl ?_
  refine j_aload_n C dX1_become_15 rfl (n := 16) rfl ?_
  refine gf_X1_15 C 23 (cX_23 g _) rfl dX1_become_16 (n := 19) rfl ?_
  refine j_iconst C dX1_become_19 ic_0 (n := 20) rfl ?_
  refine j_aload_n C dX1_become_20 rfl (n := 21) rfl ?_
  refine gf_X1_15 C 1 (cX_1 g _) rfl dX1_become_21 (n := 24) rfl ?_
  refine j_iconst C dX1_become_24 ic_0 (n := 25) rfl ?_
  refine j_bipush C dX1_become_25 bp_10 (n := 27) rfl ?_
  refine j_copy C 25 3 (cX_25 g _) (cX_3 g _) (wX_3 g _ _) lm_X1_55 (Nat.le_of_ble_eq_true rfl) (Nat.le_of_ble_eq_true rfl) dX1_become_27 (n := 30) rfl ?_
  exact j_to (j_X1_become_30_1_23 C _) ⟨rfl, ⟨rfl, trivial⟩⟩
-- X1_become
set_option maxRecDepth 20000 in
theorem j_X1_become_186_12_1 {x : Fx} {g : Gl} (C : Ok x g RX1 cX1_become 2 none) (s1 : Int32) (h : Hp) : J x g cwX 2 1 (fun r : Hp => qV cwX r) 186 [] [.int s1, rf g 12] h (X1_become_186 12 1 s1 h) := by
  unfold X1_become_186
  refine pf_X1_46 C 12 (cX_12 g _) (sX_12_14 g _ _) rfl dX1_become_186 (n := 189) rfl ?_
  exact j_retV C dX1_become_189
set_option maxRecDepth 20000 in
theorem j_X1_become_149_12_1 {x : Fx} {g : Gl} (C : Ok x g RX1 cX1_become 2 none) (h : Hp) : J x g cwX 2 1 (fun r : Hp => qV cwX r) 149 [some (rf g 12), some (rf g 1)] [] h (X1_become_149 12 1 h) := by
  unfold X1_become_149
  refine j_aload_n C dX1_become_149 rfl (n := 150) rfl ?_
  refine j_aload_n C dX1_become_150 rfl (n := 151) rfl ?_
  refine gf_X1_61 C 1 (cX_1 g _) rfl dX1_become_151 (n := 154) rfl ?_
  refine pf_X1_61 C 12 (cX_12 g _) (sX_12_10 g _ _) rfl dX1_become_154 (n := 157) rfl ?_
  refine j_aload_n C dX1_become_157 rfl (n := 158) rfl ?_
  refine j_aload_n C dX1_become_158 rfl (n := 159) rfl ?_
  refine gf_X1_64 C 1 (cX_1 g _) rfl dX1_become_159 (n := 162) rfl ?_
  refine pf_X1_64 C 12 (cX_12 g _) (sX_12_11 g _ _) rfl dX1_become_162 (n := 165) rfl ?_
  refine j_aload_n C dX1_become_165 rfl (n := 166) rfl ?_
  refine j_aload_n C dX1_become_166 rfl (n := 167) rfl ?_
  refine gf_X1_67 C 1 (cX_1 g _) rfl dX1_become_167 (n := 170) rfl ?_
  refine pf_X1_67 C 12 (cX_12 g _) (sX_12_12 g _ _) rfl dX1_become_170 (n := 173) rfl ?_
  refine j_aload_n C dX1_become_173 rfl (n := 174) rfl ?_
  refine j_aload_n C dX1_become_174 rfl (n := 175) rfl ?_
  refine gf_X1_42 C 1 (cX_1 g _) rfl dX1_become_175 (n := 178) rfl ?_
  refine pf_X1_42 C 12 (cX_12 g _) (sX_12_13 g _ _) rfl dX1_become_178 (n := 181) rfl ?_
  refine j_aload_n C dX1_become_181 rfl (n := 182) rfl ?_
  refine j_aload_n C dX1_become_182 rfl (n := 183) rfl ?_
  refine gf_X1_46 C 1 (cX_1 g _) rfl dX1_become_183 (n := 186) rfl ?_
  exact j_to (j_X1_become_186_12_1 C _ _) trivial
set_option maxRecDepth 20000 in
theorem j_X1_become_119_12_1 {x : Fx} {g : Gl} (C : Ok x g RX1 cX1_become 2 none) (h : Hp) : J x g cwX 2 1 (fun r : Hp => qV cwX r) 119 [some (rf g 12), some (rf g 1)] [] h (X1_become_119 12 1 h) := by
  unfold X1_become_119
  refine j_aload_n C dX1_become_119 rfl (n := 120) rfl ?_
  refine gf_X1_36 C 1 (cX_1 g _) rfl dX1_become_120 (n := 123) rfl ?_
  refine j_iconst C dX1_become_123 ic_0 (n := 124) rfl ?_
  refine j_aload_n C dX1_become_124 rfl (n := 125) rfl ?_
  refine gf_X1_36 C 12 (cX_12 g _) rfl dX1_become_125 (n := 128) rfl ?_
  refine j_iconst C dX1_become_128 ic_0 (n := 129) rfl ?_
  refine j_bipush C dX1_become_129 bp_40 (n := 131) rfl ?_
  refine j_copy C 10 21 (cX_10 g _) (cX_21 g _) (wX_21 g _ _) lm_X1_55 (Nat.le_of_ble_eq_true rfl) (Nat.le_of_ble_eq_true rfl) dX1_become_131 (n := 134) rfl ?_
  refine j_aload_n C dX1_become_134 rfl (n := 135) rfl ?_
  refine gf_X1_39 C 1 (cX_1 g _) rfl dX1_become_135 (n := 138) rfl ?_
  refine j_iconst C dX1_become_138 ic_0 (n := 139) rfl ?_
  refine j_aload_n C dX1_become_139 rfl (n := 140) rfl ?_
  refine gf_X1_39 C 12 (cX_12 g _) rfl dX1_become_140 (n := 143) rfl ?_
  refine j_iconst C dX1_become_143 ic_0 (n := 144) rfl ?_
  refine j_bipush C dX1_become_144 bp_10 (n := 146) rfl ?_
  refine j_copy C 11 22 (cX_11 g _) (cX_22 g _) (wX_22 g _ _) lm_X1_55 (Nat.le_of_ble_eq_true rfl) (Nat.le_of_ble_eq_true rfl) dX1_become_146 (n := 149) rfl ?_
  exact j_to (j_X1_become_149_12_1 C _) ⟨rfl, ⟨rfl, trivial⟩⟩
set_option maxRecDepth 20000 in
theorem j_X1_become_90_12_1 {x : Fx} {g : Gl} (C : Ok x g RX1 cX1_become 2 none) (h : Hp) : J x g cwX 2 1 (fun r : Hp => qV cwX r) 90 [some (rf g 12), some (rf g 1)] [] h (X1_become_90 12 1 h) := by
  unfold X1_become_90
  refine j_aload_n C dX1_become_90 rfl (n := 91) rfl ?_
  refine gf_X1_30 C 1 (cX_1 g _) rfl dX1_become_91 (n := 94) rfl ?_
  refine j_iconst C dX1_become_94 ic_0 (n := 95) rfl ?_
  refine j_aload_n C dX1_become_95 rfl (n := 96) rfl ?_
  refine gf_X1_30 C 12 (cX_12 g _) rfl dX1_become_96 (n := 99) rfl ?_
  refine j_iconst C dX1_become_99 ic_0 (n := 100) rfl ?_
  refine j_bipush C dX1_become_100 bp_6 (n := 102) rfl ?_
  refine j_copy C 8 19 (cX_8 g _) (cX_19 g _) (wX_19 g _ _) lm_X1_55 (Nat.le_of_ble_eq_true rfl) (Nat.le_of_ble_eq_true rfl) dX1_become_102 (n := 105) rfl ?_
  refine j_aload_n C dX1_become_105 rfl (n := 106) rfl ?_
  refine gf_X1_33 C 1 (cX_1 g _) rfl dX1_become_106 (n := 109) rfl ?_
  refine j_iconst C dX1_become_109 ic_0 (n := 110) rfl ?_
  refine j_aload_n C dX1_become_110 rfl (n := 111) rfl ?_
  refine gf_X1_33 C 12 (cX_12 g _) rfl dX1_become_111 (n := 114) rfl ?_
  refine j_iconst C dX1_become_114 ic_0 (n := 115) rfl ?_
  refine j_iconst C dX1_become_115 ic_4 (n := 116) rfl ?_
  refine j_copy C 9 20 (cX_9 g _) (cX_20 g _) (wX_20 g _ _) lm_X1_55 (Nat.le_of_ble_eq_true rfl) (Nat.le_of_ble_eq_true rfl) dX1_become_116 (n := 119) rfl ?_
  exact j_to (j_X1_become_119_12_1 C _) ⟨rfl, ⟨rfl, trivial⟩⟩
set_option maxRecDepth 20000 in
theorem j_X1_become_60_12_1 {x : Fx} {g : Gl} (C : Ok x g RX1 cX1_become 2 none) (h : Hp) : J x g cwX 2 1 (fun r : Hp => qV cwX r) 60 [some (rf g 12), some (rf g 1)] [] h (X1_become_60 12 1 h) := by
  unfold X1_become_60
  refine j_aload_n C dX1_become_60 rfl (n := 61) rfl ?_
  refine gf_X1_24 C 1 (cX_1 g _) rfl dX1_become_61 (n := 64) rfl ?_
  refine j_iconst C dX1_become_64 ic_0 (n := 65) rfl ?_
  refine j_aload_n C dX1_become_65 rfl (n := 66) rfl ?_
  refine gf_X1_24 C 12 (cX_12 g _) rfl dX1_become_66 (n := 69) rfl ?_
  refine j_iconst C dX1_become_69 ic_0 (n := 70) rfl ?_
  refine j_bipush C dX1_become_70 bp_6 (n := 72) rfl ?_
  refine j_copy C 6 17 (cX_6 g _) (cX_17 g _) (wX_17 g _ _) lm_X1_55 (Nat.le_of_ble_eq_true rfl) (Nat.le_of_ble_eq_true rfl) dX1_become_72 (n := 75) rfl ?_
  refine j_aload_n C dX1_become_75 rfl (n := 76) rfl ?_
  refine gf_X1_27 C 1 (cX_1 g _) rfl dX1_become_76 (n := 79) rfl ?_
  refine j_iconst C dX1_become_79 ic_0 (n := 80) rfl ?_
  refine j_aload_n C dX1_become_80 rfl (n := 81) rfl ?_
  refine gf_X1_27 C 12 (cX_12 g _) rfl dX1_become_81 (n := 84) rfl ?_
  refine j_iconst C dX1_become_84 ic_0 (n := 85) rfl ?_
  refine j_bipush C dX1_become_85 bp_6 (n := 87) rfl ?_
  refine j_copy C 7 18 (cX_7 g _) (cX_18 g _) (wX_18 g _ _) lm_X1_55 (Nat.le_of_ble_eq_true rfl) (Nat.le_of_ble_eq_true rfl) dX1_become_87 (n := 90) rfl ?_
  exact j_to (j_X1_become_90_12_1 C _) ⟨rfl, ⟨rfl, trivial⟩⟩
set_option maxRecDepth 20000 in
theorem j_X1_become_30_12_1 {x : Fx} {g : Gl} (C : Ok x g RX1 cX1_become 2 none) (h : Hp) : J x g cwX 2 1 (fun r : Hp => qV cwX r) 30 [some (rf g 12), some (rf g 1)] [] h (X1_become_30 12 1 h) := by
  unfold X1_become_30
  refine j_aload_n C dX1_become_30 rfl (n := 31) rfl ?_
  refine gf_X1_18 C 1 (cX_1 g _) rfl dX1_become_31 (n := 34) rfl ?_
  refine j_iconst C dX1_become_34 ic_0 (n := 35) rfl ?_
  refine j_aload_n C dX1_become_35 rfl (n := 36) rfl ?_
  refine gf_X1_18 C 12 (cX_12 g _) rfl dX1_become_36 (n := 39) rfl ?_
  refine j_iconst C dX1_become_39 ic_0 (n := 40) rfl ?_
  refine j_bipush C dX1_become_40 bp_10 (n := 42) rfl ?_
  refine j_copy C 4 15 (cX_4 g _) (cX_15 g _) (wX_15 g _ _) lm_X1_55 (Nat.le_of_ble_eq_true rfl) (Nat.le_of_ble_eq_true rfl) dX1_become_42 (n := 45) rfl ?_
  refine j_aload_n C dX1_become_45 rfl (n := 46) rfl ?_
  refine gf_X1_21 C 1 (cX_1 g _) rfl dX1_become_46 (n := 49) rfl ?_
  refine j_iconst C dX1_become_49 ic_0 (n := 50) rfl ?_
  refine j_aload_n C dX1_become_50 rfl (n := 51) rfl ?_
  refine gf_X1_21 C 12 (cX_12 g _) rfl dX1_become_51 (n := 54) rfl ?_
  refine j_iconst C dX1_become_54 ic_0 (n := 55) rfl ?_
  refine j_bipush C dX1_become_55 bp_10 (n := 57) rfl ?_
  refine j_copy C 5 16 (cX_5 g _) (cX_16 g _) (wX_16 g _ _) lm_X1_55 (Nat.le_of_ble_eq_true rfl) (Nat.le_of_ble_eq_true rfl) dX1_become_57 (n := 60) rfl ?_
  exact j_to (j_X1_become_60_12_1 C _) ⟨rfl, ⟨rfl, trivial⟩⟩
set_option maxRecDepth 20000 in
theorem m_X1_become_12_1 (l : Launch) (h : Hp) {r : Hp} (e : X1_become 12 1 h = some r) : CT l yX1_become cX1_become 2 none 1 cwX (fun g => [rf g 12, rf g 1]) h (qV cwX r) := by
  refine ct_of (QR := (fun r : Hp => qV cwX r)) (by decide +kernel) (fun g => ⟨rfl, Nat.le_of_ble_eq_true rfl⟩) e (fun x g hl C => ?_)
  unfold X1_become
  refine j_aload_n C dX1_become_0 rfl (n := 1) rfl ?_
  refine gf_X1_9 C 1 (cX_1 g _) rfl dX1_become_1 (n := 4) rfl ?_
  refine j_iconst C dX1_become_4 ic_0 (n := 5) rfl ?_
  refine j_aload_n C dX1_become_5 rfl (n := 6) rfl ?_
  refine gf_X1_9 C 12 (cX_12 g _) rfl dX1_become_6 (n := 9) rfl ?_
  refine j_iconst C dX1_become_9 ic_0 (n := 10) rfl ?_
  refine j_bipush C dX1_become_10 bp_10 (n := 12) rfl ?_
  refine j_copy C 2 13 (cX_2 g _) (cX_13 g _) (wX_13 g _ _) lm_X1_55 (Nat.le_of_ble_eq_true rfl) (Nat.le_of_ble_eq_true rfl) dX1_become_12 (n := 15) rfl ?_
  refine j_aload_n C dX1_become_15 rfl (n := 16) rfl ?_
  refine gf_X1_15 C 1 (cX_1 g _) rfl dX1_become_16 (n := 19) rfl ?_
  refine j_iconst C dX1_become_19 ic_0 (n := 20) rfl ?_
  refine j_aload_n C dX1_become_20 rfl (n := 21) rfl ?_
  refine gf_X1_15 C 12 (cX_12 g _) rfl dX1_become_21 (n := 24) rfl ?_
  refine j_iconst C dX1_become_24 ic_0 (n := 25) rfl ?_
  refine j_bipush C dX1_become_25 bp_10 (n := 27) rfl ?_
  refine j_copy C 3 14 (cX_3 g _) (cX_14 g _) (wX_14 g _ _) lm_X1_55 (Nat.le_of_ble_eq_true rfl) (Nat.le_of_ble_eq_true rfl) dX1_become_27 (n := 30) rfl ?_
  exact j_to (j_X1_become_30_12_1 C _) ⟨rfl, ⟨rfl, trivial⟩⟩
-- X1_become
set_option maxRecDepth 20000 in
theorem j_X1_become_186_1_12 {x : Fx} {g : Gl} (C : Ok x g RX1 cX1_become 2 none) (s1 : Int32) (h : Hp) : J x g cwX 2 1 (fun r : Hp => qV cwX r) 186 [] [.int s1, rf g 1] h (X1_become_186 1 12 s1 h) := by
  unfold X1_become_186
  refine pf_X1_46 C 1 (cX_1 g _) (sX_1_14 g _ _) rfl dX1_become_186 (n := 189) rfl ?_
  exact j_retV C dX1_become_189
set_option maxRecDepth 20000 in
theorem j_X1_become_149_1_12 {x : Fx} {g : Gl} (C : Ok x g RX1 cX1_become 2 none) (h : Hp) : J x g cwX 2 1 (fun r : Hp => qV cwX r) 149 [some (rf g 1), some (rf g 12)] [] h (X1_become_149 1 12 h) := by
  unfold X1_become_149
  refine j_aload_n C dX1_become_149 rfl (n := 150) rfl ?_
  refine j_aload_n C dX1_become_150 rfl (n := 151) rfl ?_
  refine gf_X1_61 C 12 (cX_12 g _) rfl dX1_become_151 (n := 154) rfl ?_
  refine pf_X1_61 C 1 (cX_1 g _) (sX_1_10 g _ _) rfl dX1_become_154 (n := 157) rfl ?_
  refine j_aload_n C dX1_become_157 rfl (n := 158) rfl ?_
  refine j_aload_n C dX1_become_158 rfl (n := 159) rfl ?_
  refine gf_X1_64 C 12 (cX_12 g _) rfl dX1_become_159 (n := 162) rfl ?_
  refine pf_X1_64 C 1 (cX_1 g _) (sX_1_11 g _ _) rfl dX1_become_162 (n := 165) rfl ?_
  refine j_aload_n C dX1_become_165 rfl (n := 166) rfl ?_
  refine j_aload_n C dX1_become_166 rfl (n := 167) rfl ?_
  refine gf_X1_67 C 12 (cX_12 g _) rfl dX1_become_167 (n := 170) rfl ?_
  refine pf_X1_67 C 1 (cX_1 g _) (sX_1_12 g _ _) rfl dX1_become_170 (n := 173) rfl ?_
  refine j_aload_n C dX1_become_173 rfl (n := 174) rfl ?_
  refine j_aload_n C dX1_become_174 rfl (n := 175) rfl ?_
  refine gf_X1_42 C 12 (cX_12 g _) rfl dX1_become_175 (n := 178) rfl ?_
  refine pf_X1_42 C 1 (cX_1 g _) (sX_1_13 g _ _) rfl dX1_become_178 (n := 181) rfl ?_
  refine j_aload_n C dX1_become_181 rfl (n := 182) rfl ?_
  refine j_aload_n C dX1_become_182 rfl (n := 183) rfl ?_
  refine gf_X1_46 C 12 (cX_12 g _) rfl dX1_become_183 (n := 186) rfl ?_
  exact j_to (j_X1_become_186_1_12 C _ _) trivial
set_option maxRecDepth 20000 in
theorem j_X1_become_119_1_12 {x : Fx} {g : Gl} (C : Ok x g RX1 cX1_become 2 none) (h : Hp) : J x g cwX 2 1 (fun r : Hp => qV cwX r) 119 [some (rf g 1), some (rf g 12)] [] h (X1_become_119 1 12 h) := by
  unfold X1_become_119
  refine j_aload_n C dX1_become_119 rfl (n := 120) rfl ?_
  refine gf_X1_36 C 12 (cX_12 g _) rfl dX1_become_120 (n := 123) rfl ?_
  refine j_iconst C dX1_become_123 ic_0 (n := 124) rfl ?_
  refine j_aload_n C dX1_become_124 rfl (n := 125) rfl ?_
  refine gf_X1_36 C 1 (cX_1 g _) rfl dX1_become_125 (n := 128) rfl ?_
  refine j_iconst C dX1_become_128 ic_0 (n := 129) rfl ?_
  refine j_bipush C dX1_become_129 bp_40 (n := 131) rfl ?_
  refine j_copy C 21 10 (cX_21 g _) (cX_10 g _) (wX_10 g _ _) lm_X1_55 (Nat.le_of_ble_eq_true rfl) (Nat.le_of_ble_eq_true rfl) dX1_become_131 (n := 134) rfl ?_
  refine j_aload_n C dX1_become_134 rfl (n := 135) rfl ?_
  refine gf_X1_39 C 12 (cX_12 g _) rfl dX1_become_135 (n := 138) rfl ?_
  refine j_iconst C dX1_become_138 ic_0 (n := 139) rfl ?_
  refine j_aload_n C dX1_become_139 rfl (n := 140) rfl ?_
  refine gf_X1_39 C 1 (cX_1 g _) rfl dX1_become_140 (n := 143) rfl ?_
  refine j_iconst C dX1_become_143 ic_0 (n := 144) rfl ?_
  refine j_bipush C dX1_become_144 bp_10 (n := 146) rfl ?_
  refine j_copy C 22 11 (cX_22 g _) (cX_11 g _) (wX_11 g _ _) lm_X1_55 (Nat.le_of_ble_eq_true rfl) (Nat.le_of_ble_eq_true rfl) dX1_become_146 (n := 149) rfl ?_
  exact j_to (j_X1_become_149_1_12 C _) ⟨rfl, ⟨rfl, trivial⟩⟩
set_option maxRecDepth 20000 in
theorem j_X1_become_90_1_12 {x : Fx} {g : Gl} (C : Ok x g RX1 cX1_become 2 none) (h : Hp) : J x g cwX 2 1 (fun r : Hp => qV cwX r) 90 [some (rf g 1), some (rf g 12)] [] h (X1_become_90 1 12 h) := by
  unfold X1_become_90
  refine j_aload_n C dX1_become_90 rfl (n := 91) rfl ?_
  refine gf_X1_30 C 12 (cX_12 g _) rfl dX1_become_91 (n := 94) rfl ?_
  refine j_iconst C dX1_become_94 ic_0 (n := 95) rfl ?_
  refine j_aload_n C dX1_become_95 rfl (n := 96) rfl ?_
  refine gf_X1_30 C 1 (cX_1 g _) rfl dX1_become_96 (n := 99) rfl ?_
  refine j_iconst C dX1_become_99 ic_0 (n := 100) rfl ?_
  refine j_bipush C dX1_become_100 bp_6 (n := 102) rfl ?_
  refine j_copy C 19 8 (cX_19 g _) (cX_8 g _) (wX_8 g _ _) lm_X1_55 (Nat.le_of_ble_eq_true rfl) (Nat.le_of_ble_eq_true rfl) dX1_become_102 (n := 105) rfl ?_
  refine j_aload_n C dX1_become_105 rfl (n := 106) rfl ?_
  refine gf_X1_33 C 12 (cX_12 g _) rfl dX1_become_106 (n := 109) rfl ?_
  refine j_iconst C dX1_become_109 ic_0 (n := 110) rfl ?_
  refine j_aload_n C dX1_become_110 rfl (n := 111) rfl ?_
  refine gf_X1_33 C 1 (cX_1 g _) rfl dX1_become_111 (n := 114) rfl ?_
  refine j_iconst C dX1_become_114 ic_0 (n := 115) rfl ?_
  refine j_iconst C dX1_become_115 ic_4 (n := 116) rfl ?_
  refine j_copy C 20 9 (cX_20 g _) (cX_9 g _) (wX_9 g _ _) lm_X1_55 (Nat.le_of_ble_eq_true rfl) (Nat.le_of_ble_eq_true rfl) dX1_become_116 (n := 119) rfl ?_
  exact j_to (j_X1_become_119_1_12 C _) ⟨rfl, ⟨rfl, trivial⟩⟩
set_option maxRecDepth 20000 in
theorem j_X1_become_60_1_12 {x : Fx} {g : Gl} (C : Ok x g RX1 cX1_become 2 none) (h : Hp) : J x g cwX 2 1 (fun r : Hp => qV cwX r) 60 [some (rf g 1), some (rf g 12)] [] h (X1_become_60 1 12 h) := by
  unfold X1_become_60
  refine j_aload_n C dX1_become_60 rfl (n := 61) rfl ?_
  refine gf_X1_24 C 12 (cX_12 g _) rfl dX1_become_61 (n := 64) rfl ?_
  refine j_iconst C dX1_become_64 ic_0 (n := 65) rfl ?_
  refine j_aload_n C dX1_become_65 rfl (n := 66) rfl ?_
  refine gf_X1_24 C 1 (cX_1 g _) rfl dX1_become_66 (n := 69) rfl ?_
  refine j_iconst C dX1_become_69 ic_0 (n := 70) rfl ?_
  refine j_bipush C dX1_become_70 bp_6 (n := 72) rfl ?_
  refine j_copy C 17 6 (cX_17 g _) (cX_6 g _) (wX_6 g _ _) lm_X1_55 (Nat.le_of_ble_eq_true rfl) (Nat.le_of_ble_eq_true rfl) dX1_become_72 (n := 75) rfl ?_
  refine j_aload_n C dX1_become_75 rfl (n := 76) rfl ?_
  refine gf_X1_27 C 12 (cX_12 g _) rfl dX1_become_76 (n := 79) rfl ?_
  refine j_iconst C dX1_become_79 ic_0 (n := 80) rfl ?_
  refine j_aload_n C dX1_become_80 rfl (n := 81) rfl ?_
  refine gf_X1_27 C 1 (cX_1 g _) rfl dX1_become_81 (n := 84) rfl ?_
  refine j_iconst C dX1_become_84 ic_0 (n := 85) rfl ?_
  refine j_bipush C dX1_become_85 bp_6 (n := 87) rfl ?_
  refine j_copy C 18 7 (cX_18 g _) (cX_7 g _) (wX_7 g _ _) lm_X1_55 (Nat.le_of_ble_eq_true rfl) (Nat.le_of_ble_eq_true rfl) dX1_become_87 (n := 90) rfl ?_
  exact j_to (j_X1_become_90_1_12 C _) ⟨rfl, ⟨rfl, trivial⟩⟩
set_option maxRecDepth 20000 in
theorem j_X1_become_30_1_12 {x : Fx} {g : Gl} (C : Ok x g RX1 cX1_become 2 none) (h : Hp) : J x g cwX 2 1 (fun r : Hp => qV cwX r) 30 [some (rf g 1), some (rf g 12)] [] h (X1_become_30 1 12 h) := by
  unfold X1_become_30
  refine j_aload_n C dX1_become_30 rfl (n := 31) rfl ?_
  refine gf_X1_18 C 12 (cX_12 g _) rfl dX1_become_31 (n := 34) rfl ?_
  refine j_iconst C dX1_become_34 ic_0 (n := 35) rfl ?_
  refine j_aload_n C dX1_become_35 rfl (n := 36) rfl ?_
  refine gf_X1_18 C 1 (cX_1 g _) rfl dX1_become_36 (n := 39) rfl ?_
  refine j_iconst C dX1_become_39 ic_0 (n := 40) rfl ?_
  refine j_bipush C dX1_become_40 bp_10 (n := 42) rfl ?_
  refine j_copy C 15 4 (cX_15 g _) (cX_4 g _) (wX_4 g _ _) lm_X1_55 (Nat.le_of_ble_eq_true rfl) (Nat.le_of_ble_eq_true rfl) dX1_become_42 (n := 45) rfl ?_
  refine j_aload_n C dX1_become_45 rfl (n := 46) rfl ?_
  refine gf_X1_21 C 12 (cX_12 g _) rfl dX1_become_46 (n := 49) rfl ?_
  refine j_iconst C dX1_become_49 ic_0 (n := 50) rfl ?_
  refine j_aload_n C dX1_become_50 rfl (n := 51) rfl ?_
  refine gf_X1_21 C 1 (cX_1 g _) rfl dX1_become_51 (n := 54) rfl ?_
  refine j_iconst C dX1_become_54 ic_0 (n := 55) rfl ?_
  refine j_bipush C dX1_become_55 bp_10 (n := 57) rfl ?_
  refine j_copy C 16 5 (cX_16 g _) (cX_5 g _) (wX_5 g _ _) lm_X1_55 (Nat.le_of_ble_eq_true rfl) (Nat.le_of_ble_eq_true rfl) dX1_become_57 (n := 60) rfl ?_
  exact j_to (j_X1_become_60_1_12 C _) ⟨rfl, ⟨rfl, trivial⟩⟩
set_option maxRecDepth 20000 in
theorem m_X1_become_1_12 (l : Launch) (h : Hp) {r : Hp} (e : X1_become 1 12 h = some r) : CT l yX1_become cX1_become 2 none 1 cwX (fun g => [rf g 1, rf g 12]) h (qV cwX r) := by
  refine ct_of (QR := (fun r : Hp => qV cwX r)) (by decide +kernel) (fun g => ⟨rfl, Nat.le_of_ble_eq_true rfl⟩) e (fun x g hl C => ?_)
  unfold X1_become
  refine j_aload_n C dX1_become_0 rfl (n := 1) rfl ?_
  refine gf_X1_9 C 12 (cX_12 g _) rfl dX1_become_1 (n := 4) rfl ?_
  refine j_iconst C dX1_become_4 ic_0 (n := 5) rfl ?_
  refine j_aload_n C dX1_become_5 rfl (n := 6) rfl ?_
  refine gf_X1_9 C 1 (cX_1 g _) rfl dX1_become_6 (n := 9) rfl ?_
  refine j_iconst C dX1_become_9 ic_0 (n := 10) rfl ?_
  refine j_bipush C dX1_become_10 bp_10 (n := 12) rfl ?_
  refine j_copy C 13 2 (cX_13 g _) (cX_2 g _) (wX_2 g _ _) lm_X1_55 (Nat.le_of_ble_eq_true rfl) (Nat.le_of_ble_eq_true rfl) dX1_become_12 (n := 15) rfl ?_
  refine j_aload_n C dX1_become_15 rfl (n := 16) rfl ?_
  refine gf_X1_15 C 12 (cX_12 g _) rfl dX1_become_16 (n := 19) rfl ?_
  refine j_iconst C dX1_become_19 ic_0 (n := 20) rfl ?_
  refine j_aload_n C dX1_become_20 rfl (n := 21) rfl ?_
  refine gf_X1_15 C 1 (cX_1 g _) rfl dX1_become_21 (n := 24) rfl ?_
  refine j_iconst C dX1_become_24 ic_0 (n := 25) rfl ?_
  refine j_bipush C dX1_become_25 bp_10 (n := 27) rfl ?_
  refine j_copy C 14 3 (cX_14 g _) (cX_3 g _) (wX_3 g _ _) lm_X1_55 (Nat.le_of_ble_eq_true rfl) (Nat.le_of_ble_eq_true rfl) dX1_become_27 (n := 30) rfl ?_
  exact j_to (j_X1_become_30_1_12 C _) ⟨rfl, ⟨rfl, trivial⟩⟩
