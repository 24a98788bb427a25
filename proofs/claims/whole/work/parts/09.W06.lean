-- X1_allWax
set_option maxRecDepth 20000 in
theorem j_X1_allWax_4 {x : Fx} {g : Gl} (C : Ok x g RX1 cX1_allWax 3 (some .int)) (fu : Nat) (h : Hp) : ∀ (n : Nat) (x1 : Int32) (x2 : Int32), J x g cwX 3 0 (fun r : Int32 => qI cwX r h) 4 [some (rf g 1), some (.int x1), some (.int x2)] [] h (X1_allWax_4 fu h n x1 x2) := by
  intro n
  induction n with
  | zero =>
    intro x1 x2
    rw [X1_allWax_4]
    exact j_none
  | succ n ih =>
    intro x1 x2
    rw [X1_allWax_4]
    refine j_iload_n C dX1_allWax_4 rfl (n := 5) rfl ?_
    refine j_aload_n C dX1_allWax_5 rfl (n := 6) rfl ?_
    refine gf_X1_61 C 1 (cX_1 g _) rfl dX1_allWax_6 (n := 9) rfl ?_
    refine j_icmp_ge C dX1_allWax_9 (tgt := 27) (n := 12) (by decide) rfl (fun q1 => ?_) (fun q1 => ?_)
    · refine j_iload_n C dX1_allWax_27 rfl (n := 28) rfl ?_
      exact j_ret C dX1_allWax_28
    · refine j_iload_n C dX1_allWax_12 rfl (n := 13) rfl ?_
      refine j_aload_n C dX1_allWax_13 rfl (n := 14) rfl ?_
      refine gf_X1_18 C 1 (cX_1 g _) rfl dX1_allWax_14 (n := 17) rfl ?_
      refine j_iload_n C dX1_allWax_17 rfl (n := 18) rfl ?_
      refine j_iald C 4 (cX_4 g _) dX1_allWax_18 (n := 19) rfl ?_
      refine j_iadd C dX1_allWax_19 (n := 20) rfl ?_
      refine j_istore_n C dX1_allWax_20 (Nat.le_of_ble_eq_true rfl) (n := 21) rfl ?_
      refine j_iinc C dX1_allWax_21 rfl ic_1 (Nat.le_of_ble_eq_true rfl) (n := 24) rfl ?_
      refine j_goto C dX1_allWax_24 (n := 4) (by decide) ?_
      exact j_to (ih _ _) ⟨rfl, ⟨rfl, ⟨rfl, trivial⟩⟩⟩
set_option maxRecDepth 20000 in
theorem m_X1_allWax (l : Launch) (fu : Nat) (h : Hp) {r : Int32} (e : X1_allWax fu h = some r) : CT l yX1_allWax cX1_allWax 3 (some .int) 0 cwX (fun g => [rf g 1]) h (qI cwX r h) := by
  refine ct_of (QR := (fun r : Int32 => qI cwX r h)) (by decide +kernel) (fun g => ⟨rfl, Nat.le_of_ble_eq_true rfl⟩) e (fun x g hl C => ?_)
  unfold X1_allWax
  refine j_iconst C dX1_allWax_0 ic_0 (n := 1) rfl ?_
  refine j_istore_n C dX1_allWax_1 (Nat.le_of_ble_eq_true rfl) (n := 2) rfl ?_
  refine j_iconst C dX1_allWax_2 ic_0 (n := 3) rfl ?_
  refine j_istore_n C dX1_allWax_3 (Nat.le_of_ble_eq_true rfl) (n := 4) rfl ?_
  exact j_to (j_X1_allWax_4 C _ _ _ _ _) ⟨rfl, ⟨rfl, ⟨rfl, trivial⟩⟩⟩
-- X1_spotsHeld
set_option maxRecDepth 20000 in
theorem j_X1_spotsHeld_4 {x : Fx} {g : Gl} (C : Ok x g RX1 cX1_spotsHeld 3 (some .int)) (fu : Nat) (h : Hp) : ∀ (n : Nat) (x1 : Int32) (x2 : Int32), J x g cwX 3 0 (fun r : Int32 => qI cwX r h) 4 [some (rf g 1), some (.int x1), some (.int x2)] [] h (X1_spotsHeld_4 fu h n x1 x2) := by
  intro n
  induction n with
  | zero =>
    intro x1 x2
    rw [X1_spotsHeld_4]
    exact j_none
  | succ n ih =>
    intro x1 x2
    rw [X1_spotsHeld_4]
    refine j_iload_n C dX1_spotsHeld_4 rfl (n := 5) rfl ?_
    refine j_bipush C dX1_spotsHeld_5 bp_10 (n := 7) rfl ?_
    refine j_icmp_ge C dX1_spotsHeld_7 (tgt := 29) (n := 10) (by decide) rfl (fun q1 => ?_) (fun q1 => ?_)
    · refine j_iload_n C dX1_spotsHeld_29 rfl (n := 30) rfl ?_
      exact j_ret C dX1_spotsHeld_30
    · refine j_aload_n C dX1_spotsHeld_10 rfl (n := 11) rfl ?_
      refine gf_X1_39 C 1 (cX_1 g _) rfl dX1_spotsHeld_11 (n := 14) rfl ?_
      refine j_iload_n C dX1_spotsHeld_14 rfl (n := 15) rfl ?_
      refine j_iald C 11 (cX_11 g _) dX1_spotsHeld_15 (n := 16) rfl ?_
      refine j_iconst C dX1_spotsHeld_16 ic_m1 (n := 17) rfl ?_
      refine j_icmp_eq C dX1_spotsHeld_17 (tgt := 23) (n := 20) (by decide) rfl (fun q2 => ?_) (fun q2 => ?_)
      · refine j_iinc C dX1_spotsHeld_23 rfl ic_1 (Nat.le_of_ble_eq_true rfl) (n := 26) rfl ?_
        refine j_goto C dX1_spotsHeld_26 (n := 4) (by decide) ?_
        exact j_to (ih _ _) ⟨rfl, ⟨rfl, ⟨rfl, trivial⟩⟩⟩
      · refine j_iinc C dX1_spotsHeld_20 rfl ic_1 (Nat.le_of_ble_eq_true rfl) (n := 23) rfl ?_
        refine j_iinc C dX1_spotsHeld_23 rfl ic_1 (Nat.le_of_ble_eq_true rfl) (n := 26) rfl ?_
        refine j_goto C dX1_spotsHeld_26 (n := 4) (by decide) ?_
        exact j_to (ih _ _) ⟨rfl, ⟨rfl, ⟨rfl, trivial⟩⟩⟩
set_option maxRecDepth 20000 in
theorem m_X1_spotsHeld (l : Launch) (fu : Nat) (h : Hp) {r : Int32} (e : X1_spotsHeld fu h = some r) : CT l yX1_spotsHeld cX1_spotsHeld 3 (some .int) 0 cwX (fun g => [rf g 1]) h (qI cwX r h) := by
  refine ct_of (QR := (fun r : Int32 => qI cwX r h)) (by decide +kernel) (fun g => ⟨rfl, Nat.le_of_ble_eq_true rfl⟩) e (fun x g hl C => ?_)
  unfold X1_spotsHeld
  refine j_iconst C dX1_spotsHeld_0 ic_0 (n := 1) rfl ?_
  refine j_istore_n C dX1_spotsHeld_1 (Nat.le_of_ble_eq_true rfl) (n := 2) rfl ?_
  refine j_iconst C dX1_spotsHeld_2 ic_0 (n := 3) rfl ?_
  refine j_istore_n C dX1_spotsHeld_3 (Nat.le_of_ble_eq_true rfl) (n := 4) rfl ?_
  exact j_to (j_X1_spotsHeld_4 C _ _ _ _ _) ⟨rfl, ⟨rfl, ⟨rfl, trivial⟩⟩⟩
-- X7_count
set_option maxRecDepth 20000 in
theorem m_X7_count (l : Launch) (fu : Nat) (x1 : Int32) (h : Hp) {r : Int32 × Hp} (e : X7_count fu x1 h = some r) : CT l yX7_count cX7_count 2 (some .int) 3 cwX (fun g => [rf g 0, .int x1]) h (qI cwX r.1 r.2) := by
  refine ct_of (QR := (fun r : Int32 × Hp => qI cwX r.1 r.2)) (by decide +kernel) (fun g => ⟨rfl, Nat.le_of_ble_eq_true rfl⟩) e (fun x g hl C => ?_)
  unfold X7_count
  refine j_iload_n C dX7_count_0 rfl (n := 1) rfl ?_
  refine j_split (fun q1 => ?_) (fun q1 => ?_)
  · refine j_tabIn C dX7_count_1 q1 (off := 47) (by decide) (n := 48) (by decide) ?_
    refine j_aload_n C dX7_count_48 rfl (n := 49) rfl ?_
    refine gf_X7_12 C 0 (cX_0 g _) rfl dX7_count_49 (n := 52) rfl ?_
    refine gf_X7_155 C 1 (cX_1 g _) rfl dX7_count_52 (n := 55) rfl ?_
    exact j_retP C dX7_count_55
  · refine j_split (fun q2 => ?_) (fun q2 => ?_)
    · refine j_tabIn C dX7_count_1 q2 (off := 55) (by decide) (n := 56) (by decide) ?_
      refine j_aload_n C dX7_count_56 rfl (n := 57) rfl ?_
      refine gf_X7_12 C 0 (cX_0 g _) rfl dX7_count_57 (n := 60) rfl ?_
      refine gf_X7_72 C 1 (cX_1 g _) rfl dX7_count_60 (n := 63) rfl ?_
      exact j_retP C dX7_count_63
    · refine j_split (fun q3 => ?_) (fun q3 => ?_)
      · refine j_tabIn C dX7_count_1 q3 (off := 63) (by decide) (n := 64) (by decide) ?_
        refine j_aload_n C dX7_count_64 rfl (n := 65) rfl ?_
        refine gf_X7_12 C 0 (cX_0 g _) rfl dX7_count_65 (n := 68) rfl ?_
        refine gf_X7_139 C 1 (cX_1 g _) rfl dX7_count_68 (n := 71) rfl ?_
        exact j_retP C dX7_count_71
      · refine j_split (fun q4 => ?_) (fun q4 => ?_)
        · refine j_tabIn C dX7_count_1 q4 (off := 71) (by decide) (n := 72) (by decide) ?_
          refine j_aload_n C dX7_count_72 rfl (n := 73) rfl ?_
          refine gf_X7_12 C 0 (cX_0 g _) rfl dX7_count_73 (n := 76) rfl ?_
          refine j_bnd (fun r6 q5 => ?_)
          refine j_ci C (run_V C mi_X1_roomsShown lm_X7_320 iv_X1_roomsShown ⟨Nat.le_of_ble_eq_true rfl, Nat.le_of_ble_eq_true rfl⟩ (m_X1_roomsShown _ _ _ q5) (cX_1 g _) rfl rfl rfl rfl (Nat.le_of_ble_eq_true rfl) dX7_count_76) (n := 79) rfl ?_
          refine j_ci C (run_S C mi_J6_bitCount_0f7a4 lm_X7_169 st_J6_bitCount_0f7a4 ⟨Nat.le_of_ble_eq_true rfl, Nat.le_of_ble_eq_true rfl⟩ (m_J6_bitCount_0f7a4 _ _ _) rfl rfl rfl (Nat.le_of_ble_eq_true rfl) dX7_count_79) (n := 82) rfl ?_
          exact j_retP C dX7_count_82
        · refine j_split (fun q8 => ?_) (fun q8 => ?_)
          · refine j_tabIn C dX7_count_1 q8 (off := 82) (by decide) (n := 83) (by decide) ?_
            refine j_aload_n C dX7_count_83 rfl (n := 84) rfl ?_
            refine gf_X7_12 C 0 (cX_0 g _) rfl dX7_count_84 (n := 87) rfl ?_
            refine j_bnd (fun r10 q9 => ?_)
            refine j_ci C (run_V C mi_X1_allWax lm_X7_323 iv_X1_allWax ⟨Nat.le_of_ble_eq_true rfl, Nat.le_of_ble_eq_true rfl⟩ (m_X1_allWax _ _ _ q9) (cX_1 g _) rfl rfl rfl rfl (Nat.le_of_ble_eq_true rfl) dX7_count_87) (n := 90) rfl ?_
            exact j_retP C dX7_count_90
          · refine j_split (fun q12 => ?_) (fun q12 => ?_)
            · refine j_tabIn C dX7_count_1 q12 (off := 90) (by decide) (n := 91) (by decide) ?_
              refine j_aload_n C dX7_count_91 rfl (n := 92) rfl ?_
              refine gf_X7_39 C 0 (cX_0 g _) rfl dX7_count_92 (n := 95) rfl ?_
              refine gf_X7_257 C 40 (cX_40 g _) rfl dX7_count_95 (n := 98) rfl ?_
              exact j_retP C dX7_count_98
            · refine j_split (fun q13 => ?_) (fun q13 => ?_)
              · refine j_tabIn C dX7_count_1 q13 (off := 98) (by decide) (n := 99) (by decide) ?_
                refine j_aload_n C dX7_count_99 rfl (n := 100) rfl ?_
                refine gf_X7_12 C 0 (cX_0 g _) rfl dX7_count_100 (n := 103) rfl ?_
                refine gf_X7_254 C 1 (cX_1 g _) rfl dX7_count_103 (n := 106) rfl ?_
                exact j_retP C dX7_count_106
              · refine j_split (fun q14 => ?_) (fun q14 => ?_)
                · refine j_tabIn C dX7_count_1 q14 (off := 106) (by decide) (n := 107) (by decide) ?_
                  refine j_aload_n C dX7_count_107 rfl (n := 108) rfl ?_
                  refine gf_X7_12 C 0 (cX_0 g _) rfl dX7_count_108 (n := 111) rfl ?_
                  refine j_bnd (fun r16 q15 => ?_)
                  refine j_ci C (run_V C mi_X1_spotsHeld lm_X7_326 iv_X1_spotsHeld ⟨Nat.le_of_ble_eq_true rfl, Nat.le_of_ble_eq_true rfl⟩ (m_X1_spotsHeld _ _ _ q15) (cX_1 g _) rfl rfl rfl rfl (Nat.le_of_ble_eq_true rfl) dX7_count_111) (n := 114) rfl ?_
                  exact j_retP C dX7_count_114
                · refine j_tabOut C dX7_count_1 (tabout_0_7 q1 q2 q3 q4 q8 q12 q13 q14) (n := 115) (by decide) ?_
                  refine j_aload_n C dX7_count_115 rfl (n := 116) rfl ?_
                  refine j_ldc C dX7_count_116 kc_X7_67 (n := 118) rfl ?_
                  refine j_bnd (fun r19 q18 => ?_)
                  refine j_ci C (run_V C mi_X7_finding lm_X7_68 iv_X7_finding ⟨Nat.le_of_ble_eq_true rfl, Nat.le_of_ble_eq_true rfl⟩ (m_X7_finding _ _ _ q18) (cX_0 g _) rfl rfl rfl rfl (Nat.le_of_ble_eq_true rfl) dX7_count_118) (n := 121) rfl ?_
                  exact j_retP C dX7_count_121
-- X7_status
set_option maxRecDepth 20000 in
theorem j_X7_status_32 {x : Fx} {g : Gl} (C : Ok x g RX7 cX7_status 4 (some .int)) (fu : Nat) : ∀ (n : Nat) (x2 : Int32) (x3 : Int32) (h : Hp), J x g cwX 4 2 (fun r : Int32 × Hp => qI cwX r.1 r.2) 32 [some (rf g 0), none, some (.int x2), some (.int x3)] [] h (X7_status_32 fu n x2 x3 h) := by
  intro n
  induction n with
  | zero =>
    intro x2 x3 h
    rw [X7_status_32]
    exact j_none
  | succ n ih =>
    intro x2 x3 h
    rw [X7_status_32]
    refine j_iload_n C dX7_status_32 rfl (n := 33) rfl ?_
    refine j_bipush C dX7_status_33 bp_7 (n := 35) rfl ?_
    refine j_icmp_ge C dX7_status_35 (tgt := 53) (n := 38) (by decide) rfl (fun q1 => ?_) (fun q1 => ?_)
    · refine j_iload_n C dX7_status_53 rfl (n := 54) rfl ?_
      exact j_retP C dX7_status_54
    · refine j_iload_n C dX7_status_38 rfl (n := 39) rfl ?_
      refine j_aload_n C dX7_status_39 rfl (n := 40) rfl ?_
      refine gf_X7_58 C 0 (cX_0 g _) rfl dX7_status_40 (n := 43) rfl ?_
      refine j_iload_n C dX7_status_43 rfl (n := 44) rfl ?_
      refine j_iald C 55 (cX_55 g _) dX7_status_44 (n := 45) rfl ?_
      refine j_iadd C dX7_status_45 (n := 46) rfl ?_
      refine j_istore_n C dX7_status_46 (Nat.le_of_ble_eq_true rfl) (n := 47) rfl ?_
      refine j_iinc C dX7_status_47 rfl ic_1 (Nat.le_of_ble_eq_true rfl) (n := 50) rfl ?_
      refine j_goto C dX7_status_50 (n := 32) (by decide) ?_
      exact j_to (ih _ _ _) ⟨rfl, ⟨rfl, ⟨rfl, trivial⟩⟩⟩
set_option maxRecDepth 20000 in
theorem m_X7_status (l : Launch) (fu : Nat) (x1 : Int32) (h : Hp) {r : Int32 × Hp} (e : X7_status fu x1 h = some r) : CT l yX7_status cX7_status 4 (some .int) 2 cwX (fun g => [rf g 0, .int x1]) h (qI cwX r.1 r.2) := by
  refine ct_of (QR := (fun r : Int32 × Hp => qI cwX r.1 r.2)) (by decide +kernel) (fun g => ⟨rfl, Nat.le_of_ble_eq_true rfl⟩) e (fun x g hl C => ?_)
  unfold X7_status
  refine j_iload_n C dX7_status_0 rfl (n := 1) rfl ?_
  refine j_iconst C dX7_status_1 ic_m1 (n := 2) rfl ?_
  refine j_bipush C dX7_status_2 bp_6 (n := 4) rfl ?_
  refine j_cz C (run_S C mi_X7_within lm_X7_94 st_X7_within ⟨Nat.le_of_ble_eq_true rfl, Nat.le_of_ble_eq_true rfl⟩ (m_X7_within _ _ _ _ _) rfl rfl rfl (Nat.le_of_ble_eq_true rfl) dX7_status_4) (n := 7) rfl (fun b1 => ?_)
  refine j_if_ne C dX7_status_7 (tgt := 17) (n := 10) (by decide) rfl (fun q2 => ?_) (fun q2 => ?_)
  · refine j_iload_n C dX7_status_17 rfl (n := 18) rfl ?_
    refine j_if_lt C dX7_status_18 (tgt := 28) (n := 21) (by decide) rfl (fun q3 => ?_) (fun q3 => ?_)
    · refine j_iconst C dX7_status_28 ic_0 (n := 29) rfl ?_
      refine j_istore_n C dX7_status_29 (Nat.le_of_ble_eq_true rfl) (n := 30) rfl ?_
      refine j_iconst C dX7_status_30 ic_0 (n := 31) rfl ?_
      refine j_istore_n C dX7_status_31 (Nat.le_of_ble_eq_true rfl) (n := 32) rfl ?_
      exact j_to (j_X7_status_32 C _ _ _ _ _) ⟨rfl, ⟨rfl, ⟨rfl, trivial⟩⟩⟩
    · refine j_aload_n C dX7_status_21 rfl (n := 22) rfl ?_
      refine gf_X7_58 C 0 (cX_0 g _) rfl dX7_status_22 (n := 25) rfl ?_
      refine j_iload_n C dX7_status_25 rfl (n := 26) rfl ?_
      refine j_iald C 55 (cX_55 g _) dX7_status_26 (n := 27) rfl ?_
      exact j_retP C dX7_status_27
  · refine j_aload_n C dX7_status_10 rfl (n := 11) rfl ?_
    refine j_ldc C dX7_status_11 kc_X7_67 (n := 13) rfl ?_
    refine j_bnd (fun r5 q4 => ?_)
    refine j_ci C (run_V C mi_X7_finding lm_X7_68 iv_X7_finding ⟨Nat.le_of_ble_eq_true rfl, Nat.le_of_ble_eq_true rfl⟩ (m_X7_finding _ _ _ q4) (cX_0 g _) rfl rfl rfl rfl (Nat.le_of_ble_eq_true rfl) dX7_status_13) (n := 16) rfl ?_
    exact j_retP C dX7_status_16
-- X8_within
set_option maxRecDepth 20000 in
theorem m_X8_within (l : Launch) (x0 : Int32) (x1 : Int32) (x2 : Int32) (h : Hp) : CT l yX8_within cX8_within 3 (some .boolean) 0 cwM (fun g => [.int x0, .int x1, .int x2]) h (qZ cwM (X8_within x0 x1 x2) h) := by
  refine ct_of (QR := (fun r : Int32 => qZ cwM r h)) (by decide +kernel) (fun g => ⟨rfl, Nat.le_of_ble_eq_true rfl⟩) (X8_within_e x0 x1 x2) (fun x g hl C => ?_)
  unfold X8_within_o
  refine j_iload_n C dX8_within_0 rfl (n := 1) rfl ?_
  refine j_iload_n C dX8_within_1 rfl (n := 2) rfl ?_
  refine j_icmp_lt C dX8_within_2 (tgt := 14) (n := 5) (by decide) rfl (fun q1 => ?_) (fun q1 => ?_)
  · refine j_iconst C dX8_within_14 ic_0 (n := 15) rfl ?_
    exact j_retZ C (Or.inl rfl) dX8_within_15
  · refine j_iload_n C dX8_within_5 rfl (n := 6) rfl ?_
    refine j_iload_n C dX8_within_6 rfl (n := 7) rfl ?_
    refine j_icmp_gt C dX8_within_7 (tgt := 14) (n := 10) (by decide) rfl (fun q2 => ?_) (fun q2 => ?_)
    · refine j_iconst C dX8_within_14 ic_0 (n := 15) rfl ?_
      exact j_retZ C (Or.inl rfl) dX8_within_15
    · refine j_iconst C dX8_within_10 ic_1 (n := 11) rfl ?_
      refine j_goto C dX8_within_11 (n := 15) (by decide) ?_
      exact j_retZ C (Or.inr rfl) dX8_within_15
-- X8_isKind
set_option maxRecDepth 20000 in
theorem m_X8_isKind (l : Launch) (x0 : Int32) (h : Hp) : CT l yX8_isKind cX8_isKind 1 (some .boolean) 1 cwM (fun g => [.int x0]) h (qZ cwM (X8_isKind x0) h) := by
  refine ct_of (QR := (fun r : Int32 => qZ cwM r h)) (by decide +kernel) (fun g => ⟨rfl, Nat.le_of_ble_eq_true rfl⟩) (X8_isKind_e x0) (fun x g hl C => ?_)
  unfold X8_isKind_o
  refine j_iload_n C dX8_isKind_0 rfl (n := 1) rfl ?_
  refine j_iconst C dX8_isKind_1 ic_0 (n := 2) rfl ?_
  refine j_bipush C dX8_isKind_2 bp_6 (n := 4) rfl ?_
  refine j_cz C (run_S C mi_X8_within lm_X8_68 st_X8_within ⟨Nat.le_of_ble_eq_true rfl, Nat.le_of_ble_eq_true rfl⟩ (m_X8_within _ _ _ _ _) rfl rfl rfl (Nat.le_of_ble_eq_true rfl) dX8_isKind_4) (n := 7) rfl (fun b1 => ?_)
  exact j_retZ C b1 dX8_isKind_7
-- X8_finding
set_option maxRecDepth 20000 in
theorem m_X8_finding (l : Launch) (x1 : Int32) (h : Hp) {r : Int32 × Hp} (e : X8_finding x1 h = some r) : CT l yX8_finding cX8_finding 2 (some .int) 0 cwM (fun g => [rf g 0, .int x1]) h (qI cwM r.1 r.2) := by
  refine ct_of (QR := (fun r : Int32 × Hp => qI cwM r.1 r.2)) (by decide +kernel) (fun g => ⟨rfl, Nat.le_of_ble_eq_true rfl⟩) e (fun x g hl C => ?_)
  unfold X8_finding
  refine j_aload_n C dX8_finding_0 rfl (n := 1) rfl ?_
  refine gf_X8_19 C 0 (cM_0 g _) rfl dX8_finding_1 (n := 4) rfl ?_
  refine j_ldc C dX8_finding_4 kc_X8_63 (n := 6) rfl ?_
  refine j_iload_n C dX8_finding_6 rfl (n := 7) rfl ?_
  refine j_isub C dX8_finding_7 (n := 8) rfl ?_
  refine j_iconst C dX8_finding_8 ic_1 (n := 9) rfl ?_
  refine j_iadd C dX8_finding_9 (n := 10) rfl ?_
  refine j_dup2 C dX8_finding_10 rfl rfl (n := 11) rfl ?_
  refine j_iald C 4 (cM_4 g _) dX8_finding_11 (n := 12) rfl ?_
  refine j_iconst C dX8_finding_12 ic_1 (n := 13) rfl ?_
  refine j_iadd C dX8_finding_13 (n := 14) rfl ?_
  refine j_iast C 4 (cM_4 g _) (aM_4 g _ _ _) dX8_finding_14 (n := 15) rfl ?_
  refine j_aload_n C dX8_finding_15 rfl (n := 16) rfl ?_
  refine gf_X8_19 C 0 (cM_0 g _) rfl dX8_finding_16 (n := 19) rfl ?_
  refine j_iconst C dX8_finding_19 ic_0 (n := 20) rfl ?_
  refine j_dup2 C dX8_finding_20 rfl rfl (n := 21) rfl ?_
  refine j_ialdL C 4 (cM_4 g _) ir_0_8 dX8_finding_21 (n := 22) rfl ?_
  refine j_iconst C dX8_finding_22 ic_1 (n := 23) rfl ?_
  refine j_iadd C dX8_finding_23 (n := 24) rfl ?_
  refine j_iastL C 4 (cM_4 g _) (aM_4 g _ _ _) ir_0_8 dX8_finding_24 (n := 25) rfl ?_
  refine j_iload_n C dX8_finding_25 rfl (n := 26) rfl ?_
  exact j_retP C dX8_finding_26
-- X8_at
set_option maxRecDepth 20000 in
theorem m_X8_at (l : Launch) (x0 : Int32) (x1 : Int32) (h : Hp) : CT l yX8_at cX8_at 2 (some .int) 0 cwM (fun g => [.int x0, .int x1]) h (qI cwM (X8_at x0 x1) h) := by
  refine ct_of (QR := (fun r : Int32 => qI cwM r h)) (by decide +kernel) (fun g => ⟨rfl, Nat.le_of_ble_eq_true rfl⟩) (X8_at_e x0 x1) (fun x g hl C => ?_)
  unfold X8_at_o
  refine j_bipush C dX8_at_0 bp_33 (n := 2) rfl ?_
  refine j_iconst C dX8_at_2 ic_4 (n := 3) rfl ?_
  refine j_iload_n C dX8_at_3 rfl (n := 4) rfl ?_
  refine j_imul C dX8_at_4 (n := 5) rfl ?_
  refine j_iadd C dX8_at_5 (n := 6) rfl ?_
  refine j_iload_n C dX8_at_6 rfl (n := 7) rfl ?_
  refine j_iadd C dX8_at_7 (n := 8) rfl ?_
  exact j_ret C dX8_at_8
-- X8_comes
set_option maxRecDepth 20000 in
theorem j_X8_comes_64 {x : Fx} {g : Gl} (C : Ok x g RX8 cX8_comes 6 (some .int)) (x5 : Int32) (s1 : Int32) (s2 : Int32) (h : Hp) : J x g cwM 6 1 (fun r : Int32 × Hp => qI cwM r.1 r.2) 64 [none, none, none, none, none, some (.int x5)] [.int s2, .int s1, rf g 1] h (X8_comes_64 x5 s1 s2 h) := by
  unfold X8_comes_64
  refine j_iconst C dX8_comes_64 ic_1 (n := 65) rfl ?_
  refine j_iadd C dX8_comes_65 (n := 66) rfl ?_
  refine j_iast C 1 (cM_1 g _) (aM_1 g _ _ _) dX8_comes_66 (n := 67) rfl ?_
  refine j_iload C dX8_comes_67 rfl (n := 69) rfl ?_
  exact j_retP C dX8_comes_69
set_option maxRecDepth 20000 in
theorem m_X8_comes (l : Launch) (x1 : Int32) (x2 : Int32) (x3 : Int32) (x4 : Int32) (h : Hp) {r : Int32 × Hp} (e : X8_comes x1 x2 x3 x4 h = some r) : CT l yX8_comes cX8_comes 6 (some .int) 1 cwM (fun g => [rf g 0, .int x1, .int x2, .int x3, .int x4]) h (qI cwM r.1 r.2) := by
  refine ct_of (QR := (fun r : Int32 × Hp => qI cwM r.1 r.2)) (by decide +kernel) (fun g => ⟨rfl, Nat.le_of_ble_eq_true rfl⟩) e (fun x g hl C => ?_)
  unfold X8_comes
  refine j_aload_n C dX8_comes_0 rfl (n := 1) rfl ?_
  refine gf_X8_9 C 0 (cM_0 g _) rfl dX8_comes_1 (n := 4) rfl ?_
  refine j_iconst C dX8_comes_4 ic_2 (n := 5) rfl ?_
  refine j_ialdL C 1 (cM_1 g _) ir_2_117 dX8_comes_5 (n := 6) rfl ?_
  refine j_istore C dX8_comes_6 (Nat.le_of_ble_eq_true rfl) (n := 8) rfl ?_
  refine j_aload_n C dX8_comes_8 rfl (n := 9) rfl ?_
  refine gf_X8_9 C 0 (cM_0 g _) rfl dX8_comes_9 (n := 12) rfl ?_
  refine j_iload C dX8_comes_12 rfl (n := 14) rfl ?_
  refine j_iconst C dX8_comes_14 ic_0 (n := 15) rfl ?_
  refine j_ci C (run_S C mi_X8_at lm_X8_72 st_X8_at ⟨Nat.le_of_ble_eq_true rfl, Nat.le_of_ble_eq_true rfl⟩ (m_X8_at _ _ _ _) rfl rfl rfl (Nat.le_of_ble_eq_true rfl) dX8_comes_15) (n := 18) rfl ?_
  refine j_iload_n C dX8_comes_18 rfl (n := 19) rfl ?_
  refine j_iast C 1 (cM_1 g _) (aM_1 g _ _ _) dX8_comes_19 (n := 20) rfl ?_
  refine j_aload_n C dX8_comes_20 rfl (n := 21) rfl ?_
  refine gf_X8_9 C 0 (cM_0 g _) rfl dX8_comes_21 (n := 24) rfl ?_
  refine j_iload C dX8_comes_24 rfl (n := 26) rfl ?_
  refine j_iconst C dX8_comes_26 ic_1 (n := 27) rfl ?_
  refine j_ci C (run_S C mi_X8_at lm_X8_72 st_X8_at ⟨Nat.le_of_ble_eq_true rfl, Nat.le_of_ble_eq_true rfl⟩ (m_X8_at _ _ _ _) rfl rfl rfl (Nat.le_of_ble_eq_true rfl) dX8_comes_27) (n := 30) rfl ?_
  refine j_iload_n C dX8_comes_30 rfl (n := 31) rfl ?_
  refine j_iast C 1 (cM_1 g _) (aM_1 g _ _ _) dX8_comes_31 (n := 32) rfl ?_
  refine j_aload_n C dX8_comes_32 rfl (n := 33) rfl ?_
  refine gf_X8_9 C 0 (cM_0 g _) rfl dX8_comes_33 (n := 36) rfl ?_
  refine j_iload C dX8_comes_36 rfl (n := 38) rfl ?_
  refine j_iconst C dX8_comes_38 ic_2 (n := 39) rfl ?_
  refine j_ci C (run_S C mi_X8_at lm_X8_72 st_X8_at ⟨Nat.le_of_ble_eq_true rfl, Nat.le_of_ble_eq_true rfl⟩ (m_X8_at _ _ _ _) rfl rfl rfl (Nat.le_of_ble_eq_true rfl) dX8_comes_39) (n := 42) rfl ?_
  refine j_iload_n C dX8_comes_42 rfl (n := 43) rfl ?_
  refine j_iast C 1 (cM_1 g _) (aM_1 g _ _ _) dX8_comes_43 (n := 44) rfl ?_
  refine j_aload_n C dX8_comes_44 rfl (n := 45) rfl ?_
  refine gf_X8_9 C 0 (cM_0 g _) rfl dX8_comes_45 (n := 48) rfl ?_
  refine j_iload C dX8_comes_48 rfl (n := 50) rfl ?_
  refine j_iconst C dX8_comes_50 ic_3 (n := 51) rfl ?_
  refine j_ci C (run_S C mi_X8_at lm_X8_72 st_X8_at ⟨Nat.le_of_ble_eq_true rfl, Nat.le_of_ble_eq_true rfl⟩ (m_X8_at _ _ _ _) rfl rfl rfl (Nat.le_of_ble_eq_true rfl) dX8_comes_51) (n := 54) rfl ?_
  refine j_iload C dX8_comes_54 rfl (n := 56) rfl ?_
  refine j_iast C 1 (cM_1 g _) (aM_1 g _ _ _) dX8_comes_56 (n := 57) rfl ?_
  refine j_aload_n C dX8_comes_57 rfl (n := 58) rfl ?_
  refine gf_X8_9 C 0 (cM_0 g _) rfl dX8_comes_58 (n := 61) rfl ?_
  refine j_iconst C dX8_comes_61 ic_2 (n := 62) rfl ?_
  refine j_dup2 C dX8_comes_62 rfl rfl (n := 63) rfl ?_
  refine j_ialdL C 1 (cM_1 g _) ir_2_117 dX8_comes_63 (n := 64) rfl ?_
  exact j_to (j_X8_comes_64 C _ _ _ _) ⟨rfl, trivial⟩
-- X8_part
set_option maxRecDepth 20000 in
theorem m_X8_part (l : Launch) (x1 : Int32) (h : Hp) {r : Int32 × Hp} (e : X8_part x1 h = some r) : CT l yX8_part cX8_part 2 (some .int) 2 cwM (fun g => [rf g 0, .int x1]) h (qI cwM r.1 r.2) := by
  refine ct_of (QR := (fun r : Int32 × Hp => qI cwM r.1 r.2)) (by decide +kernel) (fun g => ⟨rfl, Nat.le_of_ble_eq_true rfl⟩) e (fun x g hl C => ?_)
  unfold X8_part
  refine j_iload_n C dX8_part_0 rfl (n := 1) rfl ?_
  refine j_cz C (run_S C mi_X8_isKind lm_X8_76 st_X8_isKind ⟨Nat.le_of_ble_eq_true rfl, Nat.le_of_ble_eq_true rfl⟩ (m_X8_isKind _ _ _) rfl rfl rfl (Nat.le_of_ble_eq_true rfl) dX8_part_1) (n := 4) rfl (fun b1 => ?_)
  refine j_if_ne C dX8_part_4 (tgt := 14) (n := 7) (by decide) rfl (fun q2 => ?_) (fun q2 => ?_)
  · refine j_aload_n C dX8_part_14 rfl (n := 15) rfl ?_
    refine gf_X8_9 C 0 (cM_0 g _) rfl dX8_part_15 (n := 18) rfl ?_
    refine j_iconst C dX8_part_18 ic_2 (n := 19) rfl ?_
    refine j_ialdL C 1 (cM_1 g _) ir_2_117 dX8_part_19 (n := 20) rfl ?_
    refine j_bipush C dX8_part_20 bp_10 (n := 22) rfl ?_
    refine j_icmp_ne C dX8_part_22 (tgt := 34) (n := 25) (by decide) rfl (fun q3 => ?_) (fun q3 => ?_)
    · refine j_aload_n C dX8_part_34 rfl (n := 35) rfl ?_
      refine j_iload_n C dX8_part_35 rfl (n := 36) rfl ?_
      refine j_iconst C dX8_part_36 ic_0 (n := 37) rfl ?_
      refine j_bipush C dX8_part_37 bp_10 (n := 39) rfl ?_
      refine j_iconst C dX8_part_39 ic_m1 (n := 40) rfl ?_
      refine j_bnd (fun r5 q4 => ?_)
      refine j_ci C (run_V C mi_X8_comes lm_X8_85 iv_X8_comes ⟨Nat.le_of_ble_eq_true rfl, Nat.le_of_ble_eq_true rfl⟩ (m_X8_comes _ _ _ _ _ _ q4) (cM_0 g _) rfl rfl rfl rfl (Nat.le_of_ble_eq_true rfl) dX8_part_40) (n := 43) rfl ?_
      exact j_retP C dX8_part_43
    · refine j_aload_n C dX8_part_25 rfl (n := 26) rfl ?_
      refine j_ldc C dX8_part_26 kc_X8_84 (n := 28) rfl ?_
      refine j_bnd (fun r8 q7 => ?_)
      refine j_ci C (run_V C mi_X8_finding lm_X8_80 iv_X8_finding ⟨Nat.le_of_ble_eq_true rfl, Nat.le_of_ble_eq_true rfl⟩ (m_X8_finding _ _ _ q7) (cM_0 g _) rfl rfl rfl rfl (Nat.le_of_ble_eq_true rfl) dX8_part_28) (n := 31) rfl ?_
      refine j_goto C dX8_part_31 (n := 43) (by decide) ?_
      exact j_retP C dX8_part_43
  · refine j_aload_n C dX8_part_7 rfl (n := 8) rfl ?_
    refine j_ldc C dX8_part_8 kc_X8_63 (n := 10) rfl ?_
    refine j_bnd (fun r11 q10 => ?_)
    refine j_ci C (run_V C mi_X8_finding lm_X8_80 iv_X8_finding ⟨Nat.le_of_ble_eq_true rfl, Nat.le_of_ble_eq_true rfl⟩ (m_X8_finding _ _ _ q10) (cM_0 g _) rfl rfl rfl rfl (Nat.le_of_ble_eq_true rfl) dX8_part_10) (n := 13) rfl ?_
    exact j_retP C dX8_part_13
-- X8_isPart
set_option maxRecDepth 20000 in
theorem m_X8_isPart (l : Launch) (x1 : Int32) (h : Hp) {r : Int32} (e : X8_isPart x1 h = some r) : CT l yX8_isPart cX8_isPart 2 (some .boolean) 1 cwM (fun g => [rf g 0, .int x1]) h (qZ cwM r h) := by
  refine ct_of (QR := (fun r : Int32 => qZ cwM r h)) (by decide +kernel) (fun g => ⟨rfl, Nat.le_of_ble_eq_true rfl⟩) e (fun x g hl C => ?_)
  unfold X8_isPart
  refine j_iload_n C dX8_isPart_0 rfl (n := 1) rfl ?_
  refine j_iconst C dX8_isPart_1 ic_0 (n := 2) rfl ?_
  refine j_aload_n C dX8_isPart_2 rfl (n := 3) rfl ?_
  refine gf_X8_9 C 0 (cM_0 g _) rfl dX8_isPart_3 (n := 6) rfl ?_
  refine j_iconst C dX8_isPart_6 ic_2 (n := 7) rfl ?_
  refine j_ialdL C 1 (cM_1 g _) ir_2_117 dX8_isPart_7 (n := 8) rfl ?_
  refine j_iconst C dX8_isPart_8 ic_1 (n := 9) rfl ?_
  refine j_isub C dX8_isPart_9 (n := 10) rfl ?_
  refine j_cz C (run_S C mi_X8_within lm_X8_68 st_X8_within ⟨Nat.le_of_ble_eq_true rfl, Nat.le_of_ble_eq_true rfl⟩ (m_X8_within _ _ _ _ _) rfl rfl rfl (Nat.le_of_ble_eq_true rfl) dX8_isPart_10) (n := 13) rfl (fun b1 => ?_)
  exact j_retZ C b1 dX8_isPart_13
-- X8_partIs
set_option maxRecDepth 20000 in
theorem m_X8_partIs (l : Launch) (x1 : Int32) (x2 : Int32) (h : Hp) {r : Int32} (e : X8_partIs x1 x2 h = some r) : CT l yX8_partIs cX8_partIs 3 (some .int) 1 cwM (fun g => [rf g 0, .int x1, .int x2]) h (qI cwM r h) := by
  refine ct_of (QR := (fun r : Int32 => qI cwM r h)) (by decide +kernel) (fun g => ⟨rfl, Nat.le_of_ble_eq_true rfl⟩) e (fun x g hl C => ?_)
  unfold X8_partIs
  refine j_aload_n C dX8_partIs_0 rfl (n := 1) rfl ?_
  refine gf_X8_9 C 0 (cM_0 g _) rfl dX8_partIs_1 (n := 4) rfl ?_
  refine j_iload_n C dX8_partIs_4 rfl (n := 5) rfl ?_
  refine j_iload_n C dX8_partIs_5 rfl (n := 6) rfl ?_
  refine j_ci C (run_S C mi_X8_at lm_X8_72 st_X8_at ⟨Nat.le_of_ble_eq_true rfl, Nat.le_of_ble_eq_true rfl⟩ (m_X8_at _ _ _ _) rfl rfl rfl (Nat.le_of_ble_eq_true rfl) dX8_partIs_6) (n := 9) rfl ?_
  refine j_iald C 1 (cM_1 g _) dX8_partIs_9 (n := 10) rfl ?_
  exact j_ret C dX8_partIs_10
-- X8_of
set_option maxRecDepth 20000 in
theorem m_X8_of (l : Launch) (x1 : Int32) (x2 : Int32) (h : Hp) {r : Int32 × Hp} (e : X8_of x1 x2 h = some r) : CT l yX8_of cX8_of 3 (some .int) 2 cwM (fun g => [rf g 0, .int x1, .int x2]) h (qI cwM r.1 r.2) := by
  refine ct_of (QR := (fun r : Int32 × Hp => qI cwM r.1 r.2)) (by decide +kernel) (fun g => ⟨rfl, Nat.le_of_ble_eq_true rfl⟩) e (fun x g hl C => ?_)
  unfold X8_of
  refine j_aload_n C dX8_of_0 rfl (n := 1) rfl ?_
  refine j_iload_n C dX8_of_1 rfl (n := 2) rfl ?_
  refine j_bnd (fun r2 q1 => ?_)
  refine j_cz C (run_V C mi_X8_isPart lm_X8_99 iv_X8_isPart ⟨Nat.le_of_ble_eq_true rfl, Nat.le_of_ble_eq_true rfl⟩ (m_X8_isPart _ _ _ q1) (cM_0 g _) rfl rfl rfl rfl (Nat.le_of_ble_eq_true rfl) dX8_of_2) (n := 5) rfl (fun b3 => ?_)
  refine j_if_eq C dX8_of_5 (tgt := 26) (n := 8) (by decide) rfl (fun q4 => ?_) (fun q4 => ?_)
  · refine j_aload_n C dX8_of_26 rfl (n := 27) rfl ?_
    refine j_ldc C dX8_of_27 kc_X8_63 (n := 29) rfl ?_
    refine j_bnd (fun r6 q5 => ?_)
    refine j_ci C (run_V C mi_X8_finding lm_X8_80 iv_X8_finding ⟨Nat.le_of_ble_eq_true rfl, Nat.le_of_ble_eq_true rfl⟩ (m_X8_finding _ _ _ q5) (cM_0 g _) rfl rfl rfl rfl (Nat.le_of_ble_eq_true rfl) dX8_of_29) (n := 32) rfl ?_
    exact j_retP C dX8_of_32
  · refine j_iload_n C dX8_of_8 rfl (n := 9) rfl ?_
    refine j_iconst C dX8_of_9 ic_0 (n := 10) rfl ?_
    refine j_iconst C dX8_of_10 ic_3 (n := 11) rfl ?_
    refine j_cz C (run_S C mi_X8_within lm_X8_68 st_X8_within ⟨Nat.le_of_ble_eq_true rfl, Nat.le_of_ble_eq_true rfl⟩ (m_X8_within _ _ _ _ _) rfl rfl rfl (Nat.le_of_ble_eq_true rfl) dX8_of_11) (n := 14) rfl (fun b8 => ?_)
    refine j_if_eq C dX8_of_14 (tgt := 26) (n := 17) (by decide) rfl (fun q9 => ?_) (fun q9 => ?_)
    · refine j_aload_n C dX8_of_26 rfl (n := 27) rfl ?_
      refine j_ldc C dX8_of_27 kc_X8_63 (n := 29) rfl ?_
      refine j_bnd (fun r11 q10 => ?_)
      refine j_ci C (run_V C mi_X8_finding lm_X8_80 iv_X8_finding ⟨Nat.le_of_ble_eq_true rfl, Nat.le_of_ble_eq_true rfl⟩ (m_X8_finding _ _ _ q10) (cM_0 g _) rfl rfl rfl rfl (Nat.le_of_ble_eq_true rfl) dX8_of_29) (n := 32) rfl ?_
      exact j_retP C dX8_of_32
    · refine j_aload_n C dX8_of_17 rfl (n := 18) rfl ?_
      refine j_iload_n C dX8_of_18 rfl (n := 19) rfl ?_
      refine j_iload_n C dX8_of_19 rfl (n := 20) rfl ?_
      refine j_bnd (fun r14 q13 => ?_)
      refine j_ci C (run_V C mi_X8_partIs lm_X8_92 iv_X8_partIs ⟨Nat.le_of_ble_eq_true rfl, Nat.le_of_ble_eq_true rfl⟩ (m_X8_partIs _ _ _ _ q13) (cM_0 g _) rfl rfl rfl rfl (Nat.le_of_ble_eq_true rfl) dX8_of_20) (n := 23) rfl ?_
      refine j_goto C dX8_of_23 (n := 32) (by decide) ?_
      exact j_retP C dX8_of_32
-- X8_isLooks
set_option maxRecDepth 20000 in
theorem m_X8_isLooks (l : Launch) (x0 : Int32) (h : Hp) : CT l yX8_isLooks cX8_isLooks 1 (some .boolean) 1 cwM (fun g => [.int x0]) h (qZ cwM (X8_isLooks x0) h) := by
  refine ct_of (QR := (fun r : Int32 => qZ cwM r h)) (by decide +kernel) (fun g => ⟨rfl, Nat.le_of_ble_eq_true rfl⟩) (X8_isLooks_e x0) (fun x g hl C => ?_)
  unfold X8_isLooks_o
  refine j_iload_n C dX8_isLooks_0 rfl (n := 1) rfl ?_
  refine j_iconst C dX8_isLooks_1 ic_0 (n := 2) rfl ?_
  refine j_sipush C dX8_isLooks_2 sp_255 (n := 5) rfl ?_
  refine j_cz C (run_S C mi_X8_within lm_X8_68 st_X8_within ⟨Nat.le_of_ble_eq_true rfl, Nat.le_of_ble_eq_true rfl⟩ (m_X8_within _ _ _ _ _) rfl rfl rfl (Nat.le_of_ble_eq_true rfl) dX8_isLooks_5) (n := 8) rfl (fun b1 => ?_)
  exact j_retZ C b1 dX8_isLooks_8
-- X8_isPlace
set_option maxRecDepth 20000 in
theorem m_X8_isPlace (l : Launch) (x0 : Int32) (h : Hp) : CT l yX8_isPlace cX8_isPlace 1 (some .boolean) 1 cwM (fun g => [.int x0]) h (qZ cwM (X8_isPlace x0) h) := by
  refine ct_of (QR := (fun r : Int32 => qZ cwM r h)) (by decide +kernel) (fun g => ⟨rfl, Nat.le_of_ble_eq_true rfl⟩) (X8_isPlace_e x0) (fun x g hl C => ?_)
  unfold X8_isPlace_o
  refine j_iload_n C dX8_isPlace_0 rfl (n := 1) rfl ?_
  refine j_iconst C dX8_isPlace_1 ic_m1 (n := 2) rfl ?_
  refine j_iconst C dX8_isPlace_2 ic_5 (n := 3) rfl ?_
  refine j_cz C (run_S C mi_X8_within lm_X8_68 st_X8_within ⟨Nat.le_of_ble_eq_true rfl, Nat.le_of_ble_eq_true rfl⟩ (m_X8_within _ _ _ _ _) rfl rfl rfl (Nat.le_of_ble_eq_true rfl) dX8_isPlace_3) (n := 6) rfl (fun b1 => ?_)
  exact j_retZ C b1 dX8_isPlace_6
-- X8_become
set_option maxRecDepth 20000 in
theorem m_X8_become (l : Launch) (x1 : Int32) (x2 : Int32) (h : Hp) {r : Int32 × Hp} (e : X8_become x1 x2 h = some r) : CT l yX8_become cX8_become 4 (some .int) 0 cwM (fun g => [rf g 0, .int x1, .int x2]) h (qI cwM r.1 r.2) := by
  refine ct_of (QR := (fun r : Int32 × Hp => qI cwM r.1 r.2)) (by decide +kernel) (fun g => ⟨rfl, Nat.le_of_ble_eq_true rfl⟩) e (fun x g hl C => ?_)
  unfold X8_become
  refine j_aload_n C dX8_become_0 rfl (n := 1) rfl ?_
  refine gf_X8_9 C 0 (cM_0 g _) rfl dX8_become_1 (n := 4) rfl ?_
  refine j_iload_n C dX8_become_4 rfl (n := 5) rfl ?_
  refine j_iald C 1 (cM_1 g _) dX8_become_5 (n := 6) rfl ?_
  refine j_istore_n C dX8_become_6 (Nat.le_of_ble_eq_true rfl) (n := 7) rfl ?_
  refine j_aload_n C dX8_become_7 rfl (n := 8) rfl ?_
  refine gf_X8_9 C 0 (cM_0 g _) rfl dX8_become_8 (n := 11) rfl ?_
  refine j_iload_n C dX8_become_11 rfl (n := 12) rfl ?_
  refine j_iload_n C dX8_become_12 rfl (n := 13) rfl ?_
  refine j_iast C 1 (cM_1 g _) (aM_1 g _ _ _) dX8_become_13 (n := 14) rfl ?_
  refine j_iload_n C dX8_become_14 rfl (n := 15) rfl ?_
  exact j_retP C dX8_become_15
-- X8_change
set_option maxRecDepth 20000 in
theorem j_X8_change_55 {x : Fx} {g : Gl} (C : Ok x g RX8 cX8_change 5 (some .int)) (x1 : Int32) (x2 : Int32) (x3 : Int32) (s0 : Int32) (h : Hp) (bs0 : s0 = 0 ∨ s0 = 1) : J x g cwM 5 2 (fun r : Int32 × Hp => qI cwM r.1 r.2) 55 [some (rf g 0), some (.int x1), some (.int x2), some (.int x3)] [.int s0] h (X8_change_55 x1 x2 x3 s0 h) := by
  unfold X8_change_55
  refine j_istore C dX8_change_55 (Nat.le_of_ble_eq_true rfl) (n := 57) rfl ?_
  refine j_aload_n C dX8_change_57 rfl (n := 58) rfl ?_
  refine j_iload_n C dX8_change_58 rfl (n := 59) rfl ?_
  refine j_bnd (fun r2 q1 => ?_)
  refine j_cz C (run_V C mi_X8_isPart lm_X8_99 iv_X8_isPart ⟨Nat.le_of_ble_eq_true rfl, Nat.le_of_ble_eq_true rfl⟩ (m_X8_isPart _ _ _ q1) (cM_0 g _) rfl rfl rfl rfl (Nat.le_of_ble_eq_true rfl) dX8_change_59) (n := 62) rfl (fun b3 => ?_)
  refine j_if_eq C dX8_change_62 (tgt := 83) (n := 65) (by decide) rfl (fun q4 => ?_) (fun q4 => ?_)
  · refine j_aload_n C dX8_change_83 rfl (n := 84) rfl ?_
    refine j_ldc C dX8_change_84 kc_X8_63 (n := 86) rfl ?_
    refine j_bnd (fun r6 q5 => ?_)
    refine j_ci C (run_V C mi_X8_finding lm_X8_80 iv_X8_finding ⟨Nat.le_of_ble_eq_true rfl, Nat.le_of_ble_eq_true rfl⟩ (m_X8_finding _ _ _ q5) (cM_0 g _) rfl rfl rfl rfl (Nat.le_of_ble_eq_true rfl) dX8_change_86) (n := 89) rfl ?_
    exact j_retP C dX8_change_89
  · refine j_iload C dX8_change_65 rfl (n := 67) rfl ?_
    refine j_if_eq C dX8_change_67 (tgt := 83) (n := 70) (by decide) rfl (fun q8 => ?_) (fun q8 => ?_)
    · refine j_aload_n C dX8_change_83 rfl (n := 84) rfl ?_
      refine j_ldc C dX8_change_84 kc_X8_63 (n := 86) rfl ?_
      refine j_bnd (fun r10 q9 => ?_)
      refine j_ci C (run_V C mi_X8_finding lm_X8_80 iv_X8_finding ⟨Nat.le_of_ble_eq_true rfl, Nat.le_of_ble_eq_true rfl⟩ (m_X8_finding _ _ _ q9) (cM_0 g _) rfl rfl rfl rfl (Nat.le_of_ble_eq_true rfl) dX8_change_86) (n := 89) rfl ?_
      exact j_retP C dX8_change_89
    · refine j_aload_n C dX8_change_70 rfl (n := 71) rfl ?_
      refine j_iload_n C dX8_change_71 rfl (n := 72) rfl ?_
      refine j_iload_n C dX8_change_72 rfl (n := 73) rfl ?_
      refine j_ci C (run_S C mi_X8_at lm_X8_72 st_X8_at ⟨Nat.le_of_ble_eq_true rfl, Nat.le_of_ble_eq_true rfl⟩ (m_X8_at _ _ _ _) rfl rfl rfl (Nat.le_of_ble_eq_true rfl) dX8_change_73) (n := 76) rfl ?_
      refine j_iload_n C dX8_change_76 rfl (n := 77) rfl ?_
      refine j_bnd (fun r13 q12 => ?_)
      refine j_ci C (run_V C mi_X8_become lm_X8_108 iv_X8_become ⟨Nat.le_of_ble_eq_true rfl, Nat.le_of_ble_eq_true rfl⟩ (m_X8_become _ _ _ _ q12) (cM_0 g _) rfl rfl rfl rfl (Nat.le_of_ble_eq_true rfl) dX8_change_77) (n := 80) rfl ?_
      refine j_goto C dX8_change_80 (n := 89) (by decide) ?_
      exact j_retP C dX8_change_89
set_option maxRecDepth 20000 in
theorem j_X8_change_38 {x : Fx} {g : Gl} (C : Ok x g RX8 cX8_change 5 (some .int)) (x1 : Int32) (x2 : Int32) (x3 : Int32) (h : Hp) : J x g cwM 5 2 (fun r : Int32 × Hp => qI cwM r.1 r.2) 38 [some (rf g 0), some (.int x1), some (.int x2), some (.int x3)] [] h (X8_change_38 x1 x2 x3 h) := by
  unfold X8_change_38
  refine j_iload_n C dX8_change_38 rfl (n := 39) rfl ?_
  refine j_iconst C dX8_change_39 ic_3 (n := 40) rfl ?_
  refine j_icmp_ne C dX8_change_40 (tgt := 54) (n := 43) (by decide) rfl (fun q1 => ?_) (fun q1 => ?_)
  · refine j_iconst C dX8_change_54 ic_0 (n := 55) rfl ?_
    exact j_to (j_X8_change_55 C _ _ _ _ _ (Or.inl rfl)) ⟨rfl, ⟨rfl, ⟨rfl, ⟨rfl, trivial⟩⟩⟩⟩
  · refine j_iload_n C dX8_change_43 rfl (n := 44) rfl ?_
    refine j_cz C (run_S C mi_X8_isPlace lm_X8_105 st_X8_isPlace ⟨Nat.le_of_ble_eq_true rfl, Nat.le_of_ble_eq_true rfl⟩ (m_X8_isPlace _ _ _) rfl rfl rfl (Nat.le_of_ble_eq_true rfl) dX8_change_44) (n := 47) rfl (fun b2 => ?_)
    refine j_if_eq C dX8_change_47 (tgt := 54) (n := 50) (by decide) rfl (fun q3 => ?_) (fun q3 => ?_)
    · refine j_iconst C dX8_change_54 ic_0 (n := 55) rfl ?_
      exact j_to (j_X8_change_55 C _ _ _ _ _ (Or.inl rfl)) ⟨rfl, ⟨rfl, ⟨rfl, ⟨rfl, trivial⟩⟩⟩⟩
    · refine j_iconst C dX8_change_50 ic_1 (n := 51) rfl ?_
      refine j_goto C dX8_change_51 (n := 55) (by decide) ?_
      exact j_to (j_X8_change_55 C _ _ _ _ _ (Or.inr rfl)) ⟨rfl, ⟨rfl, ⟨rfl, ⟨rfl, trivial⟩⟩⟩⟩
set_option maxRecDepth 20000 in
theorem j_X8_change_23 {x : Fx} {g : Gl} (C : Ok x g RX8 cX8_change 5 (some .int)) (x1 : Int32) (x2 : Int32) (x3 : Int32) (h : Hp) : J x g cwM 5 2 (fun r : Int32 × Hp => qI cwM r.1 r.2) 23 [some (rf g 0), some (.int x1), some (.int x2), some (.int x3)] [] h (X8_change_23 x1 x2 x3 h) := by
  unfold X8_change_23
  refine j_iload_n C dX8_change_23 rfl (n := 24) rfl ?_
  refine j_iconst C dX8_change_24 ic_2 (n := 25) rfl ?_
  refine j_icmp_ne C dX8_change_25 (tgt := 38) (n := 28) (by decide) rfl (fun q1 => ?_) (fun q1 => ?_)
  · exact j_to (j_X8_change_38 C _ _ _ _) ⟨rfl, ⟨rfl, ⟨rfl, ⟨rfl, trivial⟩⟩⟩⟩
  · refine j_iload_n C dX8_change_28 rfl (n := 29) rfl ?_
    refine j_iconst C dX8_change_29 ic_1 (n := 30) rfl ?_
    refine j_bipush C dX8_change_30 bp_60 (n := 32) rfl ?_
    refine j_cz C (run_S C mi_X8_within lm_X8_68 st_X8_within ⟨Nat.le_of_ble_eq_true rfl, Nat.le_of_ble_eq_true rfl⟩ (m_X8_within _ _ _ _ _) rfl rfl rfl (Nat.le_of_ble_eq_true rfl) dX8_change_32) (n := 35) rfl (fun b2 => ?_)
    refine j_if_ne C dX8_change_35 (tgt := 50) (n := 38) (by decide) rfl (fun q3 => ?_) (fun q3 => ?_)
    · refine j_iconst C dX8_change_50 ic_1 (n := 51) rfl ?_
      refine j_goto C dX8_change_51 (n := 55) (by decide) ?_
      exact j_to (j_X8_change_55 C _ _ _ _ _ (Or.inr rfl)) ⟨rfl, ⟨rfl, ⟨rfl, ⟨rfl, trivial⟩⟩⟩⟩
    · exact j_to (j_X8_change_38 C _ _ _ _) ⟨rfl, ⟨rfl, ⟨rfl, ⟨rfl, trivial⟩⟩⟩⟩
set_option maxRecDepth 20000 in
theorem m_X8_change (l : Launch) (x1 : Int32) (x2 : Int32) (x3 : Int32) (h : Hp) {r : Int32 × Hp} (e : X8_change x1 x2 x3 h = some r) : CT l yX8_change cX8_change 5 (some .int) 2 cwM (fun g => [rf g 0, .int x1, .int x2, .int x3]) h (qI cwM r.1 r.2) := by
  refine ct_of (QR := (fun r : Int32 × Hp => qI cwM r.1 r.2)) (by decide +kernel) (fun g => ⟨rfl, Nat.le_of_ble_eq_true rfl⟩) e (fun x g hl C => ?_)
  unfold X8_change
  refine j_iload_n C dX8_change_0 rfl (n := 1) rfl ?_
  refine j_if_ne C dX8_change_1 (tgt := 11) (n := 4) (by decide) rfl (fun q1 => ?_) (fun q1 => ?_)
  · refine j_iload_n C dX8_change_11 rfl (n := 12) rfl ?_
    refine j_iconst C dX8_change_12 ic_1 (n := 13) rfl ?_
    refine j_icmp_ne C dX8_change_13 (tgt := 23) (n := 16) (by decide) rfl (fun q2 => ?_) (fun q2 => ?_)
    · exact j_to (j_X8_change_23 C _ _ _ _) ⟨rfl, ⟨rfl, ⟨rfl, ⟨rfl, trivial⟩⟩⟩⟩
    · refine j_iload_n C dX8_change_16 rfl (n := 17) rfl ?_
      refine j_cz C (run_S C mi_X8_isLooks lm_X8_102 st_X8_isLooks ⟨Nat.le_of_ble_eq_true rfl, Nat.le_of_ble_eq_true rfl⟩ (m_X8_isLooks _ _ _) rfl rfl rfl (Nat.le_of_ble_eq_true rfl) dX8_change_17) (n := 20) rfl (fun b3 => ?_)
      refine j_if_ne C dX8_change_20 (tgt := 50) (n := 23) (by decide) rfl (fun q4 => ?_) (fun q4 => ?_)
      · refine j_iconst C dX8_change_50 ic_1 (n := 51) rfl ?_
        refine j_goto C dX8_change_51 (n := 55) (by decide) ?_
        exact j_to (j_X8_change_55 C _ _ _ _ _ (Or.inr rfl)) ⟨rfl, ⟨rfl, ⟨rfl, ⟨rfl, trivial⟩⟩⟩⟩
      · exact j_to (j_X8_change_23 C _ _ _ _) ⟨rfl, ⟨rfl, ⟨rfl, ⟨rfl, trivial⟩⟩⟩⟩
  · refine j_iload_n C dX8_change_4 rfl (n := 5) rfl ?_
    refine j_cz C (run_S C mi_X8_isKind lm_X8_76 st_X8_isKind ⟨Nat.le_of_ble_eq_true rfl, Nat.le_of_ble_eq_true rfl⟩ (m_X8_isKind _ _ _) rfl rfl rfl (Nat.le_of_ble_eq_true rfl) dX8_change_5) (n := 8) rfl (fun b5 => ?_)
    refine j_if_ne C dX8_change_8 (tgt := 50) (n := 11) (by decide) rfl (fun q6 => ?_) (fun q6 => ?_)
    · refine j_iconst C dX8_change_50 ic_1 (n := 51) rfl ?_
      refine j_goto C dX8_change_51 (n := 55) (by decide) ?_
      exact j_to (j_X8_change_55 C _ _ _ _ _ (Or.inr rfl)) ⟨rfl, ⟨rfl, ⟨rfl, ⟨rfl, trivial⟩⟩⟩⟩
    · refine j_iload_n C dX8_change_11 rfl (n := 12) rfl ?_
      refine j_iconst C dX8_change_12 ic_1 (n := 13) rfl ?_
      refine j_icmp_ne C dX8_change_13 (tgt := 23) (n := 16) (by decide) rfl (fun q7 => ?_) (fun q7 => ?_)
      · exact j_to (j_X8_change_23 C _ _ _ _) ⟨rfl, ⟨rfl, ⟨rfl, ⟨rfl, trivial⟩⟩⟩⟩
      · refine j_iload_n C dX8_change_16 rfl (n := 17) rfl ?_
        refine j_cz C (run_S C mi_X8_isLooks lm_X8_102 st_X8_isLooks ⟨Nat.le_of_ble_eq_true rfl, Nat.le_of_ble_eq_true rfl⟩ (m_X8_isLooks _ _ _) rfl rfl rfl (Nat.le_of_ble_eq_true rfl) dX8_change_17) (n := 20) rfl (fun b8 => ?_)
        refine j_if_ne C dX8_change_20 (tgt := 50) (n := 23) (by decide) rfl (fun q9 => ?_) (fun q9 => ?_)
        · refine j_iconst C dX8_change_50 ic_1 (n := 51) rfl ?_
          refine j_goto C dX8_change_51 (n := 55) (by decide) ?_
          exact j_to (j_X8_change_55 C _ _ _ _ _ (Or.inr rfl)) ⟨rfl, ⟨rfl, ⟨rfl, ⟨rfl, trivial⟩⟩⟩⟩
        · exact j_to (j_X8_change_23 C _ _ _ _) ⟨rfl, ⟨rfl, ⟨rfl, ⟨rfl, trivial⟩⟩⟩⟩
-- X8_isFace
set_option maxRecDepth 20000 in
theorem m_X8_isFace (l : Launch) (x0 : Int32) (h : Hp) : CT l yX8_isFace cX8_isFace 1 (some .boolean) 1 cwM (fun g => [.int x0]) h (qZ cwM (X8_isFace x0) h) := by
  refine ct_of (QR := (fun r : Int32 => qZ cwM r h)) (by decide +kernel) (fun g => ⟨rfl, Nat.le_of_ble_eq_true rfl⟩) (X8_isFace_e x0) (fun x g hl C => ?_)
  unfold X8_isFace_o
  refine j_iload_n C dX8_isFace_0 rfl (n := 1) rfl ?_
  refine j_iconst C dX8_isFace_1 ic_0 (n := 2) rfl ?_
  refine j_iconst C dX8_isFace_2 ic_5 (n := 3) rfl ?_
  refine j_cz C (run_S C mi_X8_within lm_X8_68 st_X8_within ⟨Nat.le_of_ble_eq_true rfl, Nat.le_of_ble_eq_true rfl⟩ (m_X8_within _ _ _ _ _) rfl rfl rfl (Nat.le_of_ble_eq_true rfl) dX8_isFace_3) (n := 6) rfl (fun b1 => ?_)
  exact j_retZ C b1 dX8_isFace_6
-- X8_face
set_option maxRecDepth 20000 in
theorem j_X8_face_31 {x : Fx} {g : Gl} (C : Ok x g RX8 cX8_face 5 (some .int)) (x1 : Int32) (x2 : Int32) (x3 : Int32) (s0 : Int32) (h : Hp) (bs0 : s0 = 0 ∨ s0 = 1) : J x g cwM 5 2 (fun r : Int32 × Hp => qI cwM r.1 r.2) 31 [some (rf g 0), some (.int x1), some (.int x2), some (.int x3)] [.int s0] h (X8_face_31 x1 x2 x3 s0 h) := by
  unfold X8_face_31
  refine j_istore C dX8_face_31 (Nat.le_of_ble_eq_true rfl) (n := 33) rfl ?_
  refine j_iload_n C dX8_face_33 rfl (n := 34) rfl ?_
  refine j_cz C (run_S C mi_X8_isFace lm_X8_111 st_X8_isFace ⟨Nat.le_of_ble_eq_true rfl, Nat.le_of_ble_eq_true rfl⟩ (m_X8_isFace _ _ _) rfl rfl rfl (Nat.le_of_ble_eq_true rfl) dX8_face_34) (n := 37) rfl (fun b1 => ?_)
  refine j_if_eq C dX8_face_37 (tgt := 62) (n := 40) (by decide) rfl (fun q2 => ?_) (fun q2 => ?_)
  · refine j_aload_n C dX8_face_62 rfl (n := 63) rfl ?_
    refine j_ldc C dX8_face_63 kc_X8_63 (n := 65) rfl ?_
    refine j_bnd (fun r4 q3 => ?_)
    refine j_ci C (run_V C mi_X8_finding lm_X8_80 iv_X8_finding ⟨Nat.le_of_ble_eq_true rfl, Nat.le_of_ble_eq_true rfl⟩ (m_X8_finding _ _ _ q3) (cM_0 g _) rfl rfl rfl rfl (Nat.le_of_ble_eq_true rfl) dX8_face_65) (n := 68) rfl ?_
    exact j_retP C dX8_face_68
  · refine j_iload C dX8_face_40 rfl (n := 42) rfl ?_
    refine j_if_eq C dX8_face_42 (tgt := 62) (n := 45) (by decide) rfl (fun q6 => ?_) (fun q6 => ?_)
    · refine j_aload_n C dX8_face_62 rfl (n := 63) rfl ?_
      refine j_ldc C dX8_face_63 kc_X8_63 (n := 65) rfl ?_
      refine j_bnd (fun r8 q7 => ?_)
      refine j_ci C (run_V C mi_X8_finding lm_X8_80 iv_X8_finding ⟨Nat.le_of_ble_eq_true rfl, Nat.le_of_ble_eq_true rfl⟩ (m_X8_finding _ _ _ q7) (cM_0 g _) rfl rfl rfl rfl (Nat.le_of_ble_eq_true rfl) dX8_face_65) (n := 68) rfl ?_
      exact j_retP C dX8_face_68
    · refine j_aload_n C dX8_face_45 rfl (n := 46) rfl ?_
      refine j_bipush C dX8_face_46 bp_15 (n := 48) rfl ?_
      refine j_bipush C dX8_face_48 bp_6 (n := 50) rfl ?_
      refine j_iload_n C dX8_face_50 rfl (n := 51) rfl ?_
      refine j_imul C dX8_face_51 (n := 52) rfl ?_
      refine j_iadd C dX8_face_52 (n := 53) rfl ?_
      refine j_iload_n C dX8_face_53 rfl (n := 54) rfl ?_
      refine j_iadd C dX8_face_54 (n := 55) rfl ?_
      refine j_iload_n C dX8_face_55 rfl (n := 56) rfl ?_
      refine j_bnd (fun r11 q10 => ?_)
      refine j_ci C (run_V C mi_X8_become lm_X8_108 iv_X8_become ⟨Nat.le_of_ble_eq_true rfl, Nat.le_of_ble_eq_true rfl⟩ (m_X8_become _ _ _ _ q10) (cM_0 g _) rfl rfl rfl rfl (Nat.le_of_ble_eq_true rfl) dX8_face_56) (n := 59) rfl ?_
      refine j_goto C dX8_face_59 (n := 68) (by decide) ?_
      exact j_retP C dX8_face_68
set_option maxRecDepth 20000 in
theorem j_X8_face_11 {x : Fx} {g : Gl} (C : Ok x g RX8 cX8_face 5 (some .int)) (x1 : Int32) (x2 : Int32) (x3 : Int32) (h : Hp) : J x g cwM 5 2 (fun r : Int32 × Hp => qI cwM r.1 r.2) 11 [some (rf g 0), some (.int x1), some (.int x2), some (.int x3)] [] h (X8_face_11 x1 x2 x3 h) := by
  unfold X8_face_11
  refine j_iload_n C dX8_face_11 rfl (n := 12) rfl ?_
  refine j_iconst C dX8_face_12 ic_1 (n := 13) rfl ?_
  refine j_icmp_ne C dX8_face_13 (tgt := 30) (n := 16) (by decide) rfl (fun q1 => ?_) (fun q1 => ?_)
  · refine j_iconst C dX8_face_30 ic_0 (n := 31) rfl ?_
    exact j_to (j_X8_face_31 C _ _ _ _ _ (Or.inl rfl)) ⟨rfl, ⟨rfl, ⟨rfl, ⟨rfl, trivial⟩⟩⟩⟩
  · refine j_iload_n C dX8_face_16 rfl (n := 17) rfl ?_
    refine j_iconst C dX8_face_17 ic_0 (n := 18) rfl ?_
    refine j_bipush C dX8_face_18 bp_99 (n := 20) rfl ?_
    refine j_cz C (run_S C mi_X8_within lm_X8_68 st_X8_within ⟨Nat.le_of_ble_eq_true rfl, Nat.le_of_ble_eq_true rfl⟩ (m_X8_within _ _ _ _ _) rfl rfl rfl (Nat.le_of_ble_eq_true rfl) dX8_face_20) (n := 23) rfl (fun b2 => ?_)
    refine j_if_eq C dX8_face_23 (tgt := 30) (n := 26) (by decide) rfl (fun q3 => ?_) (fun q3 => ?_)
    · refine j_iconst C dX8_face_30 ic_0 (n := 31) rfl ?_
      exact j_to (j_X8_face_31 C _ _ _ _ _ (Or.inl rfl)) ⟨rfl, ⟨rfl, ⟨rfl, ⟨rfl, trivial⟩⟩⟩⟩
    · refine j_iconst C dX8_face_26 ic_1 (n := 27) rfl ?_
      refine j_goto C dX8_face_27 (n := 31) (by decide) ?_
      exact j_to (j_X8_face_31 C _ _ _ _ _ (Or.inr rfl)) ⟨rfl, ⟨rfl, ⟨rfl, ⟨rfl, trivial⟩⟩⟩⟩
set_option maxRecDepth 20000 in
theorem m_X8_face (l : Launch) (x1 : Int32) (x2 : Int32) (x3 : Int32) (h : Hp) {r : Int32 × Hp} (e : X8_face x1 x2 x3 h = some r) : CT l yX8_face cX8_face 5 (some .int) 2 cwM (fun g => [rf g 0, .int x1, .int x2, .int x3]) h (qI cwM r.1 r.2) := by
  refine ct_of (QR := (fun r : Int32 × Hp => qI cwM r.1 r.2)) (by decide +kernel) (fun g => ⟨rfl, Nat.le_of_ble_eq_true rfl⟩) e (fun x g hl C => ?_)
  unfold X8_face
  refine j_iload_n C dX8_face_0 rfl (n := 1) rfl ?_
  refine j_if_ne C dX8_face_1 (tgt := 11) (n := 4) (by decide) rfl (fun q1 => ?_) (fun q1 => ?_)
  · exact j_to (j_X8_face_11 C _ _ _ _) ⟨rfl, ⟨rfl, ⟨rfl, ⟨rfl, trivial⟩⟩⟩⟩
  · refine j_iload_n C dX8_face_4 rfl (n := 5) rfl ?_
    refine j_cz C (run_S C mi_X8_isLooks lm_X8_102 st_X8_isLooks ⟨Nat.le_of_ble_eq_true rfl, Nat.le_of_ble_eq_true rfl⟩ (m_X8_isLooks _ _ _) rfl rfl rfl (Nat.le_of_ble_eq_true rfl) dX8_face_5) (n := 8) rfl (fun b2 => ?_)
    refine j_if_ne C dX8_face_8 (tgt := 26) (n := 11) (by decide) rfl (fun q3 => ?_) (fun q3 => ?_)
    · refine j_iconst C dX8_face_26 ic_1 (n := 27) rfl ?_
      refine j_goto C dX8_face_27 (n := 31) (by decide) ?_
      exact j_to (j_X8_face_31 C _ _ _ _ _ (Or.inr rfl)) ⟨rfl, ⟨rfl, ⟨rfl, ⟨rfl, trivial⟩⟩⟩⟩
    · exact j_to (j_X8_face_11 C _ _ _ _) ⟨rfl, ⟨rfl, ⟨rfl, ⟨rfl, trivial⟩⟩⟩⟩
-- X8_isRoom
set_option maxRecDepth 20000 in
theorem m_X8_isRoom (l : Launch) (x0 : Int32) (h : Hp) : CT l yX8_isRoom cX8_isRoom 1 (some .boolean) 1 cwM (fun g => [.int x0]) h (qZ cwM (X8_isRoom x0) h) := by
  refine ct_of (QR := (fun r : Int32 => qZ cwM r h)) (by decide +kernel) (fun g => ⟨rfl, Nat.le_of_ble_eq_true rfl⟩) (X8_isRoom_e x0) (fun x g hl C => ?_)
  unfold X8_isRoom_o
  refine j_iload_n C dX8_isRoom_0 rfl (n := 1) rfl ?_
  refine j_iconst C dX8_isRoom_1 ic_0 (n := 2) rfl ?_
  refine j_iconst C dX8_isRoom_2 ic_5 (n := 3) rfl ?_
  refine j_cz C (run_S C mi_X8_within lm_X8_68 st_X8_within ⟨Nat.le_of_ble_eq_true rfl, Nat.le_of_ble_eq_true rfl⟩ (m_X8_within _ _ _ _ _) rfl rfl rfl (Nat.le_of_ble_eq_true rfl) dX8_isRoom_3) (n := 6) rfl (fun b1 => ?_)
  exact j_retZ C b1 dX8_isRoom_6
-- X8_show
set_option maxRecDepth 20000 in
theorem m_X8_show (l : Launch) (x1 : Int32) (x2 : Int32) (h : Hp) {r : Int32 × Hp} (e : X8_show x1 x2 h = some r) : CT l yX8_show cX8_show 3 (some .int) 2 cwM (fun g => [rf g 0, .int x1, .int x2]) h (qI cwM r.1 r.2) := by
  refine ct_of (QR := (fun r : Int32 × Hp => qI cwM r.1 r.2)) (by decide +kernel) (fun g => ⟨rfl, Nat.le_of_ble_eq_true rfl⟩) e (fun x g hl C => ?_)
  unfold X8_show
  refine j_iload_n C dX8_show_0 rfl (n := 1) rfl ?_
  refine j_cz C (run_S C mi_X8_isRoom lm_X8_114 st_X8_isRoom ⟨Nat.le_of_ble_eq_true rfl, Nat.le_of_ble_eq_true rfl⟩ (m_X8_isRoom _ _ _) rfl rfl rfl (Nat.le_of_ble_eq_true rfl) dX8_show_1) (n := 4) rfl (fun b1 => ?_)
  refine j_if_eq C dX8_show_4 (tgt := 28) (n := 7) (by decide) rfl (fun q2 => ?_) (fun q2 => ?_)
  · refine j_aload_n C dX8_show_28 rfl (n := 29) rfl ?_
    refine j_ldc C dX8_show_29 kc_X8_63 (n := 31) rfl ?_
    refine j_bnd (fun r4 q3 => ?_)
    refine j_ci C (run_V C mi_X8_finding lm_X8_80 iv_X8_finding ⟨Nat.le_of_ble_eq_true rfl, Nat.le_of_ble_eq_true rfl⟩ (m_X8_finding _ _ _ q3) (cM_0 g _) rfl rfl rfl rfl (Nat.le_of_ble_eq_true rfl) dX8_show_31) (n := 34) rfl ?_
    exact j_retP C dX8_show_34
  · refine j_iload_n C dX8_show_7 rfl (n := 8) rfl ?_
    refine j_iconst C dX8_show_8 ic_m1 (n := 9) rfl ?_
    refine j_iconst C dX8_show_9 ic_5 (n := 10) rfl ?_
    refine j_cz C (run_S C mi_X8_within lm_X8_68 st_X8_within ⟨Nat.le_of_ble_eq_true rfl, Nat.le_of_ble_eq_true rfl⟩ (m_X8_within _ _ _ _ _) rfl rfl rfl (Nat.le_of_ble_eq_true rfl) dX8_show_10) (n := 13) rfl (fun b6 => ?_)
    refine j_if_eq C dX8_show_13 (tgt := 28) (n := 16) (by decide) rfl (fun q7 => ?_) (fun q7 => ?_)
    · refine j_aload_n C dX8_show_28 rfl (n := 29) rfl ?_
      refine j_ldc C dX8_show_29 kc_X8_63 (n := 31) rfl ?_
      refine j_bnd (fun r9 q8 => ?_)
      refine j_ci C (run_V C mi_X8_finding lm_X8_80 iv_X8_finding ⟨Nat.le_of_ble_eq_true rfl, Nat.le_of_ble_eq_true rfl⟩ (m_X8_finding _ _ _ q8) (cM_0 g _) rfl rfl rfl rfl (Nat.le_of_ble_eq_true rfl) dX8_show_31) (n := 34) rfl ?_
      exact j_retP C dX8_show_34
    · refine j_aload_n C dX8_show_16 rfl (n := 17) rfl ?_
      refine j_bipush C dX8_show_17 bp_27 (n := 19) rfl ?_
      refine j_iload_n C dX8_show_19 rfl (n := 20) rfl ?_
      refine j_iadd C dX8_show_20 (n := 21) rfl ?_
      refine j_iload_n C dX8_show_21 rfl (n := 22) rfl ?_
      refine j_bnd (fun r12 q11 => ?_)
      refine j_ci C (run_V C mi_X8_become lm_X8_108 iv_X8_become ⟨Nat.le_of_ble_eq_true rfl, Nat.le_of_ble_eq_true rfl⟩ (m_X8_become _ _ _ _ q11) (cM_0 g _) rfl rfl rfl rfl (Nat.le_of_ble_eq_true rfl) dX8_show_22) (n := 25) rfl ?_
      refine j_goto C dX8_show_25 (n := 34) (by decide) ?_
      exact j_retP C dX8_show_34
-- X8_pace
set_option maxRecDepth 20000 in
theorem m_X8_pace (l : Launch) (x1 : Int32) (h : Hp) {r : Int32 × Hp} (e : X8_pace x1 h = some r) : CT l yX8_pace cX8_pace 2 (some .int) 1 cwM (fun g => [rf g 0, .int x1]) h (qI cwM r.1 r.2) := by
  refine ct_of (QR := (fun r : Int32 × Hp => qI cwM r.1 r.2)) (by decide +kernel) (fun g => ⟨rfl, Nat.le_of_ble_eq_true rfl⟩) e (fun x g hl C => ?_)
  unfold X8_pace
  refine j_iload_n C dX8_pace_0 rfl (n := 1) rfl ?_
  refine j_iconst C dX8_pace_1 ic_1 (n := 2) rfl ?_
  refine j_bipush C dX8_pace_2 bp_20 (n := 4) rfl ?_
  refine j_cz C (run_S C mi_X8_within lm_X8_68 st_X8_within ⟨Nat.le_of_ble_eq_true rfl, Nat.le_of_ble_eq_true rfl⟩ (m_X8_within _ _ _ _ _) rfl rfl rfl (Nat.le_of_ble_eq_true rfl) dX8_pace_4) (n := 7) rfl (fun b1 => ?_)
  refine j_if_eq C dX8_pace_7 (tgt := 19) (n := 10) (by decide) rfl (fun q2 => ?_) (fun q2 => ?_)
  · refine j_aload_n C dX8_pace_19 rfl (n := 20) rfl ?_
    refine j_ldc C dX8_pace_20 kc_X8_63 (n := 22) rfl ?_
    refine j_bnd (fun r4 q3 => ?_)
    refine j_ci C (run_V C mi_X8_finding lm_X8_80 iv_X8_finding ⟨Nat.le_of_ble_eq_true rfl, Nat.le_of_ble_eq_true rfl⟩ (m_X8_finding _ _ _ q3) (cM_0 g _) rfl rfl rfl rfl (Nat.le_of_ble_eq_true rfl) dX8_pace_22) (n := 25) rfl ?_
    exact j_retP C dX8_pace_25
  · refine j_aload_n C dX8_pace_10 rfl (n := 11) rfl ?_
    refine j_iconst C dX8_pace_11 ic_1 (n := 12) rfl ?_
    refine j_iload_n C dX8_pace_12 rfl (n := 13) rfl ?_
    refine j_bnd (fun r7 q6 => ?_)
    refine j_ci C (run_V C mi_X8_become lm_X8_108 iv_X8_become ⟨Nat.le_of_ble_eq_true rfl, Nat.le_of_ble_eq_true rfl⟩ (m_X8_become _ _ _ _ q6) (cM_0 g _) rfl rfl rfl rfl (Nat.le_of_ble_eq_true rfl) dX8_pace_13) (n := 16) rfl ?_
    refine j_goto C dX8_pace_16 (n := 25) (by decide) ?_
    exact j_retP C dX8_pace_25
-- X8_partsAt
set_option maxRecDepth 20000 in
theorem j_X8_partsAt_4 {x : Fx} {g : Gl} (C : Ok x g RX8 cX8_partsAt 4 (some .int)) (fu : Nat) (h : Hp) : ∀ (n : Nat) (x1 : Int32) (x2 : Int32) (x3 : Int32), J x g cwM 4 2 (fun r : Int32 => qI cwM r h) 4 [some (rf g 0), some (.int x1), some (.int x2), some (.int x3)] [] h (X8_partsAt_4 fu h n x1 x2 x3) := by
  intro n
  induction n with
  | zero =>
    intro x1 x2 x3
    rw [X8_partsAt_4]
    exact j_none
  | succ n ih =>
    intro x1 x2 x3
    rw [X8_partsAt_4]
    refine j_iload_n C dX8_partsAt_4 rfl (n := 5) rfl ?_
    refine j_aload_n C dX8_partsAt_5 rfl (n := 6) rfl ?_
    refine gf_X8_9 C 0 (cM_0 g _) rfl dX8_partsAt_6 (n := 9) rfl ?_
    refine j_iconst C dX8_partsAt_9 ic_2 (n := 10) rfl ?_
    refine j_ialdL C 1 (cM_1 g _) ir_2_117 dX8_partsAt_10 (n := 11) rfl ?_
    refine j_icmp_ge C dX8_partsAt_11 (tgt := 40) (n := 14) (by decide) rfl (fun q1 => ?_) (fun q1 => ?_)
    · refine j_iload_n C dX8_partsAt_40 rfl (n := 41) rfl ?_
      exact j_ret C dX8_partsAt_41
    · refine j_iload_n C dX8_partsAt_14 rfl (n := 15) rfl ?_
      refine j_aload_n C dX8_partsAt_15 rfl (n := 16) rfl ?_
      refine j_iload_n C dX8_partsAt_16 rfl (n := 17) rfl ?_
      refine j_iconst C dX8_partsAt_17 ic_3 (n := 18) rfl ?_
      refine j_bnd (fun r3 q2 => ?_)
      refine j_ci C (run_V C mi_X8_partIs lm_X8_92 iv_X8_partIs ⟨Nat.le_of_ble_eq_true rfl, Nat.le_of_ble_eq_true rfl⟩ (m_X8_partIs _ _ _ _ q2) (cM_0 g _) rfl rfl rfl rfl (Nat.le_of_ble_eq_true rfl) dX8_partsAt_18) (n := 21) rfl ?_
      refine j_iload_n C dX8_partsAt_21 rfl (n := 22) rfl ?_
      refine j_icmp_ne C dX8_partsAt_22 (tgt := 31) (n := 25) (by decide) rfl (fun q5 => ?_) (fun q5 => ?_)
      · refine j_iconst C dX8_partsAt_31 ic_0 (n := 32) rfl ?_
        refine j_ior C dX8_partsAt_32 (n := 33) rfl ?_
        refine j_istore_n C dX8_partsAt_33 (Nat.le_of_ble_eq_true rfl) (n := 34) rfl ?_
        refine j_iinc C dX8_partsAt_34 rfl ic_1 (Nat.le_of_ble_eq_true rfl) (n := 37) rfl ?_
        refine j_goto C dX8_partsAt_37 (n := 4) (by decide) ?_
        exact j_to (ih _ _ _) ⟨rfl, ⟨rfl, ⟨rfl, ⟨rfl, trivial⟩⟩⟩⟩
      · refine j_iconst C dX8_partsAt_25 ic_1 (n := 26) rfl ?_
        refine j_iload_n C dX8_partsAt_26 rfl (n := 27) rfl ?_
        refine j_ishl C dX8_partsAt_27 (n := 28) rfl ?_
        refine j_goto C dX8_partsAt_28 (n := 32) (by decide) ?_
        refine j_ior C dX8_partsAt_32 (n := 33) rfl ?_
        refine j_istore_n C dX8_partsAt_33 (Nat.le_of_ble_eq_true rfl) (n := 34) rfl ?_
        refine j_iinc C dX8_partsAt_34 rfl ic_1 (Nat.le_of_ble_eq_true rfl) (n := 37) rfl ?_
        refine j_goto C dX8_partsAt_37 (n := 4) (by decide) ?_
        exact j_to (ih _ _ _) ⟨rfl, ⟨rfl, ⟨rfl, ⟨rfl, trivial⟩⟩⟩⟩
set_option maxRecDepth 20000 in
theorem m_X8_partsAt (l : Launch) (fu : Nat) (x1 : Int32) (h : Hp) {r : Int32} (e : X8_partsAt fu x1 h = some r) : CT l yX8_partsAt cX8_partsAt 4 (some .int) 2 cwM (fun g => [rf g 0, .int x1]) h (qI cwM r h) := by
  refine ct_of (QR := (fun r : Int32 => qI cwM r h)) (by decide +kernel) (fun g => ⟨rfl, Nat.le_of_ble_eq_true rfl⟩) e (fun x g hl C => ?_)
  unfold X8_partsAt
  refine j_iconst C dX8_partsAt_0 ic_0 (n := 1) rfl ?_
  refine j_istore_n C dX8_partsAt_1 (Nat.le_of_ble_eq_true rfl) (n := 2) rfl ?_
  refine j_iconst C dX8_partsAt_2 ic_0 (n := 3) rfl ?_
  refine j_istore_n C dX8_partsAt_3 (Nat.le_of_ble_eq_true rfl) (n := 4) rfl ?_
  exact j_to (j_X8_partsAt_4 C _ _ _ _ _ _) ⟨rfl, ⟨rfl, ⟨rfl, ⟨rfl, trivial⟩⟩⟩⟩
-- X8_bits
set_option maxRecDepth 20000 in
theorem j_X8_bits_4 {x : Fx} {g : Gl} (C : Ok x g RX8 cX8_bits 3 (some .int)) (fu : Nat) (h : Hp) : ∀ (n : Nat) (x1 : Int32) (x2 : Int32), J x g cwM 3 0 (fun r : Int32 => qI cwM r h) 4 [none, some (.int x1), some (.int x2)] [] h (X8_bits_4 fu n x1 x2) := by
  intro n
  induction n with
  | zero =>
    intro x1 x2
    rw [X8_bits_4]
    exact j_none
  | succ n ih =>
    intro x1 x2
    rw [X8_bits_4]
    refine j_iload_n C dX8_bits_4 rfl (n := 5) rfl ?_
    refine j_if_eq C dX8_bits_5 (tgt := 20) (n := 8) (by decide) rfl (fun q1 => ?_) (fun q1 => ?_)
    · refine j_iload_n C dX8_bits_20 rfl (n := 21) rfl ?_
      exact j_ret C dX8_bits_21
    · refine j_iinc C dX8_bits_8 rfl ic_1 (Nat.le_of_ble_eq_true rfl) (n := 11) rfl ?_
      refine j_iload_n C dX8_bits_11 rfl (n := 12) rfl ?_
      refine j_iload_n C dX8_bits_12 rfl (n := 13) rfl ?_
      refine j_iconst C dX8_bits_13 ic_1 (n := 14) rfl ?_
      refine j_isub C dX8_bits_14 (n := 15) rfl ?_
      refine j_iand C dX8_bits_15 (n := 16) rfl ?_
      refine j_istore_n C dX8_bits_16 (Nat.le_of_ble_eq_true rfl) (n := 17) rfl ?_
      refine j_goto C dX8_bits_17 (n := 4) (by decide) ?_
      exact j_to (ih _ _) ⟨rfl, ⟨rfl, trivial⟩⟩
set_option maxRecDepth 20000 in
theorem m_X8_bits (l : Launch) (fu : Nat) (x0 : Int32) (h : Hp) {r : Int32} (e : X8_bits fu x0 = some r) : CT l yX8_bits cX8_bits 3 (some .int) 0 cwM (fun g => [.int x0]) h (qI cwM r h) := by
  refine ct_of (QR := (fun r : Int32 => qI cwM r h)) (by decide +kernel) (fun g => ⟨rfl, Nat.le_of_ble_eq_true rfl⟩) e (fun x g hl C => ?_)
  unfold X8_bits
  refine j_iconst C dX8_bits_0 ic_0 (n := 1) rfl ?_
  refine j_istore_n C dX8_bits_1 (Nat.le_of_ble_eq_true rfl) (n := 2) rfl ?_
  refine j_iload_n C dX8_bits_2 rfl (n := 3) rfl ?_
  refine j_istore_n C dX8_bits_3 (Nat.le_of_ble_eq_true rfl) (n := 4) rfl ?_
  exact j_to (j_X8_bits_4 C _ _ _ _ _) ⟨rfl, ⟨rfl, trivial⟩⟩
-- X8_has
set_option maxRecDepth 20000 in
theorem m_X8_has (l : Launch) (x0 : Int32) (x1 : Int32) (h : Hp) : CT l yX8_has cX8_has 2 (some .boolean) 0 cwM (fun g => [.int x0, .int x1]) h (qZ cwM (X8_has x0 x1) h) := by
  refine ct_of (QR := (fun r : Int32 => qZ cwM r h)) (by decide +kernel) (fun g => ⟨rfl, Nat.le_of_ble_eq_true rfl⟩) (X8_has_e x0 x1) (fun x g hl C => ?_)
  unfold X8_has_o
  refine j_iload_n C dX8_has_0 rfl (n := 1) rfl ?_
  refine j_iload_n C dX8_has_1 rfl (n := 2) rfl ?_
  refine j_ishr C dX8_has_2 (n := 3) rfl ?_
  refine j_iconst C dX8_has_3 ic_1 (n := 4) rfl ?_
  refine j_iand C dX8_has_4 (n := 5) rfl ?_
  refine j_iconst C dX8_has_5 ic_1 (n := 6) rfl ?_
  refine j_icmp_ne C dX8_has_6 (tgt := 13) (n := 9) (by decide) rfl (fun q1 => ?_) (fun q1 => ?_)
  · refine j_iconst C dX8_has_13 ic_0 (n := 14) rfl ?_
    exact j_retZ C (Or.inl rfl) dX8_has_14
  · refine j_iconst C dX8_has_9 ic_1 (n := 10) rfl ?_
    refine j_goto C dX8_has_10 (n := 14) (by decide) ?_
    exact j_retZ C (Or.inr rfl) dX8_has_14
-- X8_likeBy
set_option maxRecDepth 20000 in
theorem m_X8_likeBy (l : Launch) (fu : Nat) (x0 : Int32) (x1 : Int32) (x2 : Int32) (h : Hp) {r : Int32} (e : X8_likeBy fu x0 x1 x2 = some r) : CT l yX8_likeBy cX8_likeBy 4 (some .int) 1 cwM (fun g => [.int x0, .int x1, .int x2]) h (qI cwM r h) := by
  refine ct_of (QR := (fun r : Int32 => qI cwM r h)) (by decide +kernel) (fun g => ⟨rfl, Nat.le_of_ble_eq_true rfl⟩) e (fun x g hl C => ?_)
  unfold X8_likeBy
  refine j_bipush C dX8_likeBy_0 bp_8 (n := 2) rfl ?_
  refine j_iload_n C dX8_likeBy_2 rfl (n := 3) rfl ?_
  refine j_iload_n C dX8_likeBy_3 rfl (n := 4) rfl ?_
  refine j_ixor C dX8_likeBy_4 (n := 5) rfl ?_
  refine j_bnd (fun r2 q1 => ?_)
  refine j_ci C (run_S C mi_X8_bits lm_X8_117 st_X8_bits ⟨Nat.le_of_ble_eq_true rfl, Nat.le_of_ble_eq_true rfl⟩ (m_X8_bits _ _ _ _ q1) rfl rfl rfl (Nat.le_of_ble_eq_true rfl) dX8_likeBy_5) (n := 8) rfl ?_
  refine j_isub C dX8_likeBy_8 (n := 9) rfl ?_
  refine j_istore_n C dX8_likeBy_9 (Nat.le_of_ble_eq_true rfl) (n := 10) rfl ?_
  refine j_iload_n C dX8_likeBy_10 rfl (n := 11) rfl ?_
  refine j_split (fun q4 => ?_) (fun q4 => ?_)
  · refine j_tabIn C dX8_likeBy_11 q4 (off := 37) (by decide) (n := 48) (by decide) ?_
    refine j_iconst C dX8_likeBy_48 ic_2 (n := 49) rfl ?_
    refine j_iload_n C dX8_likeBy_49 rfl (n := 50) rfl ?_
    refine j_imul C dX8_likeBy_50 (n := 51) rfl ?_
    exact j_ret C dX8_likeBy_51
  · refine j_split (fun q5 => ?_) (fun q5 => ?_)
    · refine j_tabIn C dX8_likeBy_11 q5 (off := 41) (by decide) (n := 52) (by decide) ?_
      refine j_iconst C dX8_likeBy_52 ic_2 (n := 53) rfl ?_
      refine j_iload_n C dX8_likeBy_53 rfl (n := 54) rfl ?_
      refine j_imul C dX8_likeBy_54 (n := 55) rfl ?_
      refine j_iconst C dX8_likeBy_55 ic_2 (n := 56) rfl ?_
      refine j_iadd C dX8_likeBy_56 (n := 57) rfl ?_
      exact j_ret C dX8_likeBy_57
    · refine j_split (fun q6 => ?_) (fun q6 => ?_)
      · refine j_tabIn C dX8_likeBy_11 q6 (off := 47) (by decide) (n := 58) (by decide) ?_
        refine j_iconst C dX8_likeBy_58 ic_0 (n := 59) rfl ?_
        refine j_iconst C dX8_likeBy_59 ic_2 (n := 60) rfl ?_
        refine j_iload_n C dX8_likeBy_60 rfl (n := 61) rfl ?_
        refine j_imul C dX8_likeBy_61 (n := 62) rfl ?_
        refine j_iconst C dX8_likeBy_62 ic_2 (n := 63) rfl ?_
        refine j_iadd C dX8_likeBy_63 (n := 64) rfl ?_
        refine j_iload_n C dX8_likeBy_64 rfl (n := 65) rfl ?_
        refine j_bipush C dX8_likeBy_65 bp_7 (n := 67) rfl ?_
        refine j_cz C (run_S C mi_X8_has lm_X8_120 st_X8_has ⟨Nat.le_of_ble_eq_true rfl, Nat.le_of_ble_eq_true rfl⟩ (m_X8_has _ _ _ _) rfl rfl rfl (Nat.le_of_ble_eq_true rfl) dX8_likeBy_67) (n := 70) rfl (fun b7 => ?_)
        refine j_if_eq C dX8_likeBy_70 (tgt := 77) (n := 73) (by decide) rfl (fun q8 => ?_) (fun q8 => ?_)
        · refine j_bipush C dX8_likeBy_77 bp_m5 (n := 79) rfl ?_
          refine j_iadd C dX8_likeBy_79 (n := 80) rfl ?_
          refine j_mmax C lm_X8_123 (Nat.le_of_ble_eq_true rfl) (Nat.le_of_ble_eq_true rfl) dX8_likeBy_80 (n := 83) rfl ?_
          exact j_ret C dX8_likeBy_83
        · refine j_iconst C dX8_likeBy_73 ic_5 (n := 74) rfl ?_
          refine j_goto C dX8_likeBy_74 (n := 79) (by decide) ?_
          refine j_iadd C dX8_likeBy_79 (n := 80) rfl ?_
          refine j_mmax C lm_X8_123 (Nat.le_of_ble_eq_true rfl) (Nat.le_of_ble_eq_true rfl) dX8_likeBy_80 (n := 83) rfl ?_
          exact j_ret C dX8_likeBy_83
      · refine j_split (fun q9 => ?_) (fun q9 => ?_)
        · refine j_tabIn C dX8_likeBy_11 q9 (off := 73) (by decide) (n := 84) (by decide) ?_
          refine j_iload_n C dX8_likeBy_84 rfl (n := 85) rfl ?_
          refine j_iconst C dX8_likeBy_85 ic_3 (n := 86) rfl ?_
          refine j_iadd C dX8_likeBy_86 (n := 87) rfl ?_
          exact j_ret C dX8_likeBy_87
        · refine j_split (fun q10 => ?_) (fun q10 => ?_)
          · refine j_tabIn C dX8_likeBy_11 q10 (off := 77) (by decide) (n := 88) (by decide) ?_
            refine j_iload_n C dX8_likeBy_88 rfl (n := 89) rfl ?_
            refine j_iconst C dX8_likeBy_89 ic_2 (n := 90) rfl ?_
            refine j_idivL C dX8_likeBy_90 (by decide) (n := 91) rfl ?_
            exact j_ret C dX8_likeBy_91
          · refine j_split (fun q11 => ?_) (fun q11 => ?_)
            · refine j_tabIn C dX8_likeBy_11 q11 (off := 81) (by decide) (n := 92) (by decide) ?_
              refine j_iconst C dX8_likeBy_92 ic_3 (n := 93) rfl ?_
              refine j_iload_n C dX8_likeBy_93 rfl (n := 94) rfl ?_
              refine j_iconst C dX8_likeBy_94 ic_2 (n := 95) rfl ?_
              refine j_idivL C dX8_likeBy_95 (by decide) (n := 96) rfl ?_
              refine j_mmax C lm_X8_123 (Nat.le_of_ble_eq_true rfl) (Nat.le_of_ble_eq_true rfl) dX8_likeBy_96 (n := 99) rfl ?_
              exact j_ret C dX8_likeBy_99
            · refine j_tabOut C dX8_likeBy_11 (tabout_1_6 q4 q5 q6 q9 q10 q11) (n := 100) (by decide) ?_
              refine j_iload_n C dX8_likeBy_100 rfl (n := 101) rfl ?_
              exact j_ret C dX8_likeBy_101
-- X8_likeTo
set_option maxRecDepth 20000 in
theorem m_X8_likeTo (l : Launch) (fu : Nat) (x1 : Int32) (x2 : Int32) (h : Hp) {r : Int32} (e : X8_likeTo fu x1 x2 h = some r) : CT l yX8_likeTo cX8_likeTo 3 (some .int) 2 cwM (fun g => [rf g 0, .int x1, .int x2]) h (qI cwM r h) := by
  refine ct_of (QR := (fun r : Int32 => qI cwM r h)) (by decide +kernel) (fun g => ⟨rfl, Nat.le_of_ble_eq_true rfl⟩) e (fun x g hl C => ?_)
  unfold X8_likeTo
  refine j_aload_n C dX8_likeTo_0 rfl (n := 1) rfl ?_
  refine j_iload_n C dX8_likeTo_1 rfl (n := 2) rfl ?_
  refine j_iconst C dX8_likeTo_2 ic_0 (n := 3) rfl ?_
  refine j_bnd (fun r2 q1 => ?_)
  refine j_ci C (run_V C mi_X8_partIs lm_X8_92 iv_X8_partIs ⟨Nat.le_of_ble_eq_true rfl, Nat.le_of_ble_eq_true rfl⟩ (m_X8_partIs _ _ _ _ q1) (cM_0 g _) rfl rfl rfl rfl (Nat.le_of_ble_eq_true rfl) dX8_likeTo_3) (n := 6) rfl ?_
  refine j_aload_n C dX8_likeTo_6 rfl (n := 7) rfl ?_
  refine j_iload_n C dX8_likeTo_7 rfl (n := 8) rfl ?_
  refine j_iconst C dX8_likeTo_8 ic_1 (n := 9) rfl ?_
  refine j_bnd (fun r5 q4 => ?_)
  refine j_ci C (run_V C mi_X8_partIs lm_X8_92 iv_X8_partIs ⟨Nat.le_of_ble_eq_true rfl, Nat.le_of_ble_eq_true rfl⟩ (m_X8_partIs _ _ _ _ q4) (cM_0 g _) rfl rfl rfl rfl (Nat.le_of_ble_eq_true rfl) dX8_likeTo_9) (n := 12) rfl ?_
  refine j_aload_n C dX8_likeTo_12 rfl (n := 13) rfl ?_
  refine gf_X8_9 C 0 (cM_0 g _) rfl dX8_likeTo_13 (n := 16) rfl ?_
  refine j_bipush C dX8_likeTo_16 bp_15 (n := 18) rfl ?_
  refine j_iload_n C dX8_likeTo_18 rfl (n := 19) rfl ?_
  refine j_iadd C dX8_likeTo_19 (n := 20) rfl ?_
  refine j_iald C 1 (cM_1 g _) dX8_likeTo_20 (n := 21) rfl ?_
  refine j_bnd (fun r8 q7 => ?_)
  refine j_ci C (run_S C mi_X8_likeBy lm_X8_128 st_X8_likeBy ⟨Nat.le_of_ble_eq_true rfl, Nat.le_of_ble_eq_true rfl⟩ (m_X8_likeBy _ _ _ _ _ _ q7) rfl rfl rfl (Nat.le_of_ble_eq_true rfl) dX8_likeTo_21) (n := 24) rfl ?_
  exact j_ret C dX8_likeTo_24
-- X8_likeness
set_option maxRecDepth 20000 in
theorem j_X8_likeness_4 {x : Fx} {g : Gl} (C : Ok x g RX8 cX8_likeness 4 (some .int)) (fu : Nat) (h : Hp) : ∀ (n : Nat) (x1 : Int32) (x2 : Int32) (x3 : Int32), J x g cwM 4 3 (fun r : Int32 => qI cwM r h) 4 [some (rf g 0), some (.int x1), some (.int x2), some (.int x3)] [] h (X8_likeness_4 fu h n x1 x2 x3) := by
  intro n
  induction n with
  | zero =>
    intro x1 x2 x3
    rw [X8_likeness_4]
    exact j_none
  | succ n ih =>
    intro x1 x2 x3
    rw [X8_likeness_4]
    refine j_iload_n C dX8_likeness_4 rfl (n := 5) rfl ?_
    refine j_aload_n C dX8_likeness_5 rfl (n := 6) rfl ?_
    refine gf_X8_9 C 0 (cM_0 g _) rfl dX8_likeness_6 (n := 9) rfl ?_
    refine j_iconst C dX8_likeness_9 ic_2 (n := 10) rfl ?_
    refine j_ialdL C 1 (cM_1 g _) ir_2_117 dX8_likeness_10 (n := 11) rfl ?_
    refine j_icmp_ge C dX8_likeness_11 (tgt := 63) (n := 14) (by decide) rfl (fun q1 => ?_) (fun q1 => ?_)
    · refine j_iload_n C dX8_likeness_63 rfl (n := 64) rfl ?_
      exact j_ret C dX8_likeness_64
    · refine j_iload_n C dX8_likeness_14 rfl (n := 15) rfl ?_
      refine j_aload_n C dX8_likeness_15 rfl (n := 16) rfl ?_
      refine gf_X8_9 C 0 (cM_0 g _) rfl dX8_likeness_16 (n := 19) rfl ?_
      refine j_bipush C dX8_likeness_19 bp_27 (n := 21) rfl ?_
      refine j_iload_n C dX8_likeness_21 rfl (n := 22) rfl ?_
      refine j_iadd C dX8_likeness_22 (n := 23) rfl ?_
      refine j_iald C 1 (cM_1 g _) dX8_likeness_23 (n := 24) rfl ?_
      refine j_if_lt C dX8_likeness_24 (tgt := 54) (n := 27) (by decide) rfl (fun q2 => ?_) (fun q2 => ?_)
      · refine j_iconst C dX8_likeness_54 ic_0 (n := 55) rfl ?_
        refine j_iadd C dX8_likeness_55 (n := 56) rfl ?_
        refine j_istore_n C dX8_likeness_56 (Nat.le_of_ble_eq_true rfl) (n := 57) rfl ?_
        refine j_iinc C dX8_likeness_57 rfl ic_1 (Nat.le_of_ble_eq_true rfl) (n := 60) rfl ?_
        refine j_goto C dX8_likeness_60 (n := 4) (by decide) ?_
        exact j_to (ih _ _ _) ⟨rfl, ⟨rfl, ⟨rfl, ⟨rfl, trivial⟩⟩⟩⟩
      · refine j_aload_n C dX8_likeness_27 rfl (n := 28) rfl ?_
        refine j_iload_n C dX8_likeness_28 rfl (n := 29) rfl ?_
        refine j_iconst C dX8_likeness_29 ic_3 (n := 30) rfl ?_
        refine j_bnd (fun r4 q3 => ?_)
        refine j_ci C (run_V C mi_X8_partIs lm_X8_92 iv_X8_partIs ⟨Nat.le_of_ble_eq_true rfl, Nat.le_of_ble_eq_true rfl⟩ (m_X8_partIs _ _ _ _ q3) (cM_0 g _) rfl rfl rfl rfl (Nat.le_of_ble_eq_true rfl) dX8_likeness_30) (n := 33) rfl ?_
        refine j_iload_n C dX8_likeness_33 rfl (n := 34) rfl ?_
        refine j_icmp_ne C dX8_likeness_34 (tgt := 54) (n := 37) (by decide) rfl (fun q6 => ?_) (fun q6 => ?_)
        · refine j_iconst C dX8_likeness_54 ic_0 (n := 55) rfl ?_
          refine j_iadd C dX8_likeness_55 (n := 56) rfl ?_
          refine j_istore_n C dX8_likeness_56 (Nat.le_of_ble_eq_true rfl) (n := 57) rfl ?_
          refine j_iinc C dX8_likeness_57 rfl ic_1 (Nat.le_of_ble_eq_true rfl) (n := 60) rfl ?_
          refine j_goto C dX8_likeness_60 (n := 4) (by decide) ?_
          exact j_to (ih _ _ _) ⟨rfl, ⟨rfl, ⟨rfl, ⟨rfl, trivial⟩⟩⟩⟩
        · refine j_aload_n C dX8_likeness_37 rfl (n := 38) rfl ?_
          refine j_iload_n C dX8_likeness_38 rfl (n := 39) rfl ?_
          refine j_aload_n C dX8_likeness_39 rfl (n := 40) rfl ?_
          refine gf_X8_9 C 0 (cM_0 g _) rfl dX8_likeness_40 (n := 43) rfl ?_
          refine j_bipush C dX8_likeness_43 bp_27 (n := 45) rfl ?_
          refine j_iload_n C dX8_likeness_45 rfl (n := 46) rfl ?_
          refine j_iadd C dX8_likeness_46 (n := 47) rfl ?_
          refine j_iald C 1 (cM_1 g _) dX8_likeness_47 (n := 48) rfl ?_
          refine j_bnd (fun r8 q7 => ?_)
          refine j_ci C (run_V C mi_X8_likeTo lm_X8_132 iv_X8_likeTo ⟨Nat.le_of_ble_eq_true rfl, Nat.le_of_ble_eq_true rfl⟩ (m_X8_likeTo _ _ _ _ _ q7) (cM_0 g _) rfl rfl rfl rfl (Nat.le_of_ble_eq_true rfl) dX8_likeness_48) (n := 51) rfl ?_
          refine j_goto C dX8_likeness_51 (n := 55) (by decide) ?_
          refine j_iadd C dX8_likeness_55 (n := 56) rfl ?_
          refine j_istore_n C dX8_likeness_56 (Nat.le_of_ble_eq_true rfl) (n := 57) rfl ?_
          refine j_iinc C dX8_likeness_57 rfl ic_1 (Nat.le_of_ble_eq_true rfl) (n := 60) rfl ?_
          refine j_goto C dX8_likeness_60 (n := 4) (by decide) ?_
          exact j_to (ih _ _ _) ⟨rfl, ⟨rfl, ⟨rfl, ⟨rfl, trivial⟩⟩⟩⟩
set_option maxRecDepth 20000 in
theorem m_X8_likeness (l : Launch) (fu : Nat) (x1 : Int32) (h : Hp) {r : Int32} (e : X8_likeness fu x1 h = some r) : CT l yX8_likeness cX8_likeness 4 (some .int) 3 cwM (fun g => [rf g 0, .int x1]) h (qI cwM r h) := by
  refine ct_of (QR := (fun r : Int32 => qI cwM r h)) (by decide +kernel) (fun g => ⟨rfl, Nat.le_of_ble_eq_true rfl⟩) e (fun x g hl C => ?_)
  unfold X8_likeness
  refine j_iconst C dX8_likeness_0 ic_0 (n := 1) rfl ?_
  refine j_istore_n C dX8_likeness_1 (Nat.le_of_ble_eq_true rfl) (n := 2) rfl ?_
  refine j_iconst C dX8_likeness_2 ic_0 (n := 3) rfl ?_
  refine j_istore_n C dX8_likeness_3 (Nat.le_of_ble_eq_true rfl) (n := 4) rfl ?_
  exact j_to (j_X8_likeness_4 C _ _ _ _ _ _) ⟨rfl, ⟨rfl, ⟨rfl, ⟨rfl, trivial⟩⟩⟩⟩
-- X8_roomOf
set_option maxRecDepth 20000 in
theorem m_X8_roomOf (l : Launch) (x1 : Int32) (h : Hp) {r : Int32} (e : X8_roomOf x1 h = some r) : CT l yX8_roomOf cX8_roomOf 3 (some .int) 0 cwM (fun g => [rf g 0, .int x1]) h (qI cwM r h) := by
  refine ct_of (QR := (fun r : Int32 => qI cwM r h)) (by decide +kernel) (fun g => ⟨rfl, Nat.le_of_ble_eq_true rfl⟩) e (fun x g hl C => ?_)
  unfold X8_roomOf
  refine j_aload_n C dX8_roomOf_0 rfl (n := 1) rfl ?_
  refine gf_X8_9 C 0 (cM_0 g _) rfl dX8_roomOf_1 (n := 4) rfl ?_
  refine j_iconst C dX8_roomOf_4 ic_0 (n := 5) rfl ?_
  refine j_ialdL C 1 (cM_1 g _) ir_0_117 dX8_roomOf_5 (n := 6) rfl ?_
  refine j_aload_n C dX8_roomOf_6 rfl (n := 7) rfl ?_
  refine gf_X8_9 C 0 (cM_0 g _) rfl dX8_roomOf_7 (n := 10) rfl ?_
  refine j_bipush C dX8_roomOf_10 bp_73 (n := 12) rfl ?_
  refine j_iload_n C dX8_roomOf_12 rfl (n := 13) rfl ?_
  refine j_iadd C dX8_roomOf_13 (n := 14) rfl ?_
  refine j_iald C 1 (cM_1 g _) dX8_roomOf_14 (n := 15) rfl ?_
  refine j_isub C dX8_roomOf_15 (n := 16) rfl ?_
  refine j_aload_n C dX8_roomOf_16 rfl (n := 17) rfl ?_
  refine gf_X8_9 C 0 (cM_0 g _) rfl dX8_roomOf_17 (n := 20) rfl ?_
  refine j_iconst C dX8_roomOf_20 ic_1 (n := 21) rfl ?_
  refine j_ialdL C 1 (cM_1 g _) ir_1_117 dX8_roomOf_21 (n := 22) rfl ?_
  refine j_idiv C dX8_roomOf_22 (n := 23) rfl ?_
  refine j_istore_n C dX8_roomOf_23 (Nat.le_of_ble_eq_true rfl) (n := 24) rfl ?_
  refine j_iload_n C dX8_roomOf_24 rfl (n := 25) rfl ?_
  refine j_bipush C dX8_roomOf_25 bp_6 (n := 27) rfl ?_
  refine j_icmp_ge C dX8_roomOf_27 (tgt := 34) (n := 30) (by decide) rfl (fun q1 => ?_) (fun q1 => ?_)
  · refine j_iconst C dX8_roomOf_34 ic_m1 (n := 35) rfl ?_
    exact j_ret C dX8_roomOf_35
  · refine j_iload_n C dX8_roomOf_30 rfl (n := 31) rfl ?_
    refine j_goto C dX8_roomOf_31 (n := 35) (by decide) ?_
    exact j_ret C dX8_roomOf_35
-- X8_visitorsIn
set_option maxRecDepth 20000 in
theorem j_X8_visitorsIn_4 {x : Fx} {g : Gl} (C : Ok x g RX8 cX8_visitorsIn 4 (some .int)) (fu : Nat) (h : Hp) : ∀ (n : Nat) (x1 : Int32) (x2 : Int32) (x3 : Int32), J x g cwM 4 1 (fun r : Int32 => qI cwM r h) 4 [some (rf g 0), some (.int x1), some (.int x2), some (.int x3)] [] h (X8_visitorsIn_4 fu h n x1 x2 x3) := by
  intro n
  induction n with
  | zero =>
    intro x1 x2 x3
    rw [X8_visitorsIn_4]
    exact j_none
  | succ n ih =>
    intro x1 x2 x3
    rw [X8_visitorsIn_4]
    refine j_iload_n C dX8_visitorsIn_4 rfl (n := 5) rfl ?_
    refine j_aload_n C dX8_visitorsIn_5 rfl (n := 6) rfl ?_
    refine gf_X8_9 C 0 (cM_0 g _) rfl dX8_visitorsIn_6 (n := 9) rfl ?_
    refine j_iconst C dX8_visitorsIn_9 ic_3 (n := 10) rfl ?_
    refine j_ialdL C 1 (cM_1 g _) ir_3_117 dX8_visitorsIn_10 (n := 11) rfl ?_
    refine j_icmp_ge C dX8_visitorsIn_11 (tgt := 39) (n := 14) (by decide) rfl (fun q1 => ?_) (fun q1 => ?_)
    · refine j_iload_n C dX8_visitorsIn_39 rfl (n := 40) rfl ?_
      exact j_ret C dX8_visitorsIn_40
    · refine j_iload_n C dX8_visitorsIn_14 rfl (n := 15) rfl ?_
      refine j_aload_n C dX8_visitorsIn_15 rfl (n := 16) rfl ?_
      refine j_iload_n C dX8_visitorsIn_16 rfl (n := 17) rfl ?_
      refine j_bnd (fun r3 q2 => ?_)
      refine j_ci C (run_V C mi_X8_roomOf lm_X8_135 iv_X8_roomOf ⟨Nat.le_of_ble_eq_true rfl, Nat.le_of_ble_eq_true rfl⟩ (m_X8_roomOf _ _ _ q2) (cM_0 g _) rfl rfl rfl rfl (Nat.le_of_ble_eq_true rfl) dX8_visitorsIn_17) (n := 20) rfl ?_
      refine j_iload_n C dX8_visitorsIn_20 rfl (n := 21) rfl ?_
      refine j_icmp_ne C dX8_visitorsIn_21 (tgt := 30) (n := 24) (by decide) rfl (fun q5 => ?_) (fun q5 => ?_)
      · refine j_iconst C dX8_visitorsIn_30 ic_0 (n := 31) rfl ?_
        refine j_ior C dX8_visitorsIn_31 (n := 32) rfl ?_
        refine j_istore_n C dX8_visitorsIn_32 (Nat.le_of_ble_eq_true rfl) (n := 33) rfl ?_
        refine j_iinc C dX8_visitorsIn_33 rfl ic_1 (Nat.le_of_ble_eq_true rfl) (n := 36) rfl ?_
        refine j_goto C dX8_visitorsIn_36 (n := 4) (by decide) ?_
        exact j_to (ih _ _ _) ⟨rfl, ⟨rfl, ⟨rfl, ⟨rfl, trivial⟩⟩⟩⟩
      · refine j_iconst C dX8_visitorsIn_24 ic_1 (n := 25) rfl ?_
        refine j_iload_n C dX8_visitorsIn_25 rfl (n := 26) rfl ?_
        refine j_ishl C dX8_visitorsIn_26 (n := 27) rfl ?_
        refine j_goto C dX8_visitorsIn_27 (n := 31) (by decide) ?_
        refine j_ior C dX8_visitorsIn_31 (n := 32) rfl ?_
        refine j_istore_n C dX8_visitorsIn_32 (Nat.le_of_ble_eq_true rfl) (n := 33) rfl ?_
        refine j_iinc C dX8_visitorsIn_33 rfl ic_1 (Nat.le_of_ble_eq_true rfl) (n := 36) rfl ?_
        refine j_goto C dX8_visitorsIn_36 (n := 4) (by decide) ?_
        exact j_to (ih _ _ _) ⟨rfl, ⟨rfl, ⟨rfl, ⟨rfl, trivial⟩⟩⟩⟩
set_option maxRecDepth 20000 in
theorem m_X8_visitorsIn (l : Launch) (fu : Nat) (x1 : Int32) (h : Hp) {r : Int32} (e : X8_visitorsIn fu x1 h = some r) : CT l yX8_visitorsIn cX8_visitorsIn 4 (some .int) 1 cwM (fun g => [rf g 0, .int x1]) h (qI cwM r h) := by
  refine ct_of (QR := (fun r : Int32 => qI cwM r h)) (by decide +kernel) (fun g => ⟨rfl, Nat.le_of_ble_eq_true rfl⟩) e (fun x g hl C => ?_)
  unfold X8_visitorsIn
  refine j_iconst C dX8_visitorsIn_0 ic_0 (n := 1) rfl ?_
  refine j_istore_n C dX8_visitorsIn_1 (Nat.le_of_ble_eq_true rfl) (n := 2) rfl ?_
  refine j_iconst C dX8_visitorsIn_2 ic_0 (n := 3) rfl ?_
  refine j_istore_n C dX8_visitorsIn_3 (Nat.le_of_ble_eq_true rfl) (n := 4) rfl ?_
  exact j_to (j_X8_visitorsIn_4 C _ _ _ _ _ _) ⟨rfl, ⟨rfl, ⟨rfl, ⟨rfl, trivial⟩⟩⟩⟩
-- X8_room
set_option maxRecDepth 20000 in
theorem m_X8_room (l : Launch) (fu : Nat) (x1 : Int32) (x2 : Int32) (h : Hp) {r : Int32 × Hp} (e : X8_room fu x1 x2 h = some r) : CT l yX8_room cX8_room 3 (some .int) 4 cwM (fun g => [rf g 0, .int x1, .int x2]) h (qI cwM r.1 r.2) := by
  refine ct_of (QR := (fun r : Int32 × Hp => qI cwM r.1 r.2)) (by decide +kernel) (fun g => ⟨rfl, Nat.le_of_ble_eq_true rfl⟩) e (fun x g hl C => ?_)
  unfold X8_room
  refine j_iload_n C dX8_room_0 rfl (n := 1) rfl ?_
  refine j_cz C (run_S C mi_X8_isRoom lm_X8_114 st_X8_isRoom ⟨Nat.le_of_ble_eq_true rfl, Nat.le_of_ble_eq_true rfl⟩ (m_X8_isRoom _ _ _) rfl rfl rfl (Nat.le_of_ble_eq_true rfl) dX8_room_1) (n := 4) rfl (fun b1 => ?_)
  refine j_if_eq C dX8_room_4 (tgt := 16) (n := 7) (by decide) rfl (fun q2 => ?_) (fun q2 => ?_)
  · refine j_aload_n C dX8_room_16 rfl (n := 17) rfl ?_
    refine j_ldc C dX8_room_17 kc_X8_63 (n := 19) rfl ?_
    refine j_bnd (fun r4 q3 => ?_)
    refine j_ci C (run_V C mi_X8_finding lm_X8_80 iv_X8_finding ⟨Nat.le_of_ble_eq_true rfl, Nat.le_of_ble_eq_true rfl⟩ (m_X8_finding _ _ _ q3) (cM_0 g _) rfl rfl rfl rfl (Nat.le_of_ble_eq_true rfl) dX8_room_19) (n := 22) rfl ?_
    exact j_retP C dX8_room_22
  · refine j_iload_n C dX8_room_7 rfl (n := 8) rfl ?_
    refine j_iconst C dX8_room_8 ic_0 (n := 9) rfl ?_
    refine j_iconst C dX8_room_9 ic_3 (n := 10) rfl ?_
    refine j_cz C (run_S C mi_X8_within lm_X8_68 st_X8_within ⟨Nat.le_of_ble_eq_true rfl, Nat.le_of_ble_eq_true rfl⟩ (m_X8_within _ _ _ _ _) rfl rfl rfl (Nat.le_of_ble_eq_true rfl) dX8_room_10) (n := 13) rfl (fun b6 => ?_)
    refine j_if_ne C dX8_room_13 (tgt := 23) (n := 16) (by decide) rfl (fun q7 => ?_) (fun q7 => ?_)
    · refine j_iload_n C dX8_room_23 rfl (n := 24) rfl ?_
      refine j_if_ne C dX8_room_24 (tgt := 39) (n := 27) (by decide) rfl (fun q8 => ?_) (fun q8 => ?_)
      · refine j_iload_n C dX8_room_39 rfl (n := 40) rfl ?_
        refine j_iconst C dX8_room_40 ic_1 (n := 41) rfl ?_
        refine j_icmp_ne C dX8_room_41 (tgt := 52) (n := 44) (by decide) rfl (fun q9 => ?_) (fun q9 => ?_)
        · refine j_iload_n C dX8_room_52 rfl (n := 53) rfl ?_
          refine j_iconst C dX8_room_53 ic_2 (n := 54) rfl ?_
          refine j_icmp_ne C dX8_room_54 (tgt := 65) (n := 57) (by decide) rfl (fun q10 => ?_) (fun q10 => ?_)
          · refine j_aload_n C dX8_room_65 rfl (n := 66) rfl ?_
            refine j_iload_n C dX8_room_66 rfl (n := 67) rfl ?_
            refine j_bnd (fun r12 q11 => ?_)
            refine j_ci C (run_V C mi_X8_visitorsIn lm_X8_144 iv_X8_visitorsIn ⟨Nat.le_of_ble_eq_true rfl, Nat.le_of_ble_eq_true rfl⟩ (m_X8_visitorsIn _ _ _ _ q11) (cM_0 g _) rfl rfl rfl rfl (Nat.le_of_ble_eq_true rfl) dX8_room_67) (n := 70) rfl ?_
            exact j_retP C dX8_room_70
          · refine j_aload_n C dX8_room_57 rfl (n := 58) rfl ?_
            refine j_iload_n C dX8_room_58 rfl (n := 59) rfl ?_
            refine j_bnd (fun r15 q14 => ?_)
            refine j_ci C (run_V C mi_X8_likeness lm_X8_141 iv_X8_likeness ⟨Nat.le_of_ble_eq_true rfl, Nat.le_of_ble_eq_true rfl⟩ (m_X8_likeness _ _ _ _ q14) (cM_0 g _) rfl rfl rfl rfl (Nat.le_of_ble_eq_true rfl) dX8_room_59) (n := 62) rfl ?_
            refine j_goto C dX8_room_62 (n := 70) (by decide) ?_
            exact j_retP C dX8_room_70
        · refine j_aload_n C dX8_room_44 rfl (n := 45) rfl ?_
          refine j_iload_n C dX8_room_45 rfl (n := 46) rfl ?_
          refine j_bnd (fun r18 q17 => ?_)
          refine j_ci C (run_V C mi_X8_partsAt lm_X8_138 iv_X8_partsAt ⟨Nat.le_of_ble_eq_true rfl, Nat.le_of_ble_eq_true rfl⟩ (m_X8_partsAt _ _ _ _ q17) (cM_0 g _) rfl rfl rfl rfl (Nat.le_of_ble_eq_true rfl) dX8_room_46) (n := 49) rfl ?_
          refine j_goto C dX8_room_49 (n := 70) (by decide) ?_
          exact j_retP C dX8_room_70
      · refine j_aload_n C dX8_room_27 rfl (n := 28) rfl ?_
        refine gf_X8_9 C 0 (cM_0 g _) rfl dX8_room_28 (n := 31) rfl ?_
        refine j_bipush C dX8_room_31 bp_27 (n := 33) rfl ?_
        refine j_iload_n C dX8_room_33 rfl (n := 34) rfl ?_
        refine j_iadd C dX8_room_34 (n := 35) rfl ?_
        refine j_iald C 1 (cM_1 g _) dX8_room_35 (n := 36) rfl ?_
        refine j_goto C dX8_room_36 (n := 70) (by decide) ?_
        exact j_retP C dX8_room_70
    · refine j_aload_n C dX8_room_16 rfl (n := 17) rfl ?_
      refine j_ldc C dX8_room_17 kc_X8_63 (n := 19) rfl ?_
      refine j_bnd (fun r21 q20 => ?_)
      refine j_ci C (run_V C mi_X8_finding lm_X8_80 iv_X8_finding ⟨Nat.le_of_ble_eq_true rfl, Nat.le_of_ble_eq_true rfl⟩ (m_X8_finding _ _ _ q20) (cM_0 g _) rfl rfl rfl rfl (Nat.le_of_ble_eq_true rfl) dX8_room_19) (n := 22) rfl ?_
      exact j_retP C dX8_room_22
-- X8_like
set_option maxRecDepth 20000 in
theorem m_X8_like (l : Launch) (fu : Nat) (x1 : Int32) (x2 : Int32) (h : Hp) {r : Int32 × Hp} (e : X8_like fu x1 x2 h = some r) : CT l yX8_like cX8_like 3 (some .int) 3 cwM (fun g => [rf g 0, .int x1, .int x2]) h (qI cwM r.1 r.2) := by
  refine ct_of (QR := (fun r : Int32 × Hp => qI cwM r.1 r.2)) (by decide +kernel) (fun g => ⟨rfl, Nat.le_of_ble_eq_true rfl⟩) e (fun x g hl C => ?_)
  unfold X8_like
  refine j_aload_n C dX8_like_0 rfl (n := 1) rfl ?_
  refine j_iload_n C dX8_like_1 rfl (n := 2) rfl ?_
  refine j_bnd (fun r2 q1 => ?_)
  refine j_cz C (run_V C mi_X8_isPart lm_X8_99 iv_X8_isPart ⟨Nat.le_of_ble_eq_true rfl, Nat.le_of_ble_eq_true rfl⟩ (m_X8_isPart _ _ _ q1) (cM_0 g _) rfl rfl rfl rfl (Nat.le_of_ble_eq_true rfl) dX8_like_2) (n := 5) rfl (fun b3 => ?_)
  refine j_if_eq C dX8_like_5 (tgt := 24) (n := 8) (by decide) rfl (fun q4 => ?_) (fun q4 => ?_)
  · refine j_aload_n C dX8_like_24 rfl (n := 25) rfl ?_
    refine j_ldc C dX8_like_25 kc_X8_63 (n := 27) rfl ?_
    refine j_bnd (fun r6 q5 => ?_)
    refine j_ci C (run_V C mi_X8_finding lm_X8_80 iv_X8_finding ⟨Nat.le_of_ble_eq_true rfl, Nat.le_of_ble_eq_true rfl⟩ (m_X8_finding _ _ _ q5) (cM_0 g _) rfl rfl rfl rfl (Nat.le_of_ble_eq_true rfl) dX8_like_27) (n := 30) rfl ?_
    exact j_retP C dX8_like_30
  · refine j_iload_n C dX8_like_8 rfl (n := 9) rfl ?_
    refine j_cz C (run_S C mi_X8_isFace lm_X8_111 st_X8_isFace ⟨Nat.le_of_ble_eq_true rfl, Nat.le_of_ble_eq_true rfl⟩ (m_X8_isFace _ _ _) rfl rfl rfl (Nat.le_of_ble_eq_true rfl) dX8_like_9) (n := 12) rfl (fun b8 => ?_)
    refine j_if_eq C dX8_like_12 (tgt := 24) (n := 15) (by decide) rfl (fun q9 => ?_) (fun q9 => ?_)
    · refine j_aload_n C dX8_like_24 rfl (n := 25) rfl ?_
      refine j_ldc C dX8_like_25 kc_X8_63 (n := 27) rfl ?_
      refine j_bnd (fun r11 q10 => ?_)
      refine j_ci C (run_V C mi_X8_finding lm_X8_80 iv_X8_finding ⟨Nat.le_of_ble_eq_true rfl, Nat.le_of_ble_eq_true rfl⟩ (m_X8_finding _ _ _ q10) (cM_0 g _) rfl rfl rfl rfl (Nat.le_of_ble_eq_true rfl) dX8_like_27) (n := 30) rfl ?_
      exact j_retP C dX8_like_30
    · refine j_aload_n C dX8_like_15 rfl (n := 16) rfl ?_
      refine j_iload_n C dX8_like_16 rfl (n := 17) rfl ?_
      refine j_iload_n C dX8_like_17 rfl (n := 18) rfl ?_
      refine j_bnd (fun r14 q13 => ?_)
      refine j_ci C (run_V C mi_X8_likeTo lm_X8_132 iv_X8_likeTo ⟨Nat.le_of_ble_eq_true rfl, Nat.le_of_ble_eq_true rfl⟩ (m_X8_likeTo _ _ _ _ _ q13) (cM_0 g _) rfl rfl rfl rfl (Nat.le_of_ble_eq_true rfl) dX8_like_18) (n := 21) rfl ?_
      refine j_goto C dX8_like_21 (n := 30) (by decide) ?_
      exact j_retP C dX8_like_30
-- X8_carryOf
set_option maxRecDepth 20000 in
theorem j_X8_carryOf_26 {x : Fx} {g : Gl} (C : Ok x g RX8 cX8_carryOf 5 (some .int)) (h : Hp) (x1 : Int32) (s0 : Int32) : J x g cwM 5 2 (fun r : Int32 => qI cwM r h) 26 [some (rf g 0), some (.int x1)] [.int s0] h (X8_carryOf_26 h x1 s0) := by
  unfold X8_carryOf_26
  refine j_istore C dX8_carryOf_26 (Nat.le_of_ble_eq_true rfl) (n := 28) rfl ?_
  refine j_aload_n C dX8_carryOf_28 rfl (n := 29) rfl ?_
  refine j_iload_n C dX8_carryOf_29 rfl (n := 30) rfl ?_
  refine j_iconst C dX8_carryOf_30 ic_0 (n := 31) rfl ?_
  refine j_bnd (fun r2 q1 => ?_)
  refine j_ci C (run_V C mi_X8_partIs lm_X8_92 iv_X8_partIs ⟨Nat.le_of_ble_eq_true rfl, Nat.le_of_ble_eq_true rfl⟩ (m_X8_partIs _ _ _ _ q1) (cM_0 g _) rfl rfl rfl rfl (Nat.le_of_ble_eq_true rfl) dX8_carryOf_31) (n := 34) rfl ?_
  refine j_split (fun q4 => ?_) (fun q4 => ?_)
  · refine j_tabIn C dX8_carryOf_34 q4 (off := 34) (by decide) (n := 68) (by decide) ?_
    refine j_iload C dX8_carryOf_68 rfl (n := 70) rfl ?_
    refine j_iconst C dX8_carryOf_70 ic_3 (n := 71) rfl ?_
    refine j_iadd C dX8_carryOf_71 (n := 72) rfl ?_
    exact j_ret C dX8_carryOf_72
  · refine j_split (fun q5 => ?_) (fun q5 => ?_)
    · refine j_tabIn C dX8_carryOf_34 q5 (off := 39) (by decide) (n := 73) (by decide) ?_
      refine j_iconst C dX8_carryOf_73 ic_2 (n := 74) rfl ?_
      refine j_iload C dX8_carryOf_74 rfl (n := 76) rfl ?_
      refine j_iconst C dX8_carryOf_76 ic_3 (n := 77) rfl ?_
      refine j_iadd C dX8_carryOf_77 (n := 78) rfl ?_
      refine j_imul C dX8_carryOf_78 (n := 79) rfl ?_
      exact j_ret C dX8_carryOf_79
    · refine j_split (fun q6 => ?_) (fun q6 => ?_)
      · refine j_tabIn C dX8_carryOf_34 q6 (off := 46) (by decide) (n := 80) (by decide) ?_
        refine j_iload C dX8_carryOf_80 rfl (n := 82) rfl ?_
        refine j_iconst C dX8_carryOf_82 ic_1 (n := 83) rfl ?_
        refine j_iadd C dX8_carryOf_83 (n := 84) rfl ?_
        refine j_aload_n C dX8_carryOf_84 rfl (n := 85) rfl ?_
        refine j_iload_n C dX8_carryOf_85 rfl (n := 86) rfl ?_
        refine j_iconst C dX8_carryOf_86 ic_2 (n := 87) rfl ?_
        refine j_bnd (fun r8 q7 => ?_)
        refine j_ci C (run_V C mi_X8_partIs lm_X8_92 iv_X8_partIs ⟨Nat.le_of_ble_eq_true rfl, Nat.le_of_ble_eq_true rfl⟩ (m_X8_partIs _ _ _ _ q7) (cM_0 g _) rfl rfl rfl rfl (Nat.le_of_ble_eq_true rfl) dX8_carryOf_87) (n := 90) rfl ?_
        refine j_bipush C dX8_carryOf_90 bp_10 (n := 92) rfl ?_
        refine j_idivL C dX8_carryOf_92 (by decide) (n := 93) rfl ?_
        refine j_iadd C dX8_carryOf_93 (n := 94) rfl ?_
        exact j_ret C dX8_carryOf_94
      · refine j_split (fun q10 => ?_) (fun q10 => ?_)
        · refine j_tabIn C dX8_carryOf_34 q10 (off := 61) (by decide) (n := 95) (by decide) ?_
          refine j_iconst C dX8_carryOf_95 ic_1 (n := 96) rfl ?_
          exact j_ret C dX8_carryOf_96
        · refine j_split (fun q11 => ?_) (fun q11 => ?_)
          · refine j_tabIn C dX8_carryOf_34 q11 (off := 61) (by decide) (n := 95) (by decide) ?_
            refine j_iconst C dX8_carryOf_95 ic_1 (n := 96) rfl ?_
            exact j_ret C dX8_carryOf_96
          · refine j_tabOut C dX8_carryOf_34 (tabout_2_6 q4 q5 q6 q10 q11) (n := 97) (by decide) ?_
            refine j_iload C dX8_carryOf_97 rfl (n := 99) rfl ?_
            refine j_iconst C dX8_carryOf_99 ic_1 (n := 100) rfl ?_
            refine j_iadd C dX8_carryOf_100 (n := 101) rfl ?_
            exact j_ret C dX8_carryOf_101
set_option maxRecDepth 20000 in
theorem m_X8_carryOf (l : Launch) (x1 : Int32) (x2 : Int32) (h : Hp) {r : Int32} (e : X8_carryOf x1 x2 h = some r) : CT l yX8_carryOf cX8_carryOf 5 (some .int) 2 cwM (fun g => [rf g 0, .int x1, .int x2]) h (qI cwM r h) := by
  refine ct_of (QR := (fun r : Int32 => qI cwM r h)) (by decide +kernel) (fun g => ⟨rfl, Nat.le_of_ble_eq_true rfl⟩) e (fun x g hl C => ?_)
  unfold X8_carryOf
  refine j_aload_n C dX8_carryOf_0 rfl (n := 1) rfl ?_
  refine j_iload_n C dX8_carryOf_1 rfl (n := 2) rfl ?_
  refine j_iconst C dX8_carryOf_2 ic_3 (n := 3) rfl ?_
  refine j_bnd (fun r2 q1 => ?_)
  refine j_ci C (run_V C mi_X8_partIs lm_X8_92 iv_X8_partIs ⟨Nat.le_of_ble_eq_true rfl, Nat.le_of_ble_eq_true rfl⟩ (m_X8_partIs _ _ _ _ q1) (cM_0 g _) rfl rfl rfl rfl (Nat.le_of_ble_eq_true rfl) dX8_carryOf_3) (n := 6) rfl ?_
  refine j_istore_n C dX8_carryOf_6 (Nat.le_of_ble_eq_true rfl) (n := 7) rfl ?_
  refine j_iload_n C dX8_carryOf_7 rfl (n := 8) rfl ?_
  refine j_if_lt C dX8_carryOf_8 (tgt := 15) (n := 11) (by decide) rfl (fun q4 => ?_) (fun q4 => ?_)
  · refine j_bipush C dX8_carryOf_15 bp_6 (n := 17) rfl ?_
    refine j_goto C dX8_carryOf_17 (n := 26) (by decide) ?_
    exact j_to (j_X8_carryOf_26 C _ _ _) ⟨rfl, ⟨rfl, trivial⟩⟩
  · refine j_iload_n C dX8_carryOf_11 rfl (n := 12) rfl ?_
    refine j_if_ge C dX8_carryOf_12 (tgt := 20) (n := 15) (by decide) rfl (fun q5 => ?_) (fun q5 => ?_)
    · refine j_iload_n C dX8_carryOf_20 rfl (n := 21) rfl ?_
      refine j_iload_n C dX8_carryOf_21 rfl (n := 22) rfl ?_
      refine j_isub C dX8_carryOf_22 (n := 23) rfl ?_
      refine j_mabs C lm_X8_147 (Nat.le_of_ble_eq_true rfl) (Nat.le_of_ble_eq_true rfl) dX8_carryOf_23 (n := 26) rfl ?_
      exact j_to (j_X8_carryOf_26 C _ _ _) ⟨rfl, ⟨rfl, trivial⟩⟩
    · refine j_bipush C dX8_carryOf_15 bp_6 (n := 17) rfl ?_
      refine j_goto C dX8_carryOf_17 (n := 26) (by decide) ?_
      exact j_to (j_X8_carryOf_26 C _ _ _) ⟨rfl, ⟨rfl, trivial⟩⟩
-- X8_carries
set_option maxRecDepth 20000 in
theorem m_X8_carries (l : Launch) (x1 : Int32) (x2 : Int32) (h : Hp) {r : Int32 × Hp} (e : X8_carries x1 x2 h = some r) : CT l yX8_carries cX8_carries 3 (some .int) 3 cwM (fun g => [rf g 0, .int x1, .int x2]) h (qI cwM r.1 r.2) := by
  refine ct_of (QR := (fun r : Int32 × Hp => qI cwM r.1 r.2)) (by decide +kernel) (fun g => ⟨rfl, Nat.le_of_ble_eq_true rfl⟩) e (fun x g hl C => ?_)
  unfold X8_carries
  refine j_aload_n C dX8_carries_0 rfl (n := 1) rfl ?_
  refine j_iload_n C dX8_carries_1 rfl (n := 2) rfl ?_
  refine j_bnd (fun r2 q1 => ?_)
  refine j_cz C (run_V C mi_X8_isPart lm_X8_99 iv_X8_isPart ⟨Nat.le_of_ble_eq_true rfl, Nat.le_of_ble_eq_true rfl⟩ (m_X8_isPart _ _ _ q1) (cM_0 g _) rfl rfl rfl rfl (Nat.le_of_ble_eq_true rfl) dX8_carries_2) (n := 5) rfl (fun b3 => ?_)
  refine j_if_eq C dX8_carries_5 (tgt := 15) (n := 8) (by decide) rfl (fun q4 => ?_) (fun q4 => ?_)
  · refine j_aload_n C dX8_carries_15 rfl (n := 16) rfl ?_
    refine j_ldc C dX8_carries_16 kc_X8_63 (n := 18) rfl ?_
    refine j_bnd (fun r6 q5 => ?_)
    refine j_ci C (run_V C mi_X8_finding lm_X8_80 iv_X8_finding ⟨Nat.le_of_ble_eq_true rfl, Nat.le_of_ble_eq_true rfl⟩ (m_X8_finding _ _ _ q5) (cM_0 g _) rfl rfl rfl rfl (Nat.le_of_ble_eq_true rfl) dX8_carries_18) (n := 21) rfl ?_
    exact j_retP C dX8_carries_21
  · refine j_iload_n C dX8_carries_8 rfl (n := 9) rfl ?_
    refine j_cz C (run_S C mi_X8_isPlace lm_X8_105 st_X8_isPlace ⟨Nat.le_of_ble_eq_true rfl, Nat.le_of_ble_eq_true rfl⟩ (m_X8_isPlace _ _ _) rfl rfl rfl (Nat.le_of_ble_eq_true rfl) dX8_carries_9) (n := 12) rfl (fun b8 => ?_)
    refine j_if_ne C dX8_carries_12 (tgt := 22) (n := 15) (by decide) rfl (fun q9 => ?_) (fun q9 => ?_)
    · refine j_aload_n C dX8_carries_22 rfl (n := 23) rfl ?_
      refine j_iload_n C dX8_carries_23 rfl (n := 24) rfl ?_
      refine j_iconst C dX8_carries_24 ic_3 (n := 25) rfl ?_
      refine j_bnd (fun r11 q10 => ?_)
      refine j_ci C (run_V C mi_X8_partIs lm_X8_92 iv_X8_partIs ⟨Nat.le_of_ble_eq_true rfl, Nat.le_of_ble_eq_true rfl⟩ (m_X8_partIs _ _ _ _ q10) (cM_0 g _) rfl rfl rfl rfl (Nat.le_of_ble_eq_true rfl) dX8_carries_25) (n := 28) rfl ?_
      refine j_iload_n C dX8_carries_28 rfl (n := 29) rfl ?_
      refine j_icmp_ne C dX8_carries_29 (tgt := 41) (n := 32) (by decide) rfl (fun q13 => ?_) (fun q13 => ?_)
      · refine j_aload_n C dX8_carries_41 rfl (n := 42) rfl ?_
        refine j_iload_n C dX8_carries_42 rfl (n := 43) rfl ?_
        refine j_iload_n C dX8_carries_43 rfl (n := 44) rfl ?_
        refine j_bnd (fun r15 q14 => ?_)
        refine j_ci C (run_V C mi_X8_carryOf lm_X8_151 iv_X8_carryOf ⟨Nat.le_of_ble_eq_true rfl, Nat.le_of_ble_eq_true rfl⟩ (m_X8_carryOf _ _ _ _ q14) (cM_0 g _) rfl rfl rfl rfl (Nat.le_of_ble_eq_true rfl) dX8_carries_44) (n := 47) rfl ?_
        exact j_retP C dX8_carries_47
      · refine j_aload_n C dX8_carries_32 rfl (n := 33) rfl ?_
        refine j_ldc C dX8_carries_33 kc_X8_150 (n := 35) rfl ?_
        refine j_bnd (fun r18 q17 => ?_)
        refine j_ci C (run_V C mi_X8_finding lm_X8_80 iv_X8_finding ⟨Nat.le_of_ble_eq_true rfl, Nat.le_of_ble_eq_true rfl⟩ (m_X8_finding _ _ _ q17) (cM_0 g _) rfl rfl rfl rfl (Nat.le_of_ble_eq_true rfl) dX8_carries_35) (n := 38) rfl ?_
        refine j_goto C dX8_carries_38 (n := 47) (by decide) ?_
        exact j_retP C dX8_carries_47
    · refine j_aload_n C dX8_carries_15 rfl (n := 16) rfl ?_
      refine j_ldc C dX8_carries_16 kc_X8_63 (n := 18) rfl ?_
      refine j_bnd (fun r21 q20 => ?_)
      refine j_ci C (run_V C mi_X8_finding lm_X8_80 iv_X8_finding ⟨Nat.le_of_ble_eq_true rfl, Nat.le_of_ble_eq_true rfl⟩ (m_X8_finding _ _ _ q20) (cM_0 g _) rfl rfl rfl rfl (Nat.le_of_ble_eq_true rfl) dX8_carries_18) (n := 21) rfl ?_
      exact j_retP C dX8_carries_21
-- X8_comesIn
set_option maxRecDepth 20000 in
theorem j_X8_comesIn_24 {x : Fx} {g : Gl} (C : Ok x g RX8 cX8_comesIn 3 (some .int)) (fu : Nat) : ∀ (n : Nat) (x1 : Int32) (x2 : Int32) (h : Hp), J x g cwM 3 0 (fun r : Int32 × Hp => qI cwM r.1 r.2) 24 [some (rf g 0), some (.int x1), some (.int x2)] [] h (X8_comesIn_24 fu n x1 x2 h) := by
  intro n
  induction n with
  | zero =>
    intro x1 x2 h
    rw [X8_comesIn_24]
    exact j_none
  | succ n ih =>
    intro x1 x2 h
    rw [X8_comesIn_24]
    refine j_iload_n C dX8_comesIn_24 rfl (n := 25) rfl ?_
    refine j_bipush C dX8_comesIn_25 bp_10 (n := 27) rfl ?_
    refine j_icmp_ge C dX8_comesIn_27 (tgt := 51) (n := 30) (by decide) rfl (fun q1 => ?_) (fun q1 => ?_)
    · refine j_aload_n C dX8_comesIn_51 rfl (n := 52) rfl ?_
      refine gf_X8_9 C 0 (cM_0 g _) rfl dX8_comesIn_52 (n := 55) rfl ?_
      refine j_iconst C dX8_comesIn_55 ic_3 (n := 56) rfl ?_
      refine j_dup2 C dX8_comesIn_56 rfl rfl (n := 57) rfl ?_
      refine j_ialdL C 1 (cM_1 g _) ir_3_117 dX8_comesIn_57 (n := 58) rfl ?_
      refine j_iconst C dX8_comesIn_58 ic_1 (n := 59) rfl ?_
      refine j_iadd C dX8_comesIn_59 (n := 60) rfl ?_
      refine j_iastL C 1 (cM_1 g _) (aM_1 g _ _ _) ir_3_117 dX8_comesIn_60 (n := 61) rfl ?_
      refine j_iload_n C dX8_comesIn_61 rfl (n := 62) rfl ?_
      exact j_retP C dX8_comesIn_62
    · refine j_aload_n C dX8_comesIn_30 rfl (n := 31) rfl ?_
      refine gf_X8_9 C 0 (cM_0 g _) rfl dX8_comesIn_31 (n := 34) rfl ?_
      refine j_bipush C dX8_comesIn_34 bp_77 (n := 36) rfl ?_
      refine j_bipush C dX8_comesIn_36 bp_10 (n := 38) rfl ?_
      refine j_iload_n C dX8_comesIn_38 rfl (n := 39) rfl ?_
      refine j_imul C dX8_comesIn_39 (n := 40) rfl ?_
      refine j_iadd C dX8_comesIn_40 (n := 41) rfl ?_
      refine j_iload_n C dX8_comesIn_41 rfl (n := 42) rfl ?_
      refine j_iadd C dX8_comesIn_42 (n := 43) rfl ?_
      refine j_iconst C dX8_comesIn_43 ic_0 (n := 44) rfl ?_
      refine j_iast C 1 (cM_1 g _) (aM_1 g _ _ _) dX8_comesIn_44 (n := 45) rfl ?_
      refine j_iinc C dX8_comesIn_45 rfl ic_1 (Nat.le_of_ble_eq_true rfl) (n := 48) rfl ?_
      refine j_goto C dX8_comesIn_48 (n := 24) (by decide) ?_
      exact j_to (ih _ _ _) ⟨rfl, ⟨rfl, ⟨rfl, trivial⟩⟩⟩
set_option maxRecDepth 20000 in
theorem m_X8_comesIn (l : Launch) (fu : Nat) (h : Hp) {r : Int32 × Hp} (e : X8_comesIn fu h = some r) : CT l yX8_comesIn cX8_comesIn 3 (some .int) 0 cwM (fun g => [rf g 0]) h (qI cwM r.1 r.2) := by
  refine ct_of (QR := (fun r : Int32 × Hp => qI cwM r.1 r.2)) (by decide +kernel) (fun g => ⟨rfl, Nat.le_of_ble_eq_true rfl⟩) e (fun x g hl C => ?_)
  unfold X8_comesIn
  refine j_aload_n C dX8_comesIn_0 rfl (n := 1) rfl ?_
  refine gf_X8_9 C 0 (cM_0 g _) rfl dX8_comesIn_1 (n := 4) rfl ?_
  refine j_iconst C dX8_comesIn_4 ic_3 (n := 5) rfl ?_
  refine j_ialdL C 1 (cM_1 g _) ir_3_117 dX8_comesIn_5 (n := 6) rfl ?_
  refine j_istore_n C dX8_comesIn_6 (Nat.le_of_ble_eq_true rfl) (n := 7) rfl ?_
  refine j_aload_n C dX8_comesIn_7 rfl (n := 8) rfl ?_
  refine gf_X8_9 C 0 (cM_0 g _) rfl dX8_comesIn_8 (n := 11) rfl ?_
  refine j_bipush C dX8_comesIn_11 bp_73 (n := 13) rfl ?_
  refine j_iload_n C dX8_comesIn_13 rfl (n := 14) rfl ?_
  refine j_iadd C dX8_comesIn_14 (n := 15) rfl ?_
  refine j_aload_n C dX8_comesIn_15 rfl (n := 16) rfl ?_
  refine gf_X8_9 C 0 (cM_0 g _) rfl dX8_comesIn_16 (n := 19) rfl ?_
  refine j_iconst C dX8_comesIn_19 ic_0 (n := 20) rfl ?_
  refine j_ialdL C 1 (cM_1 g _) ir_0_117 dX8_comesIn_20 (n := 21) rfl ?_
  refine j_iast C 1 (cM_1 g _) (aM_1 g _ _ _) dX8_comesIn_21 (n := 22) rfl ?_
  refine j_iconst C dX8_comesIn_22 ic_0 (n := 23) rfl ?_
  refine j_istore_n C dX8_comesIn_23 (Nat.le_of_ble_eq_true rfl) (n := 24) rfl ?_
  exact j_to (j_X8_comesIn_24 C _ _ _ _ _) ⟨rfl, ⟨rfl, ⟨rfl, trivial⟩⟩⟩
-- X8_visitor
set_option maxRecDepth 20000 in
theorem m_X8_visitor (l : Launch) (fu : Nat) (h : Hp) {r : Int32 × Hp} (e : X8_visitor fu h = some r) : CT l yX8_visitor cX8_visitor 1 (some .int) 1 cwM (fun g => [rf g 0]) h (qI cwM r.1 r.2) := by
  refine ct_of (QR := (fun r : Int32 × Hp => qI cwM r.1 r.2)) (by decide +kernel) (fun g => ⟨rfl, Nat.le_of_ble_eq_true rfl⟩) e (fun x g hl C => ?_)
  unfold X8_visitor
  refine j_aload_n C dX8_visitor_0 rfl (n := 1) rfl ?_
  refine gf_X8_9 C 0 (cM_0 g _) rfl dX8_visitor_1 (n := 4) rfl ?_
  refine j_iconst C dX8_visitor_4 ic_3 (n := 5) rfl ?_
  refine j_ialdL C 1 (cM_1 g _) ir_3_117 dX8_visitor_5 (n := 6) rfl ?_
  refine j_iconst C dX8_visitor_6 ic_4 (n := 7) rfl ?_
  refine j_icmp_ne C dX8_visitor_7 (tgt := 19) (n := 10) (by decide) rfl (fun q1 => ?_) (fun q1 => ?_)
  · refine j_aload_n C dX8_visitor_19 rfl (n := 20) rfl ?_
    refine j_bnd (fun r3 q2 => ?_)
    refine j_ci C (run_V C mi_X8_comesIn lm_X8_154 iv_X8_comesIn ⟨Nat.le_of_ble_eq_true rfl, Nat.le_of_ble_eq_true rfl⟩ (m_X8_comesIn _ _ _ q2) (cM_0 g _) rfl rfl rfl rfl (Nat.le_of_ble_eq_true rfl) dX8_visitor_20) (n := 23) rfl ?_
    exact j_retP C dX8_visitor_23
  · refine j_aload_n C dX8_visitor_10 rfl (n := 11) rfl ?_
    refine j_ldc C dX8_visitor_11 kc_X8_84 (n := 13) rfl ?_
    refine j_bnd (fun r6 q5 => ?_)
    refine j_ci C (run_V C mi_X8_finding lm_X8_80 iv_X8_finding ⟨Nat.le_of_ble_eq_true rfl, Nat.le_of_ble_eq_true rfl⟩ (m_X8_finding _ _ _ q5) (cM_0 g _) rfl rfl rfl rfl (Nat.le_of_ble_eq_true rfl) dX8_visitor_13) (n := 16) rfl ?_
    refine j_goto C dX8_visitor_16 (n := 23) (by decide) ?_
    exact j_retP C dX8_visitor_23
-- X8_seenIn
set_option maxRecDepth 20000 in
theorem j_X8_seenIn_5 {x : Fx} {g : Gl} (C : Ok x g RX8 cX8_seenIn 5 (some .int)) (fu : Nat) (h : Hp) : ∀ (n : Nat) (x1 : Int32) (x2 : Int32) (x3 : Int32) (x4 : Int32), J x g cwM 5 1 (fun r : Int32 => qI cwM r h) 5 [some (rf g 0), some (.int x1), some (.int x2), some (.int x3), some (.int x4)] [] h (X8_seenIn_5 fu h n x1 x2 x3 x4) := by
  intro n
  induction n with
  | zero =>
    intro x1 x2 x3 x4
    rw [X8_seenIn_5]
    exact j_none
  | succ n ih =>
    intro x1 x2 x3 x4
    rw [X8_seenIn_5]
    refine j_iload C dX8_seenIn_5 rfl (n := 7) rfl ?_
    refine j_bipush C dX8_seenIn_7 bp_10 (n := 9) rfl ?_
    refine j_icmp_ge C dX8_seenIn_9 (tgt := 51) (n := 12) (by decide) rfl (fun q1 => ?_) (fun q1 => ?_)
    · refine j_iload_n C dX8_seenIn_51 rfl (n := 52) rfl ?_
      exact j_ret C dX8_seenIn_52
    · refine j_iload_n C dX8_seenIn_12 rfl (n := 13) rfl ?_
      refine j_aload_n C dX8_seenIn_13 rfl (n := 14) rfl ?_
      refine gf_X8_9 C 0 (cM_0 g _) rfl dX8_seenIn_14 (n := 17) rfl ?_
      refine j_bipush C dX8_seenIn_17 bp_77 (n := 19) rfl ?_
      refine j_bipush C dX8_seenIn_19 bp_10 (n := 21) rfl ?_
      refine j_iload_n C dX8_seenIn_21 rfl (n := 22) rfl ?_
      refine j_imul C dX8_seenIn_22 (n := 23) rfl ?_
      refine j_iadd C dX8_seenIn_23 (n := 24) rfl ?_
      refine j_iload C dX8_seenIn_24 rfl (n := 26) rfl ?_
      refine j_iadd C dX8_seenIn_26 (n := 27) rfl ?_
      refine j_iald C 1 (cM_1 g _) dX8_seenIn_27 (n := 28) rfl ?_
      refine j_bnd (fun r3 q2 => ?_)
      refine j_ci C (run_S C mi_X8_bits lm_X8_117 st_X8_bits ⟨Nat.le_of_ble_eq_true rfl, Nat.le_of_ble_eq_true rfl⟩ (m_X8_bits _ _ _ _ q2) rfl rfl rfl (Nat.le_of_ble_eq_true rfl) dX8_seenIn_28) (n := 31) rfl ?_
      refine j_iload_n C dX8_seenIn_31 rfl (n := 32) rfl ?_
      refine j_icmp_lt C dX8_seenIn_32 (tgt := 42) (n := 35) (by decide) rfl (fun q5 => ?_) (fun q5 => ?_)
      · refine j_iconst C dX8_seenIn_42 ic_0 (n := 43) rfl ?_
        refine j_ior C dX8_seenIn_43 (n := 44) rfl ?_
        refine j_istore_n C dX8_seenIn_44 (Nat.le_of_ble_eq_true rfl) (n := 45) rfl ?_
        refine j_iinc C dX8_seenIn_45 rfl ic_1 (Nat.le_of_ble_eq_true rfl) (n := 48) rfl ?_
        refine j_goto C dX8_seenIn_48 (n := 5) (by decide) ?_
        exact j_to (ih _ _ _ _) ⟨rfl, ⟨rfl, ⟨rfl, ⟨rfl, ⟨rfl, trivial⟩⟩⟩⟩⟩
      · refine j_iconst C dX8_seenIn_35 ic_1 (n := 36) rfl ?_
        refine j_iload C dX8_seenIn_36 rfl (n := 38) rfl ?_
        refine j_ishl C dX8_seenIn_38 (n := 39) rfl ?_
        refine j_goto C dX8_seenIn_39 (n := 43) (by decide) ?_
        refine j_ior C dX8_seenIn_43 (n := 44) rfl ?_
        refine j_istore_n C dX8_seenIn_44 (Nat.le_of_ble_eq_true rfl) (n := 45) rfl ?_
        refine j_iinc C dX8_seenIn_45 rfl ic_1 (Nat.le_of_ble_eq_true rfl) (n := 48) rfl ?_
        refine j_goto C dX8_seenIn_48 (n := 5) (by decide) ?_
        exact j_to (ih _ _ _ _) ⟨rfl, ⟨rfl, ⟨rfl, ⟨rfl, ⟨rfl, trivial⟩⟩⟩⟩⟩
set_option maxRecDepth 20000 in
theorem m_X8_seenIn (l : Launch) (fu : Nat) (x1 : Int32) (x2 : Int32) (h : Hp) {r : Int32} (e : X8_seenIn fu x1 x2 h = some r) : CT l yX8_seenIn cX8_seenIn 5 (some .int) 1 cwM (fun g => [rf g 0, .int x1, .int x2]) h (qI cwM r h) := by
  refine ct_of (QR := (fun r : Int32 => qI cwM r h)) (by decide +kernel) (fun g => ⟨rfl, Nat.le_of_ble_eq_true rfl⟩) e (fun x g hl C => ?_)
  unfold X8_seenIn
  refine j_iconst C dX8_seenIn_0 ic_0 (n := 1) rfl ?_
  refine j_istore_n C dX8_seenIn_1 (Nat.le_of_ble_eq_true rfl) (n := 2) rfl ?_
  refine j_iconst C dX8_seenIn_2 ic_0 (n := 3) rfl ?_
  refine j_istore C dX8_seenIn_3 (Nat.le_of_ble_eq_true rfl) (n := 5) rfl ?_
  exact j_to (j_X8_seenIn_5 C _ _ _ _ _ _ _) ⟨rfl, ⟨rfl, ⟨rfl, ⟨rfl, ⟨rfl, trivial⟩⟩⟩⟩⟩
-- X8_seen
set_option maxRecDepth 20000 in
theorem m_X8_seen (l : Launch) (fu : Nat) (x1 : Int32) (x2 : Int32) (h : Hp) {r : Int32 × Hp} (e : X8_seen fu x1 x2 h = some r) : CT l yX8_seen cX8_seen 3 (some .int) 2 cwM (fun g => [rf g 0, .int x1, .int x2]) h (qI cwM r.1 r.2) := by
  refine ct_of (QR := (fun r : Int32 × Hp => qI cwM r.1 r.2)) (by decide +kernel) (fun g => ⟨rfl, Nat.le_of_ble_eq_true rfl⟩) e (fun x g hl C => ?_)
  unfold X8_seen
  refine j_iload_n C dX8_seen_0 rfl (n := 1) rfl ?_
  refine j_iconst C dX8_seen_1 ic_0 (n := 2) rfl ?_
  refine j_aload_n C dX8_seen_2 rfl (n := 3) rfl ?_
  refine gf_X8_9 C 0 (cM_0 g _) rfl dX8_seen_3 (n := 6) rfl ?_
  refine j_iconst C dX8_seen_6 ic_3 (n := 7) rfl ?_
  refine j_ialdL C 1 (cM_1 g _) ir_3_117 dX8_seen_7 (n := 8) rfl ?_
  refine j_iconst C dX8_seen_8 ic_1 (n := 9) rfl ?_
  refine j_isub C dX8_seen_9 (n := 10) rfl ?_
  refine j_cz C (run_S C mi_X8_within lm_X8_68 st_X8_within ⟨Nat.le_of_ble_eq_true rfl, Nat.le_of_ble_eq_true rfl⟩ (m_X8_within _ _ _ _ _) rfl rfl rfl (Nat.le_of_ble_eq_true rfl) dX8_seen_10) (n := 13) rfl (fun b1 => ?_)
  refine j_if_eq C dX8_seen_13 (tgt := 25) (n := 16) (by decide) rfl (fun q2 => ?_) (fun q2 => ?_)
  · refine j_aload_n C dX8_seen_25 rfl (n := 26) rfl ?_
    refine j_ldc C dX8_seen_26 kc_X8_63 (n := 28) rfl ?_
    refine j_bnd (fun r4 q3 => ?_)
    refine j_ci C (run_V C mi_X8_finding lm_X8_80 iv_X8_finding ⟨Nat.le_of_ble_eq_true rfl, Nat.le_of_ble_eq_true rfl⟩ (m_X8_finding _ _ _ q3) (cM_0 g _) rfl rfl rfl rfl (Nat.le_of_ble_eq_true rfl) dX8_seen_28) (n := 31) rfl ?_
    exact j_retP C dX8_seen_31
  · refine j_iload_n C dX8_seen_16 rfl (n := 17) rfl ?_
    refine j_iconst C dX8_seen_17 ic_0 (n := 18) rfl ?_
    refine j_iconst C dX8_seen_18 ic_2 (n := 19) rfl ?_
    refine j_cz C (run_S C mi_X8_within lm_X8_68 st_X8_within ⟨Nat.le_of_ble_eq_true rfl, Nat.le_of_ble_eq_true rfl⟩ (m_X8_within _ _ _ _ _) rfl rfl rfl (Nat.le_of_ble_eq_true rfl) dX8_seen_19) (n := 22) rfl (fun b6 => ?_)
    refine j_if_ne C dX8_seen_22 (tgt := 32) (n := 25) (by decide) rfl (fun q7 => ?_) (fun q7 => ?_)
    · refine j_iload_n C dX8_seen_32 rfl (n := 33) rfl ?_
      refine j_if_ne C dX8_seen_33 (tgt := 44) (n := 36) (by decide) rfl (fun q8 => ?_) (fun q8 => ?_)
      · refine j_aload_n C dX8_seen_44 rfl (n := 45) rfl ?_
        refine j_iload_n C dX8_seen_45 rfl (n := 46) rfl ?_
        refine j_iload_n C dX8_seen_46 rfl (n := 47) rfl ?_
        refine j_bnd (fun r10 q9 => ?_)
        refine j_ci C (run_V C mi_X8_seenIn lm_X8_158 iv_X8_seenIn ⟨Nat.le_of_ble_eq_true rfl, Nat.le_of_ble_eq_true rfl⟩ (m_X8_seenIn _ _ _ _ _ q9) (cM_0 g _) rfl rfl rfl rfl (Nat.le_of_ble_eq_true rfl) dX8_seen_47) (n := 50) rfl ?_
        exact j_retP C dX8_seen_50
      · refine j_aload_n C dX8_seen_36 rfl (n := 37) rfl ?_
        refine j_iload_n C dX8_seen_37 rfl (n := 38) rfl ?_
        refine j_bnd (fun r13 q12 => ?_)
        refine j_ci C (run_V C mi_X8_roomOf lm_X8_135 iv_X8_roomOf ⟨Nat.le_of_ble_eq_true rfl, Nat.le_of_ble_eq_true rfl⟩ (m_X8_roomOf _ _ _ q12) (cM_0 g _) rfl rfl rfl rfl (Nat.le_of_ble_eq_true rfl) dX8_seen_38) (n := 41) rfl ?_
        refine j_goto C dX8_seen_41 (n := 50) (by decide) ?_
        exact j_retP C dX8_seen_50
    · refine j_aload_n C dX8_seen_25 rfl (n := 26) rfl ?_
      refine j_ldc C dX8_seen_26 kc_X8_63 (n := 28) rfl ?_
      refine j_bnd (fun r16 q15 => ?_)
      refine j_ci C (run_V C mi_X8_finding lm_X8_80 iv_X8_finding ⟨Nat.le_of_ble_eq_true rfl, Nat.le_of_ble_eq_true rfl⟩ (m_X8_finding _ _ _ q15) (cM_0 g _) rfl rfl rfl rfl (Nat.le_of_ble_eq_true rfl) dX8_seen_28) (n := 31) rfl ?_
      exact j_retP C dX8_seen_31
-- X8_minute
set_option maxRecDepth 20000 in
theorem j_X8_minute_20 {x : Fx} {g : Gl} (C : Ok x g RX8 cX8_minute 4 none) (fu : Nat) (k2 : Int32 → Hp → Option (Hp)) (hk2 : ∀ (x1 : Int32) (h : Hp), J x g cwM 4 2 (fun r : Hp => qV cwM r) 2 [some (rf g 0), some (.int x1)] [] h (k2 x1 h)) : ∀ (n : Nat) (x1 : Int32) (x2 : Int32) (x3 : Int32) (h : Hp), J x g cwM 4 2 (fun r : Hp => qV cwM r) 20 [some (rf g 0), some (.int x1), some (.int x2), some (.int x3)] [] h (X8_minute_20 fu k2 n x1 x2 x3 h) := by
  intro n
  induction n with
  | zero =>
    intro x1 x2 x3 h
    rw [X8_minute_20]
    exact j_none
  | succ n ih =>
    intro x1 x2 x3 h
    rw [X8_minute_20]
    refine j_iload_n C dX8_minute_20 rfl (n := 21) rfl ?_
    refine j_aload_n C dX8_minute_21 rfl (n := 22) rfl ?_
    refine gf_X8_9 C 0 (cM_0 g _) rfl dX8_minute_22 (n := 25) rfl ?_
    refine j_iconst C dX8_minute_25 ic_2 (n := 26) rfl ?_
    refine j_ialdL C 1 (cM_1 g _) ir_2_117 dX8_minute_26 (n := 27) rfl ?_
    refine j_icmp_ge C dX8_minute_27 (tgt := 74) (n := 30) (by decide) rfl (fun q1 => ?_) (fun q1 => ?_)
    · refine j_iinc C dX8_minute_74 rfl ic_1 (Nat.le_of_ble_eq_true rfl) (n := 77) rfl ?_
      refine j_goto C dX8_minute_77 (n := 2) (by decide) ?_
      exact j_to (hk2 _ _) ⟨rfl, ⟨rfl, trivial⟩⟩
    · refine j_aload_n C dX8_minute_30 rfl (n := 31) rfl ?_
      refine gf_X8_9 C 0 (cM_0 g _) rfl dX8_minute_31 (n := 34) rfl ?_
      refine j_bipush C dX8_minute_34 bp_77 (n := 36) rfl ?_
      refine j_bipush C dX8_minute_36 bp_10 (n := 38) rfl ?_
      refine j_iload_n C dX8_minute_38 rfl (n := 39) rfl ?_
      refine j_imul C dX8_minute_39 (n := 40) rfl ?_
      refine j_iadd C dX8_minute_40 (n := 41) rfl ?_
      refine j_iload_n C dX8_minute_41 rfl (n := 42) rfl ?_
      refine j_iadd C dX8_minute_42 (n := 43) rfl ?_
      refine j_dup2 C dX8_minute_43 rfl rfl (n := 44) rfl ?_
      refine j_iald C 1 (cM_1 g _) dX8_minute_44 (n := 45) rfl ?_
      refine j_iload_n C dX8_minute_45 rfl (n := 46) rfl ?_
      refine j_if_lt C dX8_minute_46 (tgt := 65) (n := 49) (by decide) rfl (fun q2 => ?_) (fun q2 => ?_)
      · refine j_iconst C dX8_minute_65 ic_0 (n := 66) rfl ?_
        refine j_ior C dX8_minute_66 (n := 67) rfl ?_
        refine j_iast C 1 (cM_1 g _) (aM_1 g _ _ _) dX8_minute_67 (n := 68) rfl ?_
        refine j_iinc C dX8_minute_68 rfl ic_1 (Nat.le_of_ble_eq_true rfl) (n := 71) rfl ?_
        refine j_goto C dX8_minute_71 (n := 20) (by decide) ?_
        exact j_to (ih _ _ _ _) ⟨rfl, ⟨rfl, ⟨rfl, ⟨rfl, trivial⟩⟩⟩⟩
      · refine j_aload_n C dX8_minute_49 rfl (n := 50) rfl ?_
        refine j_iload_n C dX8_minute_50 rfl (n := 51) rfl ?_
        refine j_iconst C dX8_minute_51 ic_3 (n := 52) rfl ?_
        refine j_bnd (fun r4 q3 => ?_)
        refine j_ci C (run_V C mi_X8_partIs lm_X8_92 iv_X8_partIs ⟨Nat.le_of_ble_eq_true rfl, Nat.le_of_ble_eq_true rfl⟩ (m_X8_partIs _ _ _ _ q3) (cM_0 g _) rfl rfl rfl rfl (Nat.le_of_ble_eq_true rfl) dX8_minute_52) (n := 55) rfl ?_
        refine j_iload_n C dX8_minute_55 rfl (n := 56) rfl ?_
        refine j_icmp_ne C dX8_minute_56 (tgt := 65) (n := 59) (by decide) rfl (fun q6 => ?_) (fun q6 => ?_)
        · refine j_iconst C dX8_minute_65 ic_0 (n := 66) rfl ?_
          refine j_ior C dX8_minute_66 (n := 67) rfl ?_
          refine j_iast C 1 (cM_1 g _) (aM_1 g _ _ _) dX8_minute_67 (n := 68) rfl ?_
          refine j_iinc C dX8_minute_68 rfl ic_1 (Nat.le_of_ble_eq_true rfl) (n := 71) rfl ?_
          refine j_goto C dX8_minute_71 (n := 20) (by decide) ?_
          exact j_to (ih _ _ _ _) ⟨rfl, ⟨rfl, ⟨rfl, ⟨rfl, trivial⟩⟩⟩⟩
        · refine j_iconst C dX8_minute_59 ic_1 (n := 60) rfl ?_
          refine j_iload_n C dX8_minute_60 rfl (n := 61) rfl ?_
          refine j_ishl C dX8_minute_61 (n := 62) rfl ?_
          refine j_goto C dX8_minute_62 (n := 66) (by decide) ?_
          refine j_ior C dX8_minute_66 (n := 67) rfl ?_
          refine j_iast C 1 (cM_1 g _) (aM_1 g _ _ _) dX8_minute_67 (n := 68) rfl ?_
          refine j_iinc C dX8_minute_68 rfl ic_1 (Nat.le_of_ble_eq_true rfl) (n := 71) rfl ?_
          refine j_goto C dX8_minute_71 (n := 20) (by decide) ?_
          exact j_to (ih _ _ _ _) ⟨rfl, ⟨rfl, ⟨rfl, ⟨rfl, trivial⟩⟩⟩⟩
set_option maxRecDepth 20000 in
theorem j_X8_minute_2 {x : Fx} {g : Gl} (C : Ok x g RX8 cX8_minute 4 none) (fu : Nat) : ∀ (n : Nat) (x1 : Int32) (h : Hp), J x g cwM 4 2 (fun r : Hp => qV cwM r) 2 [some (rf g 0), some (.int x1)] [] h (X8_minute_2 fu n x1 h) := by
  intro n
  induction n with
  | zero =>
    intro x1 h
    rw [X8_minute_2]
    exact j_none
  | succ n ih =>
    intro x1 h
    rw [X8_minute_2]
    refine j_iload_n C dX8_minute_2 rfl (n := 3) rfl ?_
    refine j_aload_n C dX8_minute_3 rfl (n := 4) rfl ?_
    refine gf_X8_9 C 0 (cM_0 g _) rfl dX8_minute_4 (n := 7) rfl ?_
    refine j_iconst C dX8_minute_7 ic_3 (n := 8) rfl ?_
    refine j_ialdL C 1 (cM_1 g _) ir_3_117 dX8_minute_8 (n := 9) rfl ?_
    refine j_icmp_ge C dX8_minute_9 (tgt := 80) (n := 12) (by decide) rfl (fun q1 => ?_) (fun q1 => ?_)
    · refine j_aload_n C dX8_minute_80 rfl (n := 81) rfl ?_
      refine gf_X8_9 C 0 (cM_0 g _) rfl dX8_minute_81 (n := 84) rfl ?_
      refine j_iconst C dX8_minute_84 ic_0 (n := 85) rfl ?_
      refine j_dup2 C dX8_minute_85 rfl rfl (n := 86) rfl ?_
      refine j_ialdL C 1 (cM_1 g _) ir_0_117 dX8_minute_86 (n := 87) rfl ?_
      refine j_iconst C dX8_minute_87 ic_1 (n := 88) rfl ?_
      refine j_iadd C dX8_minute_88 (n := 89) rfl ?_
      refine j_iastL C 1 (cM_1 g _) (aM_1 g _ _ _) ir_0_117 dX8_minute_89 (n := 90) rfl ?_
      exact j_retV C dX8_minute_90
    · refine j_aload_n C dX8_minute_12 rfl (n := 13) rfl ?_
      refine j_iload_n C dX8_minute_13 rfl (n := 14) rfl ?_
      refine j_bnd (fun r3 q2 => ?_)
      refine j_ci C (run_V C mi_X8_roomOf lm_X8_135 iv_X8_roomOf ⟨Nat.le_of_ble_eq_true rfl, Nat.le_of_ble_eq_true rfl⟩ (m_X8_roomOf _ _ _ q2) (cM_0 g _) rfl rfl rfl rfl (Nat.le_of_ble_eq_true rfl) dX8_minute_14) (n := 17) rfl ?_
      refine j_istore_n C dX8_minute_17 (Nat.le_of_ble_eq_true rfl) (n := 18) rfl ?_
      refine j_iconst C dX8_minute_18 ic_0 (n := 19) rfl ?_
      refine j_istore_n C dX8_minute_19 (Nat.le_of_ble_eq_true rfl) (n := 20) rfl ?_
      exact j_to (j_X8_minute_20 C _ _ ih _ _ _ _ _) ⟨rfl, ⟨rfl, ⟨rfl, ⟨rfl, trivial⟩⟩⟩⟩
set_option maxRecDepth 20000 in
theorem m_X8_minute (l : Launch) (fu : Nat) (h : Hp) {r : Hp} (e : X8_minute fu h = some r) : CT l yX8_minute cX8_minute 4 none 2 cwM (fun g => [rf g 0]) h (qV cwM r) := by
  refine ct_of (QR := (fun r : Hp => qV cwM r)) (by decide +kernel) (fun g => ⟨rfl, Nat.le_of_ble_eq_true rfl⟩) e (fun x g hl C => ?_)
  unfold X8_minute
  refine j_iconst C dX8_minute_0 ic_0 (n := 1) rfl ?_
  refine j_istore_n C dX8_minute_1 (Nat.le_of_ble_eq_true rfl) (n := 2) rfl ?_
  exact j_to (j_X8_minute_2 C _ _ _ _) ⟨rfl, ⟨rfl, trivial⟩⟩
-- X8_minutes
set_option maxRecDepth 20000 in
theorem j_X8_minutes_2 {x : Fx} {g : Gl} (C : Ok x g RX8 cX8_minutes 3 none) (fu : Nat) : ∀ (n : Nat) (x1 : Int32) (x2 : Int32) (h : Hp), J x g cwM 3 3 (fun r : Hp => qV cwM r) 2 [some (rf g 0), some (.int x1), some (.int x2)] [] h (X8_minutes_2 fu n x1 x2 h) := by
  intro n
  induction n with
  | zero =>
    intro x1 x2 h
    rw [X8_minutes_2]
    exact j_none
  | succ n ih =>
    intro x1 x2 h
    rw [X8_minutes_2]
    refine j_iload_n C dX8_minutes_2 rfl (n := 3) rfl ?_
    refine j_iload_n C dX8_minutes_3 rfl (n := 4) rfl ?_
    refine j_icmp_ge C dX8_minutes_4 (tgt := 17) (n := 7) (by decide) rfl (fun q1 => ?_) (fun q1 => ?_)
    · exact j_retV C dX8_minutes_17
    · refine j_aload_n C dX8_minutes_7 rfl (n := 8) rfl ?_
      refine j_bnd (fun h3 q2 => ?_)
      refine j_cv C (run_V C mi_X8_minute lm_X8_161 iv_X8_minute ⟨Nat.le_of_ble_eq_true rfl, Nat.le_of_ble_eq_true rfl⟩ (m_X8_minute _ _ _ q2) (cM_0 g _) rfl rfl rfl rfl (Nat.le_of_ble_eq_true rfl) dX8_minutes_8) (n := 11) rfl ?_
      refine j_iinc C dX8_minutes_11 rfl ic_1 (Nat.le_of_ble_eq_true rfl) (n := 14) rfl ?_
      refine j_goto C dX8_minutes_14 (n := 2) (by decide) ?_
      exact j_to (ih _ _ _) ⟨rfl, ⟨rfl, ⟨rfl, trivial⟩⟩⟩
set_option maxRecDepth 20000 in
theorem m_X8_minutes (l : Launch) (fu : Nat) (x1 : Int32) (h : Hp) {r : Hp} (e : X8_minutes fu x1 h = some r) : CT l yX8_minutes cX8_minutes 3 none 3 cwM (fun g => [rf g 0, .int x1]) h (qV cwM r) := by
  refine ct_of (QR := (fun r : Hp => qV cwM r)) (by decide +kernel) (fun g => ⟨rfl, Nat.le_of_ble_eq_true rfl⟩) e (fun x g hl C => ?_)
  unfold X8_minutes
  refine j_iconst C dX8_minutes_0 ic_0 (n := 1) rfl ?_
  refine j_istore_n C dX8_minutes_1 (Nat.le_of_ble_eq_true rfl) (n := 2) rfl ?_
  exact j_to (j_X8_minutes_2 C _ _ _ _ _) ⟨rfl, ⟨rfl, ⟨rfl, trivial⟩⟩⟩
-- X8_moves
set_option maxRecDepth 20000 in
theorem m_X8_moves (l : Launch) (fu : Nat) (x1 : Int32) (x2 : Int32) (h : Hp) {r : Hp} (e : X8_moves fu x1 x2 h = some r) : CT l yX8_moves cX8_moves 4 none 4 cwM (fun g => [rf g 0, .int x1, .int x2]) h (qV cwM r) := by
  refine ct_of (QR := (fun r : Hp => qV cwM r)) (by decide +kernel) (fun g => ⟨rfl, Nat.le_of_ble_eq_true rfl⟩) e (fun x g hl C => ?_)
  unfold X8_moves
  refine j_iconst C dX8_moves_0 ic_1 (n := 1) rfl ?_
  refine j_aload_n C dX8_moves_1 rfl (n := 2) rfl ?_
  refine j_iload_n C dX8_moves_2 rfl (n := 3) rfl ?_
  refine j_iload_n C dX8_moves_3 rfl (n := 4) rfl ?_
  refine j_bnd (fun r2 q1 => ?_)
  refine j_ci C (run_V C mi_X8_carryOf lm_X8_151 iv_X8_carryOf ⟨Nat.le_of_ble_eq_true rfl, Nat.le_of_ble_eq_true rfl⟩ (m_X8_carryOf _ _ _ _ q1) (cM_0 g _) rfl rfl rfl rfl (Nat.le_of_ble_eq_true rfl) dX8_moves_4) (n := 7) rfl ?_
  refine j_mmax C lm_X8_123 (Nat.le_of_ble_eq_true rfl) (Nat.le_of_ble_eq_true rfl) dX8_moves_7 (n := 10) rfl ?_
  refine j_istore_n C dX8_moves_10 (Nat.le_of_ble_eq_true rfl) (n := 11) rfl ?_
  refine j_aload_n C dX8_moves_11 rfl (n := 12) rfl ?_
  refine gf_X8_9 C 0 (cM_0 g _) rfl dX8_moves_12 (n := 15) rfl ?_
  refine j_iload_n C dX8_moves_15 rfl (n := 16) rfl ?_
  refine j_iconst C dX8_moves_16 ic_3 (n := 17) rfl ?_
  refine j_ci C (run_S C mi_X8_at lm_X8_72 st_X8_at ⟨Nat.le_of_ble_eq_true rfl, Nat.le_of_ble_eq_true rfl⟩ (m_X8_at _ _ _ _) rfl rfl rfl (Nat.le_of_ble_eq_true rfl) dX8_moves_17) (n := 20) rfl ?_
  refine j_bipush C dX8_moves_20 bp_m2 (n := 22) rfl ?_
  refine j_iast C 1 (cM_1 g _) (aM_1 g _ _ _) dX8_moves_22 (n := 23) rfl ?_
  refine j_aload_n C dX8_moves_23 rfl (n := 24) rfl ?_
  refine j_iload_n C dX8_moves_24 rfl (n := 25) rfl ?_
  refine j_bnd (fun h5 q4 => ?_)
  refine j_cv C (run_V C mi_X8_minutes lm_X8_164 iv_X8_minutes ⟨Nat.le_of_ble_eq_true rfl, Nat.le_of_ble_eq_true rfl⟩ (m_X8_minutes _ _ _ _ q4) (cM_0 g _) rfl rfl rfl rfl (Nat.le_of_ble_eq_true rfl) dX8_moves_25) (n := 28) rfl ?_
  refine j_aload_n C dX8_moves_28 rfl (n := 29) rfl ?_
  refine gf_X8_9 C 0 (cM_0 g _) rfl dX8_moves_29 (n := 32) rfl ?_
  refine j_iload_n C dX8_moves_32 rfl (n := 33) rfl ?_
  refine j_iconst C dX8_moves_33 ic_3 (n := 34) rfl ?_
  refine j_ci C (run_S C mi_X8_at lm_X8_72 st_X8_at ⟨Nat.le_of_ble_eq_true rfl, Nat.le_of_ble_eq_true rfl⟩ (m_X8_at _ _ _ _) rfl rfl rfl (Nat.le_of_ble_eq_true rfl) dX8_moves_34) (n := 37) rfl ?_
  refine j_iload_n C dX8_moves_37 rfl (n := 38) rfl ?_
  refine j_iast C 1 (cM_1 g _) (aM_1 g _ _ _) dX8_moves_38 (n := 39) rfl ?_
  exact j_retV C dX8_moves_39
-- X8_move
set_option maxRecDepth 20000 in
theorem m_X8_move (l : Launch) (fu : Nat) (x1 : Int32) (x2 : Int32) (h : Hp) {r : Int32 × Hp} (e : X8_move fu x1 x2 h = some r) : CT l yX8_move cX8_move 3 (some .int) 5 cwM (fun g => [rf g 0, .int x1, .int x2]) h (qI cwM r.1 r.2) := by
  refine ct_of (QR := (fun r : Int32 × Hp => qI cwM r.1 r.2)) (by decide +kernel) (fun g => ⟨rfl, Nat.le_of_ble_eq_true rfl⟩) e (fun x g hl C => ?_)
  unfold X8_move
  refine j_aload_n C dX8_move_0 rfl (n := 1) rfl ?_
  refine j_iload_n C dX8_move_1 rfl (n := 2) rfl ?_
  refine j_bnd (fun r2 q1 => ?_)
  refine j_cz C (run_V C mi_X8_isPart lm_X8_99 iv_X8_isPart ⟨Nat.le_of_ble_eq_true rfl, Nat.le_of_ble_eq_true rfl⟩ (m_X8_isPart _ _ _ q1) (cM_0 g _) rfl rfl rfl rfl (Nat.le_of_ble_eq_true rfl) dX8_move_2) (n := 5) rfl (fun b3 => ?_)
  refine j_if_eq C dX8_move_5 (tgt := 15) (n := 8) (by decide) rfl (fun q4 => ?_) (fun q4 => ?_)
  · refine j_aload_n C dX8_move_15 rfl (n := 16) rfl ?_
    refine j_ldc C dX8_move_16 kc_X8_63 (n := 18) rfl ?_
    refine j_bnd (fun r6 q5 => ?_)
    refine j_ci C (run_V C mi_X8_finding lm_X8_80 iv_X8_finding ⟨Nat.le_of_ble_eq_true rfl, Nat.le_of_ble_eq_true rfl⟩ (m_X8_finding _ _ _ q5) (cM_0 g _) rfl rfl rfl rfl (Nat.le_of_ble_eq_true rfl) dX8_move_18) (n := 21) rfl ?_
    exact j_retP C dX8_move_21
  · refine j_iload_n C dX8_move_8 rfl (n := 9) rfl ?_
    refine j_cz C (run_S C mi_X8_isPlace lm_X8_105 st_X8_isPlace ⟨Nat.le_of_ble_eq_true rfl, Nat.le_of_ble_eq_true rfl⟩ (m_X8_isPlace _ _ _) rfl rfl rfl (Nat.le_of_ble_eq_true rfl) dX8_move_9) (n := 12) rfl (fun b8 => ?_)
    refine j_if_ne C dX8_move_12 (tgt := 22) (n := 15) (by decide) rfl (fun q9 => ?_) (fun q9 => ?_)
    · refine j_aload_n C dX8_move_22 rfl (n := 23) rfl ?_
      refine j_iload_n C dX8_move_23 rfl (n := 24) rfl ?_
      refine j_iconst C dX8_move_24 ic_3 (n := 25) rfl ?_
      refine j_bnd (fun r11 q10 => ?_)
      refine j_ci C (run_V C mi_X8_partIs lm_X8_92 iv_X8_partIs ⟨Nat.le_of_ble_eq_true rfl, Nat.le_of_ble_eq_true rfl⟩ (m_X8_partIs _ _ _ _ q10) (cM_0 g _) rfl rfl rfl rfl (Nat.le_of_ble_eq_true rfl) dX8_move_25) (n := 28) rfl ?_
      refine j_iload_n C dX8_move_28 rfl (n := 29) rfl ?_
      refine j_icmp_eq C dX8_move_29 (tgt := 51) (n := 32) (by decide) rfl (fun q13 => ?_) (fun q13 => ?_)
      · refine j_aload_n C dX8_move_51 rfl (n := 52) rfl ?_
        refine j_ldc C dX8_move_52 kc_X8_150 (n := 54) rfl ?_
        refine j_bnd (fun r15 q14 => ?_)
        refine j_ci C (run_V C mi_X8_finding lm_X8_80 iv_X8_finding ⟨Nat.le_of_ble_eq_true rfl, Nat.le_of_ble_eq_true rfl⟩ (m_X8_finding _ _ _ q14) (cM_0 g _) rfl rfl rfl rfl (Nat.le_of_ble_eq_true rfl) dX8_move_54) (n := 57) rfl ?_
        exact j_retP C dX8_move_57
      · refine j_aload_n C dX8_move_32 rfl (n := 33) rfl ?_
        refine gf_X8_9 C 0 (cM_0 g _) rfl dX8_move_33 (n := 36) rfl ?_
        refine j_iconst C dX8_move_36 ic_0 (n := 37) rfl ?_
        refine j_ialdL C 1 (cM_1 g _) ir_0_117 dX8_move_37 (n := 38) rfl ?_
        refine j_aload_n C dX8_move_38 rfl (n := 39) rfl ?_
        refine j_iload_n C dX8_move_39 rfl (n := 40) rfl ?_
        refine j_iload_n C dX8_move_40 rfl (n := 41) rfl ?_
        refine j_bnd (fun r18 q17 => ?_)
        refine j_ci C (run_V C mi_X8_carryOf lm_X8_151 iv_X8_carryOf ⟨Nat.le_of_ble_eq_true rfl, Nat.le_of_ble_eq_true rfl⟩ (m_X8_carryOf _ _ _ _ q17) (cM_0 g _) rfl rfl rfl rfl (Nat.le_of_ble_eq_true rfl) dX8_move_41) (n := 44) rfl ?_
        refine j_iadd C dX8_move_44 (n := 45) rfl ?_
        refine j_sipush C dX8_move_45 sp_9999 (n := 48) rfl ?_
        refine j_icmp_le C dX8_move_48 (tgt := 58) (n := 51) (by decide) rfl (fun q20 => ?_) (fun q20 => ?_)
        · refine j_aload_n C dX8_move_58 rfl (n := 59) rfl ?_
          refine j_iload_n C dX8_move_59 rfl (n := 60) rfl ?_
          refine j_iload_n C dX8_move_60 rfl (n := 61) rfl ?_
          refine j_bnd (fun h22 q21 => ?_)
          refine j_cv C (run_V C mi_X8_moves lm_X8_168 iv_X8_moves ⟨Nat.le_of_ble_eq_true rfl, Nat.le_of_ble_eq_true rfl⟩ (m_X8_moves _ _ _ _ _ q21) (cM_0 g _) rfl rfl rfl rfl (Nat.le_of_ble_eq_true rfl) dX8_move_61) (n := 64) rfl ?_
          refine j_aload_n C dX8_move_64 rfl (n := 65) rfl ?_
          refine gf_X8_9 C 0 (cM_0 g _) rfl dX8_move_65 (n := 68) rfl ?_
          refine j_iconst C dX8_move_68 ic_0 (n := 69) rfl ?_
          refine j_ialdL C 1 (cM_1 g _) ir_0_117 dX8_move_69 (n := 70) rfl ?_
          exact j_retP C dX8_move_70
        · refine j_aload_n C dX8_move_51 rfl (n := 52) rfl ?_
          refine j_ldc C dX8_move_52 kc_X8_150 (n := 54) rfl ?_
          refine j_bnd (fun r24 q23 => ?_)
          refine j_ci C (run_V C mi_X8_finding lm_X8_80 iv_X8_finding ⟨Nat.le_of_ble_eq_true rfl, Nat.le_of_ble_eq_true rfl⟩ (m_X8_finding _ _ _ q23) (cM_0 g _) rfl rfl rfl rfl (Nat.le_of_ble_eq_true rfl) dX8_move_54) (n := 57) rfl ?_
          exact j_retP C dX8_move_57
    · refine j_aload_n C dX8_move_15 rfl (n := 16) rfl ?_
      refine j_ldc C dX8_move_16 kc_X8_63 (n := 18) rfl ?_
      refine j_bnd (fun r27 q26 => ?_)
      refine j_ci C (run_V C mi_X8_finding lm_X8_80 iv_X8_finding ⟨Nat.le_of_ble_eq_true rfl, Nat.le_of_ble_eq_true rfl⟩ (m_X8_finding _ _ _ q26) (cM_0 g _) rfl rfl rfl rfl (Nat.le_of_ble_eq_true rfl) dX8_move_18) (n := 21) rfl ?_
      exact j_retP C dX8_move_21
-- X8_seenTwice
set_option maxRecDepth 20000 in
theorem j_X8_seenTwice_4 {x : Fx} {g : Gl} (C : Ok x g RX8 cX8_seenTwice 3 (some .int)) (fu : Nat) (h : Hp) : ∀ (n : Nat) (x1 : Int32) (x2 : Int32), J x g cwM 3 2 (fun r : Int32 => qI cwM r h) 4 [some (rf g 0), some (.int x1), some (.int x2)] [] h (X8_seenTwice_4 fu h n x1 x2) := by
  intro n
  induction n with
  | zero =>
    intro x1 x2
    rw [X8_seenTwice_4]
    exact j_none
  | succ n ih =>
    intro x1 x2
    rw [X8_seenTwice_4]
    refine j_iload_n C dX8_seenTwice_4 rfl (n := 5) rfl ?_
    refine j_aload_n C dX8_seenTwice_5 rfl (n := 6) rfl ?_
    refine gf_X8_9 C 0 (cM_0 g _) rfl dX8_seenTwice_6 (n := 9) rfl ?_
    refine j_iconst C dX8_seenTwice_9 ic_3 (n := 10) rfl ?_
    refine j_ialdL C 1 (cM_1 g _) ir_3_117 dX8_seenTwice_10 (n := 11) rfl ?_
    refine j_icmp_ge C dX8_seenTwice_11 (tgt := 29) (n := 14) (by decide) rfl (fun q1 => ?_) (fun q1 => ?_)
    · refine j_iload_n C dX8_seenTwice_29 rfl (n := 30) rfl ?_
      exact j_ret C dX8_seenTwice_30
    · refine j_iload_n C dX8_seenTwice_14 rfl (n := 15) rfl ?_
      refine j_aload_n C dX8_seenTwice_15 rfl (n := 16) rfl ?_
      refine j_iload_n C dX8_seenTwice_16 rfl (n := 17) rfl ?_
      refine j_iconst C dX8_seenTwice_17 ic_2 (n := 18) rfl ?_
      refine j_bnd (fun r3 q2 => ?_)
      refine j_ci C (run_V C mi_X8_seenIn lm_X8_158 iv_X8_seenIn ⟨Nat.le_of_ble_eq_true rfl, Nat.le_of_ble_eq_true rfl⟩ (m_X8_seenIn _ _ _ _ _ q2) (cM_0 g _) rfl rfl rfl rfl (Nat.le_of_ble_eq_true rfl) dX8_seenTwice_18) (n := 21) rfl ?_
      refine j_ior C dX8_seenTwice_21 (n := 22) rfl ?_
      refine j_istore_n C dX8_seenTwice_22 (Nat.le_of_ble_eq_true rfl) (n := 23) rfl ?_
      refine j_iinc C dX8_seenTwice_23 rfl ic_1 (Nat.le_of_ble_eq_true rfl) (n := 26) rfl ?_
      refine j_goto C dX8_seenTwice_26 (n := 4) (by decide) ?_
      exact j_to (ih _ _) ⟨rfl, ⟨rfl, ⟨rfl, trivial⟩⟩⟩
set_option maxRecDepth 20000 in
theorem m_X8_seenTwice (l : Launch) (fu : Nat) (h : Hp) {r : Int32} (e : X8_seenTwice fu h = some r) : CT l yX8_seenTwice cX8_seenTwice 3 (some .int) 2 cwM (fun g => [rf g 0]) h (qI cwM r h) := by
  refine ct_of (QR := (fun r : Int32 => qI cwM r h)) (by decide +kernel) (fun g => ⟨rfl, Nat.le_of_ble_eq_true rfl⟩) e (fun x g hl C => ?_)
  unfold X8_seenTwice
  refine j_iconst C dX8_seenTwice_0 ic_0 (n := 1) rfl ?_
  refine j_istore_n C dX8_seenTwice_1 (Nat.le_of_ble_eq_true rfl) (n := 2) rfl ?_
  refine j_iconst C dX8_seenTwice_2 ic_0 (n := 3) rfl ?_
  refine j_istore_n C dX8_seenTwice_3 (Nat.le_of_ble_eq_true rfl) (n := 4) rfl ?_
  exact j_to (j_X8_seenTwice_4 C _ _ _ _ _) ⟨rfl, ⟨rfl, ⟨rfl, trivial⟩⟩⟩
-- X8_waits
set_option maxRecDepth 20000 in
theorem m_X8_waits (l : Launch) (fu : Nat) (x1 : Int32) (h : Hp) {r : Int32 × Hp} (e : X8_waits fu x1 h = some r) : CT l yX8_waits cX8_waits 2 (some .int) 4 cwM (fun g => [rf g 0, .int x1]) h (qI cwM r.1 r.2) := by
  refine ct_of (QR := (fun r : Int32 × Hp => qI cwM r.1 r.2)) (by decide +kernel) (fun g => ⟨rfl, Nat.le_of_ble_eq_true rfl⟩) e (fun x g hl C => ?_)
  unfold X8_waits
  refine j_iload_n C dX8_waits_0 rfl (n := 1) rfl ?_
  refine j_iconst C dX8_waits_1 ic_1 (n := 2) rfl ?_
  refine j_bipush C dX8_waits_2 bp_60 (n := 4) rfl ?_
  refine j_cz C (run_S C mi_X8_within lm_X8_68 st_X8_within ⟨Nat.le_of_ble_eq_true rfl, Nat.le_of_ble_eq_true rfl⟩ (m_X8_within _ _ _ _ _) rfl rfl rfl (Nat.le_of_ble_eq_true rfl) dX8_waits_4) (n := 7) rfl (fun b1 => ?_)
  refine j_if_ne C dX8_waits_7 (tgt := 17) (n := 10) (by decide) rfl (fun q2 => ?_) (fun q2 => ?_)
  · refine j_aload_n C dX8_waits_17 rfl (n := 18) rfl ?_
    refine gf_X8_9 C 0 (cM_0 g _) rfl dX8_waits_18 (n := 21) rfl ?_
    refine j_iconst C dX8_waits_21 ic_0 (n := 22) rfl ?_
    refine j_ialdL C 1 (cM_1 g _) ir_0_117 dX8_waits_22 (n := 23) rfl ?_
    refine j_iload_n C dX8_waits_23 rfl (n := 24) rfl ?_
    refine j_iadd C dX8_waits_24 (n := 25) rfl ?_
    refine j_sipush C dX8_waits_25 sp_9999 (n := 28) rfl ?_
    refine j_icmp_le C dX8_waits_28 (tgt := 38) (n := 31) (by decide) rfl (fun q3 => ?_) (fun q3 => ?_)
    · refine j_aload_n C dX8_waits_38 rfl (n := 39) rfl ?_
      refine j_iload_n C dX8_waits_39 rfl (n := 40) rfl ?_
      refine j_bnd (fun h5 q4 => ?_)
      refine j_cv C (run_V C mi_X8_minutes lm_X8_164 iv_X8_minutes ⟨Nat.le_of_ble_eq_true rfl, Nat.le_of_ble_eq_true rfl⟩ (m_X8_minutes _ _ _ _ q4) (cM_0 g _) rfl rfl rfl rfl (Nat.le_of_ble_eq_true rfl) dX8_waits_40) (n := 43) rfl ?_
      refine j_aload_n C dX8_waits_43 rfl (n := 44) rfl ?_
      refine j_bnd (fun r7 q6 => ?_)
      refine j_ci C (run_V C mi_X8_seenTwice lm_X8_172 iv_X8_seenTwice ⟨Nat.le_of_ble_eq_true rfl, Nat.le_of_ble_eq_true rfl⟩ (m_X8_seenTwice _ _ _ q6) (cM_0 g _) rfl rfl rfl rfl (Nat.le_of_ble_eq_true rfl) dX8_waits_44) (n := 47) rfl ?_
      refine j_bnd (fun r10 q9 => ?_)
      refine j_ci C (run_S C mi_X8_bits lm_X8_117 st_X8_bits ⟨Nat.le_of_ble_eq_true rfl, Nat.le_of_ble_eq_true rfl⟩ (m_X8_bits _ _ _ _ q9) rfl rfl rfl (Nat.le_of_ble_eq_true rfl) dX8_waits_47) (n := 50) rfl ?_
      exact j_retP C dX8_waits_50
    · refine j_aload_n C dX8_waits_31 rfl (n := 32) rfl ?_
      refine j_ldc C dX8_waits_32 kc_X8_150 (n := 34) rfl ?_
      refine j_bnd (fun r13 q12 => ?_)
      refine j_ci C (run_V C mi_X8_finding lm_X8_80 iv_X8_finding ⟨Nat.le_of_ble_eq_true rfl, Nat.le_of_ble_eq_true rfl⟩ (m_X8_finding _ _ _ q12) (cM_0 g _) rfl rfl rfl rfl (Nat.le_of_ble_eq_true rfl) dX8_waits_34) (n := 37) rfl ?_
      exact j_retP C dX8_waits_37
  · refine j_aload_n C dX8_waits_10 rfl (n := 11) rfl ?_
    refine j_ldc C dX8_waits_11 kc_X8_63 (n := 13) rfl ?_
    refine j_bnd (fun r16 q15 => ?_)
    refine j_ci C (run_V C mi_X8_finding lm_X8_80 iv_X8_finding ⟨Nat.le_of_ble_eq_true rfl, Nat.le_of_ble_eq_true rfl⟩ (m_X8_finding _ _ _ q15) (cM_0 g _) rfl rfl rfl rfl (Nat.le_of_ble_eq_true rfl) dX8_waits_13) (n := 16) rfl ?_
    exact j_retP C dX8_waits_16
-- X8_allThere
set_option maxRecDepth 20000 in
theorem j_X8_allThere_4 {x : Fx} {g : Gl} (C : Ok x g RX8 cX8_allThere 3 (some .int)) (fu : Nat) (h : Hp) : ∀ (n : Nat) (x1 : Int32) (x2 : Int32), J x g cwM 3 1 (fun r : Int32 => qI cwM r h) 4 [some (rf g 0), some (.int x1), some (.int x2)] [] h (X8_allThere_4 fu h n x1 x2) := by
  intro n
  induction n with
  | zero =>
    intro x1 x2
    rw [X8_allThere_4]
    exact j_none
  | succ n ih =>
    intro x1 x2
    rw [X8_allThere_4]
    refine j_iload_n C dX8_allThere_4 rfl (n := 5) rfl ?_
    refine j_aload_n C dX8_allThere_5 rfl (n := 6) rfl ?_
    refine gf_X8_9 C 0 (cM_0 g _) rfl dX8_allThere_6 (n := 9) rfl ?_
    refine j_iconst C dX8_allThere_9 ic_3 (n := 10) rfl ?_
    refine j_ialdL C 1 (cM_1 g _) ir_3_117 dX8_allThere_10 (n := 11) rfl ?_
    refine j_icmp_ge C dX8_allThere_11 (tgt := 38) (n := 14) (by decide) rfl (fun q1 => ?_) (fun q1 => ?_)
    · refine j_iload_n C dX8_allThere_38 rfl (n := 39) rfl ?_
      exact j_ret C dX8_allThere_39
    · refine j_iload_n C dX8_allThere_14 rfl (n := 15) rfl ?_
      refine j_aload_n C dX8_allThere_15 rfl (n := 16) rfl ?_
      refine j_iload_n C dX8_allThere_16 rfl (n := 17) rfl ?_
      refine j_bnd (fun r3 q2 => ?_)
      refine j_ci C (run_V C mi_X8_roomOf lm_X8_135 iv_X8_roomOf ⟨Nat.le_of_ble_eq_true rfl, Nat.le_of_ble_eq_true rfl⟩ (m_X8_roomOf _ _ _ q2) (cM_0 g _) rfl rfl rfl rfl (Nat.le_of_ble_eq_true rfl) dX8_allThere_17) (n := 20) rfl ?_
      refine j_if_lt C dX8_allThere_20 (tgt := 29) (n := 23) (by decide) rfl (fun q5 => ?_) (fun q5 => ?_)
      · refine j_iconst C dX8_allThere_29 ic_0 (n := 30) rfl ?_
        refine j_ior C dX8_allThere_30 (n := 31) rfl ?_
        refine j_istore_n C dX8_allThere_31 (Nat.le_of_ble_eq_true rfl) (n := 32) rfl ?_
        refine j_iinc C dX8_allThere_32 rfl ic_1 (Nat.le_of_ble_eq_true rfl) (n := 35) rfl ?_
        refine j_goto C dX8_allThere_35 (n := 4) (by decide) ?_
        exact j_to (ih _ _) ⟨rfl, ⟨rfl, ⟨rfl, trivial⟩⟩⟩
      · refine j_iconst C dX8_allThere_23 ic_1 (n := 24) rfl ?_
        refine j_iload_n C dX8_allThere_24 rfl (n := 25) rfl ?_
        refine j_ishl C dX8_allThere_25 (n := 26) rfl ?_
        refine j_goto C dX8_allThere_26 (n := 30) (by decide) ?_
        refine j_ior C dX8_allThere_30 (n := 31) rfl ?_
        refine j_istore_n C dX8_allThere_31 (Nat.le_of_ble_eq_true rfl) (n := 32) rfl ?_
        refine j_iinc C dX8_allThere_32 rfl ic_1 (Nat.le_of_ble_eq_true rfl) (n := 35) rfl ?_
        refine j_goto C dX8_allThere_35 (n := 4) (by decide) ?_
        exact j_to (ih _ _) ⟨rfl, ⟨rfl, ⟨rfl, trivial⟩⟩⟩
set_option maxRecDepth 20000 in
theorem m_X8_allThere (l : Launch) (fu : Nat) (h : Hp) {r : Int32} (e : X8_allThere fu h = some r) : CT l yX8_allThere cX8_allThere 3 (some .int) 1 cwM (fun g => [rf g 0]) h (qI cwM r h) := by
  refine ct_of (QR := (fun r : Int32 => qI cwM r h)) (by decide +kernel) (fun g => ⟨rfl, Nat.le_of_ble_eq_true rfl⟩) e (fun x g hl C => ?_)
  unfold X8_allThere
  refine j_iconst C dX8_allThere_0 ic_0 (n := 1) rfl ?_
  refine j_istore_n C dX8_allThere_1 (Nat.le_of_ble_eq_true rfl) (n := 2) rfl ?_
  refine j_iconst C dX8_allThere_2 ic_0 (n := 3) rfl ?_
  refine j_istore_n C dX8_allThere_3 (Nat.le_of_ble_eq_true rfl) (n := 4) rfl ?_
  exact j_to (j_X8_allThere_4 C _ _ _ _ _) ⟨rfl, ⟨rfl, ⟨rfl, trivial⟩⟩⟩
-- X8_now
set_option maxRecDepth 20000 in
theorem j_X8_now_56 {x : Fx} {g : Gl} (C : Ok x g RX8 cX8_now 4 (some .int)) (fu : Nat) : ∀ (n : Nat) (x2 : Int32) (x3 : Int32) (h : Hp), J x g cwM 4 4 (fun r : Int32 × Hp => qI cwM r.1 r.2) 56 [some (rf g 0), none, some (.int x2), some (.int x3)] [] h (X8_now_56 fu n x2 x3 h) := by
  intro n
  induction n with
  | zero =>
    intro x2 x3 h
    rw [X8_now_56]
    exact j_none
  | succ n ih =>
    intro x2 x3 h
    rw [X8_now_56]
    refine j_iload_n C dX8_now_56 rfl (n := 57) rfl ?_
    refine j_bipush C dX8_now_57 bp_6 (n := 59) rfl ?_
    refine j_icmp_ge C dX8_now_59 (tgt := 76) (n := 62) (by decide) rfl (fun q1 => ?_) (fun q1 => ?_)
    · refine j_iload_n C dX8_now_76 rfl (n := 77) rfl ?_
      exact j_retP C dX8_now_77
    · refine j_iload_n C dX8_now_62 rfl (n := 63) rfl ?_
      refine j_aload_n C dX8_now_63 rfl (n := 64) rfl ?_
      refine j_iload_n C dX8_now_64 rfl (n := 65) rfl ?_
      refine j_bnd (fun r3 q2 => ?_)
      refine j_ci C (run_V C mi_X8_likeness lm_X8_141 iv_X8_likeness ⟨Nat.le_of_ble_eq_true rfl, Nat.le_of_ble_eq_true rfl⟩ (m_X8_likeness _ _ _ _ q2) (cM_0 g _) rfl rfl rfl rfl (Nat.le_of_ble_eq_true rfl) dX8_now_65) (n := 68) rfl ?_
      refine j_iadd C dX8_now_68 (n := 69) rfl ?_
      refine j_istore_n C dX8_now_69 (Nat.le_of_ble_eq_true rfl) (n := 70) rfl ?_
      refine j_iinc C dX8_now_70 rfl ic_1 (Nat.le_of_ble_eq_true rfl) (n := 73) rfl ?_
      refine j_goto C dX8_now_73 (n := 56) (by decide) ?_
      exact j_to (ih _ _ _) ⟨rfl, ⟨rfl, ⟨rfl, trivial⟩⟩⟩
set_option maxRecDepth 20000 in
theorem m_X8_now (l : Launch) (fu : Nat) (x1 : Int32) (h : Hp) {r : Int32 × Hp} (e : X8_now fu x1 h = some r) : CT l yX8_now cX8_now 4 (some .int) 4 cwM (fun g => [rf g 0, .int x1]) h (qI cwM r.1 r.2) := by
  refine ct_of (QR := (fun r : Int32 × Hp => qI cwM r.1 r.2)) (by decide +kernel) (fun g => ⟨rfl, Nat.le_of_ble_eq_true rfl⟩) e (fun x g hl C => ?_)
  unfold X8_now
  refine j_iconst C dX8_now_0 ic_0 (n := 1) rfl ?_
  refine j_istore_n C dX8_now_1 (Nat.le_of_ble_eq_true rfl) (n := 2) rfl ?_
  refine j_iload_n C dX8_now_2 rfl (n := 3) rfl ?_
  refine j_split (fun q1 => ?_) (fun q1 => ?_)
  · refine j_tabIn C dX8_now_3 q1 (off := 37) (by decide) (n := 40) (by decide) ?_
    refine j_aload_n C dX8_now_40 rfl (n := 41) rfl ?_
    refine gf_X8_9 C 0 (cM_0 g _) rfl dX8_now_41 (n := 44) rfl ?_
    refine j_iconst C dX8_now_44 ic_0 (n := 45) rfl ?_
    refine j_ialdL C 1 (cM_1 g _) ir_0_117 dX8_now_45 (n := 46) rfl ?_
    exact j_retP C dX8_now_46
  · refine j_split (fun q2 => ?_) (fun q2 => ?_)
    · refine j_tabIn C dX8_now_3 q2 (off := 44) (by decide) (n := 47) (by decide) ?_
      refine j_aload_n C dX8_now_47 rfl (n := 48) rfl ?_
      refine gf_X8_9 C 0 (cM_0 g _) rfl dX8_now_48 (n := 51) rfl ?_
      refine j_iconst C dX8_now_51 ic_1 (n := 52) rfl ?_
      refine j_ialdL C 1 (cM_1 g _) ir_1_117 dX8_now_52 (n := 53) rfl ?_
      exact j_retP C dX8_now_53
    · refine j_split (fun q3 => ?_) (fun q3 => ?_)
      · refine j_tabIn C dX8_now_3 q3 (off := 51) (by decide) (n := 54) (by decide) ?_
        refine j_iconst C dX8_now_54 ic_0 (n := 55) rfl ?_
        refine j_istore_n C dX8_now_55 (Nat.le_of_ble_eq_true rfl) (n := 56) rfl ?_
        exact j_to (j_X8_now_56 C _ _ _ _ _) ⟨rfl, ⟨rfl, ⟨rfl, trivial⟩⟩⟩
      · refine j_split (fun q4 => ?_) (fun q4 => ?_)
        · refine j_tabIn C dX8_now_3 q4 (off := 75) (by decide) (n := 78) (by decide) ?_
          refine j_aload_n C dX8_now_78 rfl (n := 79) rfl ?_
          refine j_bnd (fun r6 q5 => ?_)
          refine j_ci C (run_V C mi_X8_allThere lm_X8_175 iv_X8_allThere ⟨Nat.le_of_ble_eq_true rfl, Nat.le_of_ble_eq_true rfl⟩ (m_X8_allThere _ _ _ q5) (cM_0 g _) rfl rfl rfl rfl (Nat.le_of_ble_eq_true rfl) dX8_now_79) (n := 82) rfl ?_
          exact j_retP C dX8_now_82
        · refine j_split (fun q8 => ?_) (fun q8 => ?_)
          · refine j_tabIn C dX8_now_3 q8 (off := 80) (by decide) (n := 83) (by decide) ?_
            refine j_aload_n C dX8_now_83 rfl (n := 84) rfl ?_
            refine j_iconst C dX8_now_84 ic_m1 (n := 85) rfl ?_
            refine j_bnd (fun r10 q9 => ?_)
            refine j_ci C (run_V C mi_X8_partsAt lm_X8_138 iv_X8_partsAt ⟨Nat.le_of_ble_eq_true rfl, Nat.le_of_ble_eq_true rfl⟩ (m_X8_partsAt _ _ _ _ q9) (cM_0 g _) rfl rfl rfl rfl (Nat.le_of_ble_eq_true rfl) dX8_now_85) (n := 88) rfl ?_
            exact j_retP C dX8_now_88
          · refine j_split (fun q12 => ?_) (fun q12 => ?_)
            · refine j_tabIn C dX8_now_3 q12 (off := 86) (by decide) (n := 89) (by decide) ?_
              refine j_aload_n C dX8_now_89 rfl (n := 90) rfl ?_
              refine j_bnd (fun r14 q13 => ?_)
              refine j_ci C (run_V C mi_X8_seenTwice lm_X8_172 iv_X8_seenTwice ⟨Nat.le_of_ble_eq_true rfl, Nat.le_of_ble_eq_true rfl⟩ (m_X8_seenTwice _ _ _ q13) (cM_0 g _) rfl rfl rfl rfl (Nat.le_of_ble_eq_true rfl) dX8_now_90) (n := 93) rfl ?_
              exact j_retP C dX8_now_93
            · refine j_tabOut C dX8_now_3 (tabout_0_5 q1 q2 q3 q4 q8 q12) (n := 94) (by decide) ?_
              refine j_aload_n C dX8_now_94 rfl (n := 95) rfl ?_
              refine j_ldc C dX8_now_95 kc_X8_63 (n := 97) rfl ?_
              refine j_bnd (fun r17 q16 => ?_)
              refine j_ci C (run_V C mi_X8_finding lm_X8_80 iv_X8_finding ⟨Nat.le_of_ble_eq_true rfl, Nat.le_of_ble_eq_true rfl⟩ (m_X8_finding _ _ _ q16) (cM_0 g _) rfl rfl rfl rfl (Nat.le_of_ble_eq_true rfl) dX8_now_97) (n := 100) rfl ?_
              exact j_retP C dX8_now_100
-- X8_above
set_option maxRecDepth 20000 in
theorem m_X8_above (l : Launch) (x0 : Int32) (h : Hp) : CT l yX8_above cX8_above 1 (some .int) 0 cwM (fun g => [.int x0]) h (qI cwM (X8_above x0) h) := by
  refine ct_of (QR := (fun r : Int32 => qI cwM r h)) (by decide +kernel) (fun g => ⟨rfl, Nat.le_of_ble_eq_true rfl⟩) (X8_above_e x0) (fun x g hl C => ?_)
  unfold X8_above_o
  refine j_iload_n C dX8_above_0 rfl (n := 1) rfl ?_
  refine j_if_ne C dX8_above_1 (tgt := 8) (n := 4) (by decide) rfl (fun q1 => ?_) (fun q1 => ?_)
  · refine j_iload_n C dX8_above_8 rfl (n := 9) rfl ?_
    refine j_iconst C dX8_above_9 ic_2 (n := 10) rfl ?_
    refine j_icmp_ne C dX8_above_10 (tgt := 17) (n := 13) (by decide) rfl (fun q2 => ?_) (fun q2 => ?_)
    · refine j_iload_n C dX8_above_17 rfl (n := 18) rfl ?_
      refine j_iconst C dX8_above_18 ic_3 (n := 19) rfl ?_
      refine j_icmp_ne C dX8_above_19 (tgt := 26) (n := 22) (by decide) rfl (fun q3 => ?_) (fun q3 => ?_)
      · refine j_iload_n C dX8_above_26 rfl (n := 27) rfl ?_
        refine j_bipush C dX8_above_27 bp_6 (n := 29) rfl ?_
        refine j_icmp_ne C dX8_above_29 (tgt := 36) (n := 32) (by decide) rfl (fun q4 => ?_) (fun q4 => ?_)
        · refine j_iconst C dX8_above_36 ic_0 (n := 37) rfl ?_
          exact j_ret C dX8_above_37
        · refine j_iconst C dX8_above_32 ic_5 (n := 33) rfl ?_
          refine j_goto C dX8_above_33 (n := 37) (by decide) ?_
          exact j_ret C dX8_above_37
      · refine j_iconst C dX8_above_22 ic_2 (n := 23) rfl ?_
        refine j_goto C dX8_above_23 (n := 37) (by decide) ?_
        exact j_ret C dX8_above_37
    · refine j_iconst C dX8_above_13 ic_1 (n := 14) rfl ?_
      refine j_goto C dX8_above_14 (n := 37) (by decide) ?_
      exact j_ret C dX8_above_37
  · refine j_iconst C dX8_above_4 ic_m1 (n := 5) rfl ?_
    refine j_goto C dX8_above_5 (n := 37) (by decide) ?_
    exact j_ret C dX8_above_37
-- X8_isUnder
set_option maxRecDepth 20000 in
theorem j_X8_isUnder_2 {x : Fx} {g : Gl} (C : Ok x g RX8 cX8_isUnder 3 (some .boolean)) (fu : Nat) (h : Hp) : ∀ (n : Nat) (x1 : Int32) (x2 : Int32), J x g cwM 3 1 (fun r : Int32 => qZ cwM r h) 2 [none, some (.int x1), some (.int x2)] [] h (X8_isUnder_2 fu n x1 x2) := by
  intro n
  induction n with
  | zero =>
    intro x1 x2
    rw [X8_isUnder_2]
    exact j_none
  | succ n ih =>
    intro x1 x2
    rw [X8_isUnder_2]
    refine j_iload_n C dX8_isUnder_2 rfl (n := 3) rfl ?_
    refine j_if_lt C dX8_isUnder_3 (tgt := 19) (n := 6) (by decide) rfl (fun q1 => ?_) (fun q1 => ?_)
    · refine j_iload_n C dX8_isUnder_19 rfl (n := 20) rfl ?_
      refine j_if_lt C dX8_isUnder_20 (tgt := 27) (n := 23) (by decide) rfl (fun q2 => ?_) (fun q2 => ?_)
      · refine j_iconst C dX8_isUnder_27 ic_0 (n := 28) rfl ?_
        exact j_retZ C (Or.inl rfl) dX8_isUnder_28
      · refine j_iconst C dX8_isUnder_23 ic_1 (n := 24) rfl ?_
        refine j_goto C dX8_isUnder_24 (n := 28) (by decide) ?_
        exact j_retZ C (Or.inr rfl) dX8_isUnder_28
    · refine j_iload_n C dX8_isUnder_6 rfl (n := 7) rfl ?_
      refine j_iload_n C dX8_isUnder_7 rfl (n := 8) rfl ?_
      refine j_icmp_eq C dX8_isUnder_8 (tgt := 19) (n := 11) (by decide) rfl (fun q3 => ?_) (fun q3 => ?_)
      · refine j_iload_n C dX8_isUnder_19 rfl (n := 20) rfl ?_
        refine j_if_lt C dX8_isUnder_20 (tgt := 27) (n := 23) (by decide) rfl (fun q4 => ?_) (fun q4 => ?_)
        · refine j_iconst C dX8_isUnder_27 ic_0 (n := 28) rfl ?_
          exact j_retZ C (Or.inl rfl) dX8_isUnder_28
        · refine j_iconst C dX8_isUnder_23 ic_1 (n := 24) rfl ?_
          refine j_goto C dX8_isUnder_24 (n := 28) (by decide) ?_
          exact j_retZ C (Or.inr rfl) dX8_isUnder_28
      · refine j_iload_n C dX8_isUnder_11 rfl (n := 12) rfl ?_
        refine j_ci C (run_S C mi_X8_above lm_X8_89 st_X8_above ⟨Nat.le_of_ble_eq_true rfl, Nat.le_of_ble_eq_true rfl⟩ (m_X8_above _ _ _) rfl rfl rfl (Nat.le_of_ble_eq_true rfl) dX8_isUnder_12) (n := 15) rfl ?_
        refine j_istore_n C dX8_isUnder_15 (Nat.le_of_ble_eq_true rfl) (n := 16) rfl ?_
        refine j_goto C dX8_isUnder_16 (n := 2) (by decide) ?_
        exact j_to (ih _ _) ⟨rfl, ⟨rfl, trivial⟩⟩
set_option maxRecDepth 20000 in
theorem m_X8_isUnder (l : Launch) (fu : Nat) (x0 : Int32) (x1 : Int32) (h : Hp) {r : Int32} (e : X8_isUnder fu x0 x1 = some r) : CT l yX8_isUnder cX8_isUnder 3 (some .boolean) 1 cwM (fun g => [.int x0, .int x1]) h (qZ cwM r h) := by
  refine ct_of (QR := (fun r : Int32 => qZ cwM r h)) (by decide +kernel) (fun g => ⟨rfl, Nat.le_of_ble_eq_true rfl⟩) e (fun x g hl C => ?_)
  unfold X8_isUnder
  refine j_iload_n C dX8_isUnder_0 rfl (n := 1) rfl ?_
  refine j_istore_n C dX8_isUnder_1 (Nat.le_of_ble_eq_true rfl) (n := 2) rfl ?_
  exact j_to (j_X8_isUnder_2 C _ _ _ _ _) ⟨rfl, ⟨rfl, trivial⟩⟩
-- X8_isHead
set_option maxRecDepth 20000 in
theorem m_X8_isHead (l : Launch) (fu : Nat) (x1 : Int32) (h : Hp) {r : Int32} (e : X8_isHead fu x1 h = some r) : CT l yX8_isHead cX8_isHead 2 (some .boolean) 2 cwM (fun g => [rf g 0, .int x1]) h (qZ cwM r h) := by
  refine ct_of (QR := (fun r : Int32 => qZ cwM r h)) (by decide +kernel) (fun g => ⟨rfl, Nat.le_of_ble_eq_true rfl⟩) e (fun x g hl C => ?_)
  unfold X8_isHead
  refine j_aload_n C dX8_isHead_0 rfl (n := 1) rfl ?_
  refine j_iload_n C dX8_isHead_1 rfl (n := 2) rfl ?_
  refine j_iconst C dX8_isHead_2 ic_0 (n := 3) rfl ?_
  refine j_bnd (fun r2 q1 => ?_)
  refine j_ci C (run_V C mi_X8_partIs lm_X8_92 iv_X8_partIs ⟨Nat.le_of_ble_eq_true rfl, Nat.le_of_ble_eq_true rfl⟩ (m_X8_partIs _ _ _ _ q1) (cM_0 g _) rfl rfl rfl rfl (Nat.le_of_ble_eq_true rfl) dX8_isHead_3) (n := 6) rfl ?_
  refine j_iconst C dX8_isHead_6 ic_1 (n := 7) rfl ?_
  refine j_bnd (fun r5 q4 => ?_)
  refine j_cz C (run_S C mi_X8_isUnder lm_X8_95 st_X8_isUnder ⟨Nat.le_of_ble_eq_true rfl, Nat.le_of_ble_eq_true rfl⟩ (m_X8_isUnder _ _ _ _ _ q4) rfl rfl rfl (Nat.le_of_ble_eq_true rfl) dX8_isHead_7) (n := 10) rfl (fun b6 => ?_)
  exact j_retZ C b6 dX8_isHead_10
-- X8_noHeads
set_option maxRecDepth 20000 in
theorem j_X8_noHeads_4 {x : Fx} {g : Gl} (C : Ok x g RX8 cX8_noHeads 3 (some .int)) (fu : Nat) (h : Hp) : ∀ (n : Nat) (x1 : Int32) (x2 : Int32), J x g cwM 3 3 (fun r : Int32 => qI cwM r h) 4 [some (rf g 0), some (.int x1), some (.int x2)] [] h (X8_noHeads_4 fu h n x1 x2) := by
  intro n
  induction n with
  | zero =>
    intro x1 x2
    rw [X8_noHeads_4]
    exact j_none
  | succ n ih =>
    intro x1 x2
    rw [X8_noHeads_4]
    refine j_iload_n C dX8_noHeads_4 rfl (n := 5) rfl ?_
    refine j_bipush C dX8_noHeads_5 bp_10 (n := 7) rfl ?_
    refine j_icmp_ge C dX8_noHeads_7 (tgt := 44) (n := 10) (by decide) rfl (fun q1 => ?_) (fun q1 => ?_)
    · refine j_iload_n C dX8_noHeads_44 rfl (n := 45) rfl ?_
      exact j_ret C dX8_noHeads_45
    · refine j_iload_n C dX8_noHeads_10 rfl (n := 11) rfl ?_
      refine j_iload_n C dX8_noHeads_11 rfl (n := 12) rfl ?_
      refine j_aload_n C dX8_noHeads_12 rfl (n := 13) rfl ?_
      refine gf_X8_9 C 0 (cM_0 g _) rfl dX8_noHeads_13 (n := 16) rfl ?_
      refine j_iconst C dX8_noHeads_16 ic_2 (n := 17) rfl ?_
      refine j_ialdL C 1 (cM_1 g _) ir_2_117 dX8_noHeads_17 (n := 18) rfl ?_
      refine j_icmp_ge C dX8_noHeads_18 (tgt := 33) (n := 21) (by decide) rfl (fun q2 => ?_) (fun q2 => ?_)
      · refine j_iconst C dX8_noHeads_33 ic_1 (n := 34) rfl ?_
        refine j_iload_n C dX8_noHeads_34 rfl (n := 35) rfl ?_
        refine j_ishl C dX8_noHeads_35 (n := 36) rfl ?_
        refine j_ior C dX8_noHeads_36 (n := 37) rfl ?_
        refine j_istore_n C dX8_noHeads_37 (Nat.le_of_ble_eq_true rfl) (n := 38) rfl ?_
        refine j_iinc C dX8_noHeads_38 rfl ic_1 (Nat.le_of_ble_eq_true rfl) (n := 41) rfl ?_
        refine j_goto C dX8_noHeads_41 (n := 4) (by decide) ?_
        exact j_to (ih _ _) ⟨rfl, ⟨rfl, ⟨rfl, trivial⟩⟩⟩
      · refine j_aload_n C dX8_noHeads_21 rfl (n := 22) rfl ?_
        refine j_iload_n C dX8_noHeads_22 rfl (n := 23) rfl ?_
        refine j_bnd (fun r4 q3 => ?_)
        refine j_cz C (run_V C mi_X8_isHead lm_X8_182 iv_X8_isHead ⟨Nat.le_of_ble_eq_true rfl, Nat.le_of_ble_eq_true rfl⟩ (m_X8_isHead _ _ _ _ q3) (cM_0 g _) rfl rfl rfl rfl (Nat.le_of_ble_eq_true rfl) dX8_noHeads_23) (n := 26) rfl (fun b5 => ?_)
        refine j_if_eq C dX8_noHeads_26 (tgt := 33) (n := 29) (by decide) rfl (fun q6 => ?_) (fun q6 => ?_)
        · refine j_iconst C dX8_noHeads_33 ic_1 (n := 34) rfl ?_
          refine j_iload_n C dX8_noHeads_34 rfl (n := 35) rfl ?_
          refine j_ishl C dX8_noHeads_35 (n := 36) rfl ?_
          refine j_ior C dX8_noHeads_36 (n := 37) rfl ?_
          refine j_istore_n C dX8_noHeads_37 (Nat.le_of_ble_eq_true rfl) (n := 38) rfl ?_
          refine j_iinc C dX8_noHeads_38 rfl ic_1 (Nat.le_of_ble_eq_true rfl) (n := 41) rfl ?_
          refine j_goto C dX8_noHeads_41 (n := 4) (by decide) ?_
          exact j_to (ih _ _) ⟨rfl, ⟨rfl, ⟨rfl, trivial⟩⟩⟩
        · refine j_iconst C dX8_noHeads_29 ic_0 (n := 30) rfl ?_
          refine j_goto C dX8_noHeads_30 (n := 36) (by decide) ?_
          refine j_ior C dX8_noHeads_36 (n := 37) rfl ?_
          refine j_istore_n C dX8_noHeads_37 (Nat.le_of_ble_eq_true rfl) (n := 38) rfl ?_
          refine j_iinc C dX8_noHeads_38 rfl ic_1 (Nat.le_of_ble_eq_true rfl) (n := 41) rfl ?_
          refine j_goto C dX8_noHeads_41 (n := 4) (by decide) ?_
          exact j_to (ih _ _) ⟨rfl, ⟨rfl, ⟨rfl, trivial⟩⟩⟩
set_option maxRecDepth 20000 in
theorem m_X8_noHeads (l : Launch) (fu : Nat) (h : Hp) {r : Int32} (e : X8_noHeads fu h = some r) : CT l yX8_noHeads cX8_noHeads 3 (some .int) 3 cwM (fun g => [rf g 0]) h (qI cwM r h) := by
  refine ct_of (QR := (fun r : Int32 => qI cwM r h)) (by decide +kernel) (fun g => ⟨rfl, Nat.le_of_ble_eq_true rfl⟩) e (fun x g hl C => ?_)
  unfold X8_noHeads
  refine j_iconst C dX8_noHeads_0 ic_0 (n := 1) rfl ?_
  refine j_istore_n C dX8_noHeads_1 (Nat.le_of_ble_eq_true rfl) (n := 2) rfl ?_
  refine j_iconst C dX8_noHeads_2 ic_0 (n := 3) rfl ?_
  refine j_istore_n C dX8_noHeads_3 (Nat.le_of_ble_eq_true rfl) (n := 4) rfl ?_
  exact j_to (j_X8_noHeads_4 C _ _ _ _ _) ⟨rfl, ⟨rfl, ⟨rfl, trivial⟩⟩⟩
-- X8_worthAt
set_option maxRecDepth 20000 in
theorem m_X8_worthAt (l : Launch) (x1 : Int32) (x2 : Int32) (h : Hp) {r : Int32} (e : X8_worthAt x1 x2 h = some r) : CT l yX8_worthAt cX8_worthAt 3 (some .int) 0 cwM (fun g => [rf g 0, .int x1, .int x2]) h (qI cwM r h) := by
  refine ct_of (QR := (fun r : Int32 => qI cwM r h)) (by decide +kernel) (fun g => ⟨rfl, Nat.le_of_ble_eq_true rfl⟩) e (fun x g hl C => ?_)
  unfold X8_worthAt
  refine j_aload_n C dX8_worthAt_0 rfl (n := 1) rfl ?_
  refine gf_X8_22 C 0 (cM_0 g _) rfl dX8_worthAt_1 (n := 4) rfl ?_
  refine j_iload_n C dX8_worthAt_4 rfl (n := 5) rfl ?_
  refine j_bipush C dX8_worthAt_5 bp_10 (n := 7) rfl ?_
  refine j_ishl C dX8_worthAt_7 (n := 8) rfl ?_
  refine j_iload_n C dX8_worthAt_8 rfl (n := 9) rfl ?_
  refine j_iadd C dX8_worthAt_9 (n := 10) rfl ?_
  refine j_iald C 5 (cM_5 g _) dX8_worthAt_10 (n := 11) rfl ?_
  exact j_ret C dX8_worthAt_11
