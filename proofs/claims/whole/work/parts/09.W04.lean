-- X7_isSpot
set_option maxRecDepth 20000 in
theorem m_X7_isSpot (l : Launch) (x0 : Int32) (h : Hp) : CT l yX7_isSpot cX7_isSpot 1 (some .boolean) 1 cwX (fun g => [.int x0]) h (qZ cwX (X7_isSpot x0) h) := by
  refine ct_of (QR := (fun r : Int32 => qZ cwX r h)) (by decide +kernel) (fun g => ⟨rfl, Nat.le_of_ble_eq_true rfl⟩) (X7_isSpot_e x0) (fun x g hl C => ?_)
  unfold X7_isSpot_o
  refine j_iload_n C dX7_isSpot_0 rfl (n := 1) rfl ?_
  refine j_iconst C dX7_isSpot_1 ic_0 (n := 2) rfl ?_
  refine j_bipush C dX7_isSpot_2 bp_9 (n := 4) rfl ?_
  refine j_cz C (run_S C mi_X7_within lm_X7_94 st_X7_within ⟨Nat.le_of_ble_eq_true rfl, Nat.le_of_ble_eq_true rfl⟩ (m_X7_within _ _ _ _ _) rfl rfl rfl (Nat.le_of_ble_eq_true rfl) dX7_isSpot_4) (n := 7) rfl (fun b1 => ?_)
  exact j_retZ C b1 dX7_isSpot_7
-- X7_hold
set_option maxRecDepth 20000 in
theorem m_X7_hold (l : Launch) (x1 : Int32) (x2 : Int32) (h : Hp) {r : Int32 × Hp} (e : X7_hold x1 x2 h = some r) : CT l yX7_hold cX7_hold 3 (some .int) 2 cwX (fun g => [rf g 0, .int x1, .int x2]) h (qI cwX r.1 r.2) := by
  refine ct_of (QR := (fun r : Int32 × Hp => qI cwX r.1 r.2)) (by decide +kernel) (fun g => ⟨rfl, Nat.le_of_ble_eq_true rfl⟩) e (fun x g hl C => ?_)
  unfold X7_hold
  refine j_iload_n C dX7_hold_0 rfl (n := 1) rfl ?_
  refine j_cz C (run_S C mi_X7_isSpot lm_X7_271 st_X7_isSpot ⟨Nat.le_of_ble_eq_true rfl, Nat.le_of_ble_eq_true rfl⟩ (m_X7_isSpot _ _ _) rfl rfl rfl (Nat.le_of_ble_eq_true rfl) dX7_hold_1) (n := 4) rfl (fun b1 => ?_)
  refine j_if_eq C dX7_hold_4 (tgt := 23) (n := 7) (by decide) rfl (fun q2 => ?_) (fun q2 => ?_)
  · refine j_aload_n C dX7_hold_23 rfl (n := 24) rfl ?_
    refine j_ldc C dX7_hold_24 kc_X7_67 (n := 26) rfl ?_
    refine j_bnd (fun r4 q3 => ?_)
    refine j_ci C (run_V C mi_X7_finding lm_X7_68 iv_X7_finding ⟨Nat.le_of_ble_eq_true rfl, Nat.le_of_ble_eq_true rfl⟩ (m_X7_finding _ _ _ q3) (cX_0 g _) rfl rfl rfl rfl (Nat.le_of_ble_eq_true rfl) dX7_hold_26) (n := 29) rfl ?_
    exact j_retP C dX7_hold_29
  · refine j_aload_n C dX7_hold_7 rfl (n := 8) rfl ?_
    refine gf_X7_12 C 0 (cX_0 g _) rfl dX7_hold_8 (n := 11) rfl ?_
    refine j_iload_n C dX7_hold_11 rfl (n := 12) rfl ?_
    refine j_cz C (run_V C mi_X1_hasPart lm_X7_85 iv_X1_hasPart ⟨Nat.le_of_ble_eq_true rfl, Nat.le_of_ble_eq_true rfl⟩ (m_X1_hasPart _ _ _) (cX_1 g _) rfl rfl rfl rfl (Nat.le_of_ble_eq_true rfl) dX7_hold_12) (n := 15) rfl (fun b6 => ?_)
    refine j_if_ne C dX7_hold_15 (tgt := 30) (n := 18) (by decide) rfl (fun q7 => ?_) (fun q7 => ?_)
    · refine j_aload_n C dX7_hold_30 rfl (n := 31) rfl ?_
      refine gf_X7_12 C 0 (cX_0 g _) rfl dX7_hold_31 (n := 34) rfl ?_
      refine gf_X7_274 C 1 (cX_1 g _) rfl dX7_hold_34 (n := 37) rfl ?_
      refine j_iload_n C dX7_hold_37 rfl (n := 38) rfl ?_
      refine j_iload_n C dX7_hold_38 rfl (n := 39) rfl ?_
      refine j_iast C 11 (cX_11 g _) (aX_11 g _ _ _) dX7_hold_39 (n := 40) rfl ?_
      refine j_iconst C dX7_hold_40 ic_1 (n := 41) rfl ?_
      exact j_retP C dX7_hold_41
    · refine j_iload_n C dX7_hold_18 rfl (n := 19) rfl ?_
      refine j_iconst C dX7_hold_19 ic_m1 (n := 20) rfl ?_
      refine j_icmp_eq C dX7_hold_20 (tgt := 30) (n := 23) (by decide) rfl (fun q8 => ?_) (fun q8 => ?_)
      · refine j_aload_n C dX7_hold_30 rfl (n := 31) rfl ?_
        refine gf_X7_12 C 0 (cX_0 g _) rfl dX7_hold_31 (n := 34) rfl ?_
        refine gf_X7_274 C 1 (cX_1 g _) rfl dX7_hold_34 (n := 37) rfl ?_
        refine j_iload_n C dX7_hold_37 rfl (n := 38) rfl ?_
        refine j_iload_n C dX7_hold_38 rfl (n := 39) rfl ?_
        refine j_iast C 11 (cX_11 g _) (aX_11 g _ _ _) dX7_hold_39 (n := 40) rfl ?_
        refine j_iconst C dX7_hold_40 ic_1 (n := 41) rfl ?_
        exact j_retP C dX7_hold_41
      · refine j_aload_n C dX7_hold_23 rfl (n := 24) rfl ?_
        refine j_ldc C dX7_hold_24 kc_X7_67 (n := 26) rfl ?_
        refine j_bnd (fun r10 q9 => ?_)
        refine j_ci C (run_V C mi_X7_finding lm_X7_68 iv_X7_finding ⟨Nat.le_of_ble_eq_true rfl, Nat.le_of_ble_eq_true rfl⟩ (m_X7_finding _ _ _ q9) (cX_0 g _) rfl rfl rfl rfl (Nat.le_of_ble_eq_true rfl) dX7_hold_26) (n := 29) rfl ?_
        exact j_retP C dX7_hold_29
-- X7_as
set_option maxRecDepth 20000 in
theorem m_X7_as (l : Launch) (fu : Nat) (x1 : Int32) (x2 : Int32) (h : Hp) {r : Int32 × Hp} (e : X7_as fu x1 x2 h = some r) : CT l yX7_as cX7_as 4 (some .int) 2 cwX (fun g => [rf g 0, .int x1, .int x2]) h (qI cwX r.1 r.2) := by
  refine ct_of (QR := (fun r : Int32 × Hp => qI cwX r.1 r.2)) (by decide +kernel) (fun g => ⟨rfl, Nat.le_of_ble_eq_true rfl⟩) e (fun x g hl C => ?_)
  unfold X7_as
  refine j_iload_n C dX7_as_0 rfl (n := 1) rfl ?_
  refine j_cz C (run_S C mi_X7_isSpot lm_X7_271 st_X7_isSpot ⟨Nat.le_of_ble_eq_true rfl, Nat.le_of_ble_eq_true rfl⟩ (m_X7_isSpot _ _ _) rfl rfl rfl (Nat.le_of_ble_eq_true rfl) dX7_as_1) (n := 4) rfl (fun b1 => ?_)
  refine j_if_eq C dX7_as_4 (tgt := 14) (n := 7) (by decide) rfl (fun q2 => ?_) (fun q2 => ?_)
  · refine j_aload_n C dX7_as_14 rfl (n := 15) rfl ?_
    refine j_ldc C dX7_as_15 kc_X7_67 (n := 17) rfl ?_
    refine j_bnd (fun r4 q3 => ?_)
    refine j_ci C (run_V C mi_X7_finding lm_X7_68 iv_X7_finding ⟨Nat.le_of_ble_eq_true rfl, Nat.le_of_ble_eq_true rfl⟩ (m_X7_finding _ _ _ q3) (cX_0 g _) rfl rfl rfl rfl (Nat.le_of_ble_eq_true rfl) dX7_as_17) (n := 20) rfl ?_
    exact j_retP C dX7_as_20
  · refine j_iload_n C dX7_as_7 rfl (n := 8) rfl ?_
    refine j_cz C (run_S C mi_X7_isKind lm_X7_63 st_X7_isKind ⟨Nat.le_of_ble_eq_true rfl, Nat.le_of_ble_eq_true rfl⟩ (m_X7_isKind _ _ _) rfl rfl rfl (Nat.le_of_ble_eq_true rfl) dX7_as_8) (n := 11) rfl (fun b6 => ?_)
    refine j_if_ne C dX7_as_11 (tgt := 21) (n := 14) (by decide) rfl (fun q7 => ?_) (fun q7 => ?_)
    · refine j_aload_n C dX7_as_21 rfl (n := 22) rfl ?_
      refine gf_X7_12 C 0 (cX_0 g _) rfl dX7_as_22 (n := 25) rfl ?_
      refine gf_X7_274 C 1 (cX_1 g _) rfl dX7_as_25 (n := 28) rfl ?_
      refine j_iload_n C dX7_as_28 rfl (n := 29) rfl ?_
      refine j_iald C 11 (cX_11 g _) dX7_as_29 (n := 30) rfl ?_
      refine j_istore_n C dX7_as_30 (Nat.le_of_ble_eq_true rfl) (n := 31) rfl ?_
      refine j_aload_n C dX7_as_31 rfl (n := 32) rfl ?_
      refine gf_X7_12 C 0 (cX_0 g _) rfl dX7_as_32 (n := 35) rfl ?_
      refine j_iload_n C dX7_as_35 rfl (n := 36) rfl ?_
      refine j_cz C (run_V C mi_X1_hasPart lm_X7_85 iv_X1_hasPart ⟨Nat.le_of_ble_eq_true rfl, Nat.le_of_ble_eq_true rfl⟩ (m_X1_hasPart _ _ _) (cX_1 g _) rfl rfl rfl rfl (Nat.le_of_ble_eq_true rfl) dX7_as_36) (n := 39) rfl (fun b8 => ?_)
      refine j_if_ne C dX7_as_39 (tgt := 49) (n := 42) (by decide) rfl (fun q9 => ?_) (fun q9 => ?_)
      · refine j_aload_n C dX7_as_49 rfl (n := 50) rfl ?_
        refine gf_X7_12 C 0 (cX_0 g _) rfl dX7_as_50 (n := 53) rfl ?_
        refine gf_X7_277 C 1 (cX_1 g _) rfl dX7_as_53 (n := 56) rfl ?_
        refine j_iload_n C dX7_as_56 rfl (n := 57) rfl ?_
        refine j_iald C 2 (cX_2 g _) dX7_as_57 (n := 58) rfl ?_
        refine j_iload_n C dX7_as_58 rfl (n := 59) rfl ?_
        refine j_bnd (fun r11 q10 => ?_)
        refine j_cz C (run_S C mi_X2_isUnder lm_X7_280 st_X2_isUnder ⟨Nat.le_of_ble_eq_true rfl, Nat.le_of_ble_eq_true rfl⟩ (m_X2_isUnder _ _ _ _ _ q10) rfl rfl rfl (Nat.le_of_ble_eq_true rfl) dX7_as_59) (n := 62) rfl (fun b12 => ?_)
        refine j_if_ne C dX7_as_62 (tgt := 72) (n := 65) (by decide) rfl (fun q13 => ?_) (fun q13 => ?_)
        · refine j_iload_n C dX7_as_72 rfl (n := 73) rfl ?_
          exact j_retP C dX7_as_73
        · refine j_aload_n C dX7_as_65 rfl (n := 66) rfl ?_
          refine j_ldc C dX7_as_66 kc_X7_201 (n := 68) rfl ?_
          refine j_bnd (fun r15 q14 => ?_)
          refine j_ci C (run_V C mi_X7_finding lm_X7_68 iv_X7_finding ⟨Nat.le_of_ble_eq_true rfl, Nat.le_of_ble_eq_true rfl⟩ (m_X7_finding _ _ _ q14) (cX_0 g _) rfl rfl rfl rfl (Nat.le_of_ble_eq_true rfl) dX7_as_68) (n := 71) rfl ?_
          exact j_retP C dX7_as_71
      · refine j_aload_n C dX7_as_42 rfl (n := 43) rfl ?_
        refine j_ldc C dX7_as_43 kc_X7_236 (n := 45) rfl ?_
        refine j_bnd (fun r18 q17 => ?_)
        refine j_ci C (run_V C mi_X7_finding lm_X7_68 iv_X7_finding ⟨Nat.le_of_ble_eq_true rfl, Nat.le_of_ble_eq_true rfl⟩ (m_X7_finding _ _ _ q17) (cX_0 g _) rfl rfl rfl rfl (Nat.le_of_ble_eq_true rfl) dX7_as_45) (n := 48) rfl ?_
        exact j_retP C dX7_as_48
    · refine j_aload_n C dX7_as_14 rfl (n := 15) rfl ?_
      refine j_ldc C dX7_as_15 kc_X7_67 (n := 17) rfl ?_
      refine j_bnd (fun r21 q20 => ?_)
      refine j_ci C (run_V C mi_X7_finding lm_X7_68 iv_X7_finding ⟨Nat.le_of_ble_eq_true rfl, Nat.le_of_ble_eq_true rfl⟩ (m_X7_finding _ _ _ q20) (cX_0 g _) rfl rfl rfl rfl (Nat.le_of_ble_eq_true rfl) dX7_as_17) (n := 20) rfl ?_
      exact j_retP C dX7_as_20
-- X4_begin
set_option maxRecDepth 20000 in
theorem m_X4_begin_47 (l : Launch) (fu : Nat) (x1 : Int32) (x2 : Int32) (h : Hp) {r : Hp} (e : X4_begin fu 47 x1 x2 h = some r) : CT l yX4_begin cX4_begin 3 none 1 cwX (fun g => [rf g 47, .int x1, .int x2]) h (qV cwX r) := by
  refine ct_of (QR := (fun r : Hp => qV cwX r)) (by decide +kernel) (fun g => ⟨rfl, Nat.le_of_ble_eq_true rfl⟩) e (fun x g hl C => ?_)
  unfold X4_begin
  refine j_aload_n C dX4_begin_0 rfl (n := 1) rfl ?_
  refine gf_X4_9 C 47 (cX_47 g _) rfl dX4_begin_1 (n := 4) rfl ?_
  refine j_iconst C dX4_begin_4 ic_0 (n := 5) rfl ?_
  refine j_bnd (fun h2 q1 => ?_)
  refine j_cv C (run_S C mi_J7_fill_53178 lm_X4_19 st_J7_fill_53178 ⟨Nat.le_of_ble_eq_true rfl, Nat.le_of_ble_eq_true rfl⟩ (m_J7_fill_53178_48 _ _ _ _ q1) rfl rfl rfl (Nat.le_of_ble_eq_true rfl) dX4_begin_5) (n := 8) rfl ?_
  refine j_aload_n C dX4_begin_8 rfl (n := 9) rfl ?_
  refine j_iload_n C dX4_begin_9 rfl (n := 10) rfl ?_
  refine pf_X4_15 C 47 (cX_47 g _) (sX_47_1 g _ _) rfl dX4_begin_10 (n := 13) rfl ?_
  refine j_aload_n C dX4_begin_13 rfl (n := 14) rfl ?_
  refine j_iload_n C dX4_begin_14 rfl (n := 15) rfl ?_
  refine j_if_ne C dX4_begin_15 (tgt := 22) (n := 18) (by decide) rfl (fun q3 => ?_) (fun q3 => ?_)
  · refine j_iload_n C dX4_begin_22 rfl (n := 23) rfl ?_
    refine pf_X4_25 C 47 (cX_47 g _) (sX_47_2 g _ _) rfl dX4_begin_23 (n := 26) rfl ?_
    exact j_retV C dX4_begin_26
  · refine j_iconst C dX4_begin_18 ic_0 (n := 19) rfl ?_
    refine j_goto C dX4_begin_19 (n := 23) (by decide) ?_
    refine pf_X4_25 C 47 (cX_47 g _) (sX_47_2 g _ _) rfl dX4_begin_23 (n := 26) rfl ?_
    exact j_retV C dX4_begin_26
-- X4_begin
set_option maxRecDepth 20000 in
theorem m_X4_begin_49 (l : Launch) (fu : Nat) (x1 : Int32) (x2 : Int32) (h : Hp) {r : Hp} (e : X4_begin fu 49 x1 x2 h = some r) : CT l yX4_begin cX4_begin 3 none 1 cwX (fun g => [rf g 49, .int x1, .int x2]) h (qV cwX r) := by
  refine ct_of (QR := (fun r : Hp => qV cwX r)) (by decide +kernel) (fun g => ⟨rfl, Nat.le_of_ble_eq_true rfl⟩) e (fun x g hl C => ?_)
  unfold X4_begin
  refine j_aload_n C dX4_begin_0 rfl (n := 1) rfl ?_
  refine gf_X4_9 C 49 (cX_49 g _) rfl dX4_begin_1 (n := 4) rfl ?_
  refine j_iconst C dX4_begin_4 ic_0 (n := 5) rfl ?_
  refine j_bnd (fun h2 q1 => ?_)
  refine j_cv C (run_S C mi_J7_fill_53178 lm_X4_19 st_J7_fill_53178 ⟨Nat.le_of_ble_eq_true rfl, Nat.le_of_ble_eq_true rfl⟩ (m_J7_fill_53178_50 _ _ _ _ q1) rfl rfl rfl (Nat.le_of_ble_eq_true rfl) dX4_begin_5) (n := 8) rfl ?_
  refine j_aload_n C dX4_begin_8 rfl (n := 9) rfl ?_
  refine j_iload_n C dX4_begin_9 rfl (n := 10) rfl ?_
  refine pf_X4_15 C 49 (cX_49 g _) (sX_49_1 g _ _) rfl dX4_begin_10 (n := 13) rfl ?_
  refine j_aload_n C dX4_begin_13 rfl (n := 14) rfl ?_
  refine j_iload_n C dX4_begin_14 rfl (n := 15) rfl ?_
  refine j_if_ne C dX4_begin_15 (tgt := 22) (n := 18) (by decide) rfl (fun q3 => ?_) (fun q3 => ?_)
  · refine j_iload_n C dX4_begin_22 rfl (n := 23) rfl ?_
    refine pf_X4_25 C 49 (cX_49 g _) (sX_49_2 g _ _) rfl dX4_begin_23 (n := 26) rfl ?_
    exact j_retV C dX4_begin_26
  · refine j_iconst C dX4_begin_18 ic_0 (n := 19) rfl ?_
    refine j_goto C dX4_begin_19 (n := 23) (by decide) ?_
    refine pf_X4_25 C 49 (cX_49 g _) (sX_49_2 g _ _) rfl dX4_begin_23 (n := 26) rfl ?_
    exact j_retV C dX4_begin_26
-- X4_begin
set_option maxRecDepth 20000 in
theorem m_X4_begin_51 (l : Launch) (fu : Nat) (x1 : Int32) (x2 : Int32) (h : Hp) {r : Hp} (e : X4_begin fu 51 x1 x2 h = some r) : CT l yX4_begin cX4_begin 3 none 1 cwX (fun g => [rf g 51, .int x1, .int x2]) h (qV cwX r) := by
  refine ct_of (QR := (fun r : Hp => qV cwX r)) (by decide +kernel) (fun g => ⟨rfl, Nat.le_of_ble_eq_true rfl⟩) e (fun x g hl C => ?_)
  unfold X4_begin
  refine j_aload_n C dX4_begin_0 rfl (n := 1) rfl ?_
  refine gf_X4_9 C 51 (cX_51 g _) rfl dX4_begin_1 (n := 4) rfl ?_
  refine j_iconst C dX4_begin_4 ic_0 (n := 5) rfl ?_
  refine j_bnd (fun h2 q1 => ?_)
  refine j_cv C (run_S C mi_J7_fill_53178 lm_X4_19 st_J7_fill_53178 ⟨Nat.le_of_ble_eq_true rfl, Nat.le_of_ble_eq_true rfl⟩ (m_J7_fill_53178_52 _ _ _ _ q1) rfl rfl rfl (Nat.le_of_ble_eq_true rfl) dX4_begin_5) (n := 8) rfl ?_
  refine j_aload_n C dX4_begin_8 rfl (n := 9) rfl ?_
  refine j_iload_n C dX4_begin_9 rfl (n := 10) rfl ?_
  refine pf_X4_15 C 51 (cX_51 g _) (sX_51_1 g _ _) rfl dX4_begin_10 (n := 13) rfl ?_
  refine j_aload_n C dX4_begin_13 rfl (n := 14) rfl ?_
  refine j_iload_n C dX4_begin_14 rfl (n := 15) rfl ?_
  refine j_if_ne C dX4_begin_15 (tgt := 22) (n := 18) (by decide) rfl (fun q3 => ?_) (fun q3 => ?_)
  · refine j_iload_n C dX4_begin_22 rfl (n := 23) rfl ?_
    refine pf_X4_25 C 51 (cX_51 g _) (sX_51_2 g _ _) rfl dX4_begin_23 (n := 26) rfl ?_
    exact j_retV C dX4_begin_26
  · refine j_iconst C dX4_begin_18 ic_0 (n := 19) rfl ?_
    refine j_goto C dX4_begin_19 (n := 23) (by decide) ?_
    refine pf_X4_25 C 51 (cX_51 g _) (sX_51_2 g _ _) rfl dX4_begin_23 (n := 26) rfl ?_
    exact j_retV C dX4_begin_26
-- X4_begin
set_option maxRecDepth 20000 in
theorem m_X4_begin_53 (l : Launch) (fu : Nat) (x1 : Int32) (x2 : Int32) (h : Hp) {r : Hp} (e : X4_begin fu 53 x1 x2 h = some r) : CT l yX4_begin cX4_begin 3 none 1 cwX (fun g => [rf g 53, .int x1, .int x2]) h (qV cwX r) := by
  refine ct_of (QR := (fun r : Hp => qV cwX r)) (by decide +kernel) (fun g => ⟨rfl, Nat.le_of_ble_eq_true rfl⟩) e (fun x g hl C => ?_)
  unfold X4_begin
  refine j_aload_n C dX4_begin_0 rfl (n := 1) rfl ?_
  refine gf_X4_9 C 53 (cX_53 g _) rfl dX4_begin_1 (n := 4) rfl ?_
  refine j_iconst C dX4_begin_4 ic_0 (n := 5) rfl ?_
  refine j_bnd (fun h2 q1 => ?_)
  refine j_cv C (run_S C mi_J7_fill_53178 lm_X4_19 st_J7_fill_53178 ⟨Nat.le_of_ble_eq_true rfl, Nat.le_of_ble_eq_true rfl⟩ (m_J7_fill_53178_54 _ _ _ _ q1) rfl rfl rfl (Nat.le_of_ble_eq_true rfl) dX4_begin_5) (n := 8) rfl ?_
  refine j_aload_n C dX4_begin_8 rfl (n := 9) rfl ?_
  refine j_iload_n C dX4_begin_9 rfl (n := 10) rfl ?_
  refine pf_X4_15 C 53 (cX_53 g _) (sX_53_1 g _ _) rfl dX4_begin_10 (n := 13) rfl ?_
  refine j_aload_n C dX4_begin_13 rfl (n := 14) rfl ?_
  refine j_iload_n C dX4_begin_14 rfl (n := 15) rfl ?_
  refine j_if_ne C dX4_begin_15 (tgt := 22) (n := 18) (by decide) rfl (fun q3 => ?_) (fun q3 => ?_)
  · refine j_iload_n C dX4_begin_22 rfl (n := 23) rfl ?_
    refine pf_X4_25 C 53 (cX_53 g _) (sX_53_2 g _ _) rfl dX4_begin_23 (n := 26) rfl ?_
    exact j_retV C dX4_begin_26
  · refine j_iconst C dX4_begin_18 ic_0 (n := 19) rfl ?_
    refine j_goto C dX4_begin_19 (n := 23) (by decide) ?_
    refine pf_X4_25 C 53 (cX_53 g _) (sX_53_2 g _ _) rfl dX4_begin_23 (n := 26) rfl ?_
    exact j_retV C dX4_begin_26
-- X7_sheet
set_option maxRecDepth 20000 in
theorem j_X7_sheet_36 {x : Fx} {g : Gl} (C : Ok x g RX7 cX7_sheet 4 (some .int)) (fu : Nat) (x1 : Int32) (x2 : Int32) (x3 : Int32) (h : Hp) : J x g cwX 4 2 (fun r : Int32 × Hp => qI cwX r.1 r.2) 36 [some (rf g 0), some (.int x1), some (.int x2), some (.int x3)] [] h (X7_sheet_36 fu x1 x2 x3 h) := by
  unfold X7_sheet_36
  refine j_iload_n C dX7_sheet_36 rfl (n := 37) rfl ?_
  refine j_if_ge C dX7_sheet_37 (tgt := 48) (n := 40) (by decide) rfl (fun q1 => ?_) (fun q1 => ?_)
  · refine j_iload_n C dX7_sheet_48 rfl (n := 49) rfl ?_
    refine j_bipush C dX7_sheet_49 bp_40 (n := 51) rfl ?_
    refine j_icmp_le C dX7_sheet_51 (tgt := 61) (n := 54) (by decide) rfl (fun q2 => ?_) (fun q2 => ?_)
    · refine j_aload_n C dX7_sheet_61 rfl (n := 62) rfl ?_
      refine gf_X7_54 C 0 (cX_0 g _) rfl dX7_sheet_62 (n := 65) rfl ?_
      refine j_iload_n C dX7_sheet_65 rfl (n := 66) rfl ?_
      refine j_chk (fun q3 => ?_)
      rcases inR_4 q3 with rfl | rfl | rfl | rfl
      · rw [shc_0]
        refine j_aald C 46 2 (cX_46 g _) rfl (by decide) (b := g.2.1 47) rfl dX7_sheet_66 rfl ?_
        refine j_iload_n C dX7_sheet_67 rfl (n := 68) rfl ?_
        refine j_iload_n C dX7_sheet_68 rfl (n := 69) rfl ?_
        refine j_bnd (fun h5 q4 => ?_)
        refine j_cv C (run_V C mi_X4_begin lm_X7_287 iv_X4_begin ⟨Nat.le_of_ble_eq_true rfl, Nat.le_of_ble_eq_true rfl⟩ (m_X4_begin_47 _ _ _ _ _ q4) (cX_47 g _) rfl rfl rfl rfl (Nat.le_of_ble_eq_true rfl) dX7_sheet_69) (n := 72) rfl ?_
        refine j_aload_n C dX7_sheet_72 rfl (n := 73) rfl ?_
        refine gf_X7_54 C 0 (cX_0 g _) rfl dX7_sheet_73 (n := 76) rfl ?_
        refine j_iload_n C dX7_sheet_76 rfl (n := 77) rfl ?_
        refine j_aald C 46 2 (cX_46 g _) rfl (by decide) (b := g.2.1 47) rfl dX7_sheet_77 rfl ?_
        refine gf_X7_241 C 47 (cX_47 g _) rfl dX7_sheet_78 (n := 81) rfl ?_
        exact j_retP C dX7_sheet_81
      · rw [shc_1]
        refine j_aald C 46 2 (cX_46 g _) rfl (by decide) (b := g.2.1 49) rfl dX7_sheet_66 rfl ?_
        refine j_iload_n C dX7_sheet_67 rfl (n := 68) rfl ?_
        refine j_iload_n C dX7_sheet_68 rfl (n := 69) rfl ?_
        refine j_bnd (fun h5 q4 => ?_)
        refine j_cv C (run_V C mi_X4_begin lm_X7_287 iv_X4_begin ⟨Nat.le_of_ble_eq_true rfl, Nat.le_of_ble_eq_true rfl⟩ (m_X4_begin_49 _ _ _ _ _ q4) (cX_49 g _) rfl rfl rfl rfl (Nat.le_of_ble_eq_true rfl) dX7_sheet_69) (n := 72) rfl ?_
        refine j_aload_n C dX7_sheet_72 rfl (n := 73) rfl ?_
        refine gf_X7_54 C 0 (cX_0 g _) rfl dX7_sheet_73 (n := 76) rfl ?_
        refine j_iload_n C dX7_sheet_76 rfl (n := 77) rfl ?_
        refine j_aald C 46 2 (cX_46 g _) rfl (by decide) (b := g.2.1 49) rfl dX7_sheet_77 rfl ?_
        refine gf_X7_241 C 49 (cX_49 g _) rfl dX7_sheet_78 (n := 81) rfl ?_
        exact j_retP C dX7_sheet_81
      · rw [shc_2]
        refine j_aald C 46 2 (cX_46 g _) rfl (by decide) (b := g.2.1 51) rfl dX7_sheet_66 rfl ?_
        refine j_iload_n C dX7_sheet_67 rfl (n := 68) rfl ?_
        refine j_iload_n C dX7_sheet_68 rfl (n := 69) rfl ?_
        refine j_bnd (fun h5 q4 => ?_)
        refine j_cv C (run_V C mi_X4_begin lm_X7_287 iv_X4_begin ⟨Nat.le_of_ble_eq_true rfl, Nat.le_of_ble_eq_true rfl⟩ (m_X4_begin_51 _ _ _ _ _ q4) (cX_51 g _) rfl rfl rfl rfl (Nat.le_of_ble_eq_true rfl) dX7_sheet_69) (n := 72) rfl ?_
        refine j_aload_n C dX7_sheet_72 rfl (n := 73) rfl ?_
        refine gf_X7_54 C 0 (cX_0 g _) rfl dX7_sheet_73 (n := 76) rfl ?_
        refine j_iload_n C dX7_sheet_76 rfl (n := 77) rfl ?_
        refine j_aald C 46 2 (cX_46 g _) rfl (by decide) (b := g.2.1 51) rfl dX7_sheet_77 rfl ?_
        refine gf_X7_241 C 51 (cX_51 g _) rfl dX7_sheet_78 (n := 81) rfl ?_
        exact j_retP C dX7_sheet_81
      · rw [shc_3]
        refine j_aald C 46 2 (cX_46 g _) rfl (by decide) (b := g.2.1 53) rfl dX7_sheet_66 rfl ?_
        refine j_iload_n C dX7_sheet_67 rfl (n := 68) rfl ?_
        refine j_iload_n C dX7_sheet_68 rfl (n := 69) rfl ?_
        refine j_bnd (fun h5 q4 => ?_)
        refine j_cv C (run_V C mi_X4_begin lm_X7_287 iv_X4_begin ⟨Nat.le_of_ble_eq_true rfl, Nat.le_of_ble_eq_true rfl⟩ (m_X4_begin_53 _ _ _ _ _ q4) (cX_53 g _) rfl rfl rfl rfl (Nat.le_of_ble_eq_true rfl) dX7_sheet_69) (n := 72) rfl ?_
        refine j_aload_n C dX7_sheet_72 rfl (n := 73) rfl ?_
        refine gf_X7_54 C 0 (cX_0 g _) rfl dX7_sheet_73 (n := 76) rfl ?_
        refine j_iload_n C dX7_sheet_76 rfl (n := 77) rfl ?_
        refine j_aald C 46 2 (cX_46 g _) rfl (by decide) (b := g.2.1 53) rfl dX7_sheet_77 rfl ?_
        refine gf_X7_241 C 53 (cX_53 g _) rfl dX7_sheet_78 (n := 81) rfl ?_
        exact j_retP C dX7_sheet_81
    · refine j_aload_n C dX7_sheet_54 rfl (n := 55) rfl ?_
      refine j_ldc C dX7_sheet_55 kc_X7_67 (n := 57) rfl ?_
      refine j_bnd (fun r7 q6 => ?_)
      refine j_ci C (run_V C mi_X7_finding lm_X7_68 iv_X7_finding ⟨Nat.le_of_ble_eq_true rfl, Nat.le_of_ble_eq_true rfl⟩ (m_X7_finding _ _ _ q6) (cX_0 g _) rfl rfl rfl rfl (Nat.le_of_ble_eq_true rfl) dX7_sheet_57) (n := 60) rfl ?_
      exact j_retP C dX7_sheet_60
  · refine j_aload_n C dX7_sheet_40 rfl (n := 41) rfl ?_
    refine j_ldcw C dX7_sheet_41 kc_X7_286 (n := 44) rfl ?_
    refine j_bnd (fun r10 q9 => ?_)
    refine j_ci C (run_V C mi_X7_finding lm_X7_68 iv_X7_finding ⟨Nat.le_of_ble_eq_true rfl, Nat.le_of_ble_eq_true rfl⟩ (m_X7_finding _ _ _ q9) (cX_0 g _) rfl rfl rfl rfl (Nat.le_of_ble_eq_true rfl) dX7_sheet_44) (n := 47) rfl ?_
    exact j_retP C dX7_sheet_47
set_option maxRecDepth 20000 in
theorem m_X7_sheet (l : Launch) (fu : Nat) (x1 : Int32) (x2 : Int32) (x3 : Int32) (h : Hp) {r : Int32 × Hp} (e : X7_sheet fu x1 x2 x3 h = some r) : CT l yX7_sheet cX7_sheet 4 (some .int) 2 cwX (fun g => [rf g 0, .int x1, .int x2, .int x3]) h (qI cwX r.1 r.2) := by
  refine ct_of (QR := (fun r : Int32 × Hp => qI cwX r.1 r.2)) (by decide +kernel) (fun g => ⟨rfl, Nat.le_of_ble_eq_true rfl⟩) e (fun x g hl C => ?_)
  unfold X7_sheet
  refine j_iload_n C dX7_sheet_0 rfl (n := 1) rfl ?_
  refine j_cz C (run_S C mi_X7_isSheet lm_X7_229 st_X7_isSheet ⟨Nat.le_of_ble_eq_true rfl, Nat.le_of_ble_eq_true rfl⟩ (m_X7_isSheet _ _ _) rfl rfl rfl (Nat.le_of_ble_eq_true rfl) dX7_sheet_1) (n := 4) rfl (fun b1 => ?_)
  refine j_if_eq C dX7_sheet_4 (tgt := 29) (n := 7) (by decide) rfl (fun q2 => ?_) (fun q2 => ?_)
  · refine j_aload_n C dX7_sheet_29 rfl (n := 30) rfl ?_
    refine j_ldc C dX7_sheet_30 kc_X7_67 (n := 32) rfl ?_
    refine j_bnd (fun r4 q3 => ?_)
    refine j_ci C (run_V C mi_X7_finding lm_X7_68 iv_X7_finding ⟨Nat.le_of_ble_eq_true rfl, Nat.le_of_ble_eq_true rfl⟩ (m_X7_finding _ _ _ q3) (cX_0 g _) rfl rfl rfl rfl (Nat.le_of_ble_eq_true rfl) dX7_sheet_32) (n := 35) rfl ?_
    exact j_retP C dX7_sheet_35
  · refine j_iload_n C dX7_sheet_7 rfl (n := 8) rfl ?_
    refine j_if_eq C dX7_sheet_8 (tgt := 36) (n := 11) (by decide) rfl (fun q6 => ?_) (fun q6 => ?_)
    · exact j_to (j_X7_sheet_36 C _ _ _ _ _) ⟨rfl, ⟨rfl, ⟨rfl, ⟨rfl, trivial⟩⟩⟩⟩
    · refine j_iload_n C dX7_sheet_11 rfl (n := 12) rfl ?_
      refine j_bipush C dX7_sheet_12 bp_8 (n := 14) rfl ?_
      refine j_icmp_eq C dX7_sheet_14 (tgt := 36) (n := 17) (by decide) rfl (fun q7 => ?_) (fun q7 => ?_)
      · exact j_to (j_X7_sheet_36 C _ _ _ _ _) ⟨rfl, ⟨rfl, ⟨rfl, ⟨rfl, trivial⟩⟩⟩⟩
      · refine j_iload_n C dX7_sheet_17 rfl (n := 18) rfl ?_
        refine j_bipush C dX7_sheet_18 bp_16 (n := 20) rfl ?_
        refine j_icmp_eq C dX7_sheet_20 (tgt := 36) (n := 23) (by decide) rfl (fun q8 => ?_) (fun q8 => ?_)
        · exact j_to (j_X7_sheet_36 C _ _ _ _ _) ⟨rfl, ⟨rfl, ⟨rfl, ⟨rfl, trivial⟩⟩⟩⟩
        · refine j_iload_n C dX7_sheet_23 rfl (n := 24) rfl ?_
          refine j_bipush C dX7_sheet_24 bp_32 (n := 26) rfl ?_
          refine j_icmp_eq C dX7_sheet_26 (tgt := 36) (n := 29) (by decide) rfl (fun q9 => ?_) (fun q9 => ?_)
          · exact j_to (j_X7_sheet_36 C _ _ _ _ _) ⟨rfl, ⟨rfl, ⟨rfl, ⟨rfl, trivial⟩⟩⟩⟩
          · refine j_aload_n C dX7_sheet_29 rfl (n := 30) rfl ?_
            refine j_ldc C dX7_sheet_30 kc_X7_67 (n := 32) rfl ?_
            refine j_bnd (fun r11 q10 => ?_)
            refine j_ci C (run_V C mi_X7_finding lm_X7_68 iv_X7_finding ⟨Nat.le_of_ble_eq_true rfl, Nat.le_of_ble_eq_true rfl⟩ (m_X7_finding _ _ _ q10) (cX_0 g _) rfl rfl rfl rfl (Nat.le_of_ble_eq_true rfl) dX7_sheet_32) (n := 35) rfl ?_
            exact j_retP C dX7_sheet_35
-- X4_put
set_option maxRecDepth 20000 in
theorem m_X4_put_47 (l : Launch) (x1 : Int32) (x2 : Int32) (h : Hp) {r : Hp} (e : X4_put 47 x1 x2 h = some r) : CT l yX4_put cX4_put 3 none 0 cwX (fun g => [rf g 47, .int x1, .int x2]) h (qV cwX r) := by
  refine ct_of (QR := (fun r : Hp => qV cwX r)) (by decide +kernel) (fun g => ⟨rfl, Nat.le_of_ble_eq_true rfl⟩) e (fun x g hl C => ?_)
  unfold X4_put
  refine j_aload_n C dX4_put_0 rfl (n := 1) rfl ?_
  refine gf_X4_9 C 47 (cX_47 g _) rfl dX4_put_1 (n := 4) rfl ?_
  refine j_iload_n C dX4_put_4 rfl (n := 5) rfl ?_
  refine j_aload_n C dX4_put_5 rfl (n := 6) rfl ?_
  refine gf_X4_15 C 47 (cX_47 g _) rfl dX4_put_6 (n := 9) rfl ?_
  refine j_bipush C dX4_put_9 bp_8 (n := 11) rfl ?_
  refine j_icmp_ne C dX4_put_11 (tgt := 19) (n := 14) (by decide) rfl (fun q1 => ?_) (fun q1 => ?_)
  · refine j_aload_n C dX4_put_19 rfl (n := 20) rfl ?_
    refine gf_X4_15 C 47 (cX_47 g _) rfl dX4_put_20 (n := 23) rfl ?_
    refine j_bipush C dX4_put_23 bp_16 (n := 25) rfl ?_
    refine j_icmp_ne C dX4_put_25 (tgt := 33) (n := 28) (by decide) rfl (fun q2 => ?_) (fun q2 => ?_)
    · refine j_iload_n C dX4_put_33 rfl (n := 34) rfl ?_
      refine j_iast C 48 (cX_48 g _) (aX_48 g _ _ _) dX4_put_34 (n := 35) rfl ?_
      exact j_retV C dX4_put_35
    · refine j_iload_n C dX4_put_28 rfl (n := 29) rfl ?_
      refine j_i2s C dX4_put_29 (n := 30) rfl ?_
      refine j_goto C dX4_put_30 (n := 34) (by decide) ?_
      refine j_iast C 48 (cX_48 g _) (aX_48 g _ _ _) dX4_put_34 (n := 35) rfl ?_
      exact j_retV C dX4_put_35
  · refine j_iload_n C dX4_put_14 rfl (n := 15) rfl ?_
    refine j_i2b C dX4_put_15 (n := 16) rfl ?_
    refine j_goto C dX4_put_16 (n := 34) (by decide) ?_
    refine j_iast C 48 (cX_48 g _) (aX_48 g _ _ _) dX4_put_34 (n := 35) rfl ?_
    exact j_retV C dX4_put_35
-- X4_put
set_option maxRecDepth 20000 in
theorem m_X4_put_49 (l : Launch) (x1 : Int32) (x2 : Int32) (h : Hp) {r : Hp} (e : X4_put 49 x1 x2 h = some r) : CT l yX4_put cX4_put 3 none 0 cwX (fun g => [rf g 49, .int x1, .int x2]) h (qV cwX r) := by
  refine ct_of (QR := (fun r : Hp => qV cwX r)) (by decide +kernel) (fun g => ⟨rfl, Nat.le_of_ble_eq_true rfl⟩) e (fun x g hl C => ?_)
  unfold X4_put
  refine j_aload_n C dX4_put_0 rfl (n := 1) rfl ?_
  refine gf_X4_9 C 49 (cX_49 g _) rfl dX4_put_1 (n := 4) rfl ?_
  refine j_iload_n C dX4_put_4 rfl (n := 5) rfl ?_
  refine j_aload_n C dX4_put_5 rfl (n := 6) rfl ?_
  refine gf_X4_15 C 49 (cX_49 g _) rfl dX4_put_6 (n := 9) rfl ?_
  refine j_bipush C dX4_put_9 bp_8 (n := 11) rfl ?_
  refine j_icmp_ne C dX4_put_11 (tgt := 19) (n := 14) (by decide) rfl (fun q1 => ?_) (fun q1 => ?_)
  · refine j_aload_n C dX4_put_19 rfl (n := 20) rfl ?_
    refine gf_X4_15 C 49 (cX_49 g _) rfl dX4_put_20 (n := 23) rfl ?_
    refine j_bipush C dX4_put_23 bp_16 (n := 25) rfl ?_
    refine j_icmp_ne C dX4_put_25 (tgt := 33) (n := 28) (by decide) rfl (fun q2 => ?_) (fun q2 => ?_)
    · refine j_iload_n C dX4_put_33 rfl (n := 34) rfl ?_
      refine j_iast C 50 (cX_50 g _) (aX_50 g _ _ _) dX4_put_34 (n := 35) rfl ?_
      exact j_retV C dX4_put_35
    · refine j_iload_n C dX4_put_28 rfl (n := 29) rfl ?_
      refine j_i2s C dX4_put_29 (n := 30) rfl ?_
      refine j_goto C dX4_put_30 (n := 34) (by decide) ?_
      refine j_iast C 50 (cX_50 g _) (aX_50 g _ _ _) dX4_put_34 (n := 35) rfl ?_
      exact j_retV C dX4_put_35
  · refine j_iload_n C dX4_put_14 rfl (n := 15) rfl ?_
    refine j_i2b C dX4_put_15 (n := 16) rfl ?_
    refine j_goto C dX4_put_16 (n := 34) (by decide) ?_
    refine j_iast C 50 (cX_50 g _) (aX_50 g _ _ _) dX4_put_34 (n := 35) rfl ?_
    exact j_retV C dX4_put_35
-- X4_put
set_option maxRecDepth 20000 in
theorem m_X4_put_51 (l : Launch) (x1 : Int32) (x2 : Int32) (h : Hp) {r : Hp} (e : X4_put 51 x1 x2 h = some r) : CT l yX4_put cX4_put 3 none 0 cwX (fun g => [rf g 51, .int x1, .int x2]) h (qV cwX r) := by
  refine ct_of (QR := (fun r : Hp => qV cwX r)) (by decide +kernel) (fun g => ⟨rfl, Nat.le_of_ble_eq_true rfl⟩) e (fun x g hl C => ?_)
  unfold X4_put
  refine j_aload_n C dX4_put_0 rfl (n := 1) rfl ?_
  refine gf_X4_9 C 51 (cX_51 g _) rfl dX4_put_1 (n := 4) rfl ?_
  refine j_iload_n C dX4_put_4 rfl (n := 5) rfl ?_
  refine j_aload_n C dX4_put_5 rfl (n := 6) rfl ?_
  refine gf_X4_15 C 51 (cX_51 g _) rfl dX4_put_6 (n := 9) rfl ?_
  refine j_bipush C dX4_put_9 bp_8 (n := 11) rfl ?_
  refine j_icmp_ne C dX4_put_11 (tgt := 19) (n := 14) (by decide) rfl (fun q1 => ?_) (fun q1 => ?_)
  · refine j_aload_n C dX4_put_19 rfl (n := 20) rfl ?_
    refine gf_X4_15 C 51 (cX_51 g _) rfl dX4_put_20 (n := 23) rfl ?_
    refine j_bipush C dX4_put_23 bp_16 (n := 25) rfl ?_
    refine j_icmp_ne C dX4_put_25 (tgt := 33) (n := 28) (by decide) rfl (fun q2 => ?_) (fun q2 => ?_)
    · refine j_iload_n C dX4_put_33 rfl (n := 34) rfl ?_
      refine j_iast C 52 (cX_52 g _) (aX_52 g _ _ _) dX4_put_34 (n := 35) rfl ?_
      exact j_retV C dX4_put_35
    · refine j_iload_n C dX4_put_28 rfl (n := 29) rfl ?_
      refine j_i2s C dX4_put_29 (n := 30) rfl ?_
      refine j_goto C dX4_put_30 (n := 34) (by decide) ?_
      refine j_iast C 52 (cX_52 g _) (aX_52 g _ _ _) dX4_put_34 (n := 35) rfl ?_
      exact j_retV C dX4_put_35
  · refine j_iload_n C dX4_put_14 rfl (n := 15) rfl ?_
    refine j_i2b C dX4_put_15 (n := 16) rfl ?_
    refine j_goto C dX4_put_16 (n := 34) (by decide) ?_
    refine j_iast C 52 (cX_52 g _) (aX_52 g _ _ _) dX4_put_34 (n := 35) rfl ?_
    exact j_retV C dX4_put_35
-- X4_put
set_option maxRecDepth 20000 in
theorem m_X4_put_53 (l : Launch) (x1 : Int32) (x2 : Int32) (h : Hp) {r : Hp} (e : X4_put 53 x1 x2 h = some r) : CT l yX4_put cX4_put 3 none 0 cwX (fun g => [rf g 53, .int x1, .int x2]) h (qV cwX r) := by
  refine ct_of (QR := (fun r : Hp => qV cwX r)) (by decide +kernel) (fun g => ⟨rfl, Nat.le_of_ble_eq_true rfl⟩) e (fun x g hl C => ?_)
  unfold X4_put
  refine j_aload_n C dX4_put_0 rfl (n := 1) rfl ?_
  refine gf_X4_9 C 53 (cX_53 g _) rfl dX4_put_1 (n := 4) rfl ?_
  refine j_iload_n C dX4_put_4 rfl (n := 5) rfl ?_
  refine j_aload_n C dX4_put_5 rfl (n := 6) rfl ?_
  refine gf_X4_15 C 53 (cX_53 g _) rfl dX4_put_6 (n := 9) rfl ?_
  refine j_bipush C dX4_put_9 bp_8 (n := 11) rfl ?_
  refine j_icmp_ne C dX4_put_11 (tgt := 19) (n := 14) (by decide) rfl (fun q1 => ?_) (fun q1 => ?_)
  · refine j_aload_n C dX4_put_19 rfl (n := 20) rfl ?_
    refine gf_X4_15 C 53 (cX_53 g _) rfl dX4_put_20 (n := 23) rfl ?_
    refine j_bipush C dX4_put_23 bp_16 (n := 25) rfl ?_
    refine j_icmp_ne C dX4_put_25 (tgt := 33) (n := 28) (by decide) rfl (fun q2 => ?_) (fun q2 => ?_)
    · refine j_iload_n C dX4_put_33 rfl (n := 34) rfl ?_
      refine j_iast C 54 (cX_54 g _) (aX_54 g _ _ _) dX4_put_34 (n := 35) rfl ?_
      exact j_retV C dX4_put_35
    · refine j_iload_n C dX4_put_28 rfl (n := 29) rfl ?_
      refine j_i2s C dX4_put_29 (n := 30) rfl ?_
      refine j_goto C dX4_put_30 (n := 34) (by decide) ?_
      refine j_iast C 54 (cX_54 g _) (aX_54 g _ _ _) dX4_put_34 (n := 35) rfl ?_
      exact j_retV C dX4_put_35
  · refine j_iload_n C dX4_put_14 rfl (n := 15) rfl ?_
    refine j_i2b C dX4_put_15 (n := 16) rfl ?_
    refine j_goto C dX4_put_16 (n := 34) (by decide) ?_
    refine j_iast C 54 (cX_54 g _) (aX_54 g _ _ _) dX4_put_34 (n := 35) rfl ?_
    exact j_retV C dX4_put_35
-- X7_write
set_option maxRecDepth 20000 in
theorem m_X7_write (l : Launch) (x1 : Int32) (x2 : Int32) (x3 : Int32) (h : Hp) {r : Int32 × Hp} (e : X7_write x1 x2 x3 h = some r) : CT l yX7_write cX7_write 4 (some .int) 2 cwX (fun g => [rf g 0, .int x1, .int x2, .int x3]) h (qI cwX r.1 r.2) := by
  refine ct_of (QR := (fun r : Int32 × Hp => qI cwX r.1 r.2)) (by decide +kernel) (fun g => ⟨rfl, Nat.le_of_ble_eq_true rfl⟩) e (fun x g hl C => ?_)
  unfold X7_write
  refine j_iload_n C dX7_write_0 rfl (n := 1) rfl ?_
  refine j_cz C (run_S C mi_X7_isSheet lm_X7_229 st_X7_isSheet ⟨Nat.le_of_ble_eq_true rfl, Nat.le_of_ble_eq_true rfl⟩ (m_X7_isSheet _ _ _) rfl rfl rfl (Nat.le_of_ble_eq_true rfl) dX7_write_1) (n := 4) rfl (fun b1 => ?_)
  refine j_if_ne C dX7_write_4 (tgt := 14) (n := 7) (by decide) rfl (fun q2 => ?_) (fun q2 => ?_)
  · refine j_aload_n C dX7_write_14 rfl (n := 15) rfl ?_
    refine gf_X7_54 C 0 (cX_0 g _) rfl dX7_write_15 (n := 18) rfl ?_
    refine j_iload_n C dX7_write_18 rfl (n := 19) rfl ?_
    refine j_chk (fun q3 => ?_)
    rcases inR_4 q3 with rfl | rfl | rfl | rfl
    · rw [shc_0]
      refine j_aald C 46 2 (cX_46 g _) rfl (by decide) (b := g.2.1 47) rfl dX7_write_19 rfl ?_
      refine j_cz C (run_V C mi_X4_isMissing lm_X7_232 iv_X4_isMissing ⟨Nat.le_of_ble_eq_true rfl, Nat.le_of_ble_eq_true rfl⟩ (m_X4_isMissing_47 _ _) (cX_47 g _) rfl rfl rfl rfl (Nat.le_of_ble_eq_true rfl) dX7_write_20) (n := 23) rfl (fun b4 => ?_)
      refine j_if_eq C dX7_write_23 (tgt := 33) (n := 26) (by decide) rfl (fun q5 => ?_) (fun q5 => ?_)
      · refine j_iload_n C dX7_write_33 rfl (n := 34) rfl ?_
        refine j_iconst C dX7_write_34 ic_0 (n := 35) rfl ?_
        refine j_aload_n C dX7_write_35 rfl (n := 36) rfl ?_
        refine gf_X7_54 C 0 (cX_0 g _) rfl dX7_write_36 (n := 39) rfl ?_
        refine j_iload_n C dX7_write_39 rfl (n := 40) rfl ?_
        refine j_aald C 46 2 (cX_46 g _) rfl (by decide) (b := g.2.1 47) rfl dX7_write_40 rfl ?_
        refine gf_X7_241 C 47 (cX_47 g _) rfl dX7_write_41 (n := 44) rfl ?_
        refine j_iconst C dX7_write_44 ic_1 (n := 45) rfl ?_
        refine j_isub C dX7_write_45 (n := 46) rfl ?_
        refine j_cz C (run_S C mi_X7_within lm_X7_94 st_X7_within ⟨Nat.le_of_ble_eq_true rfl, Nat.le_of_ble_eq_true rfl⟩ (m_X7_within _ _ _ _ _) rfl rfl rfl (Nat.le_of_ble_eq_true rfl) dX7_write_46) (n := 49) rfl (fun b6 => ?_)
        refine j_if_ne C dX7_write_49 (tgt := 59) (n := 52) (by decide) rfl (fun q7 => ?_) (fun q7 => ?_)
        · refine j_aload_n C dX7_write_59 rfl (n := 60) rfl ?_
          refine gf_X7_54 C 0 (cX_0 g _) rfl dX7_write_60 (n := 63) rfl ?_
          refine j_iload_n C dX7_write_63 rfl (n := 64) rfl ?_
          refine j_aald C 46 2 (cX_46 g _) rfl (by decide) (b := g.2.1 47) rfl dX7_write_64 rfl ?_
          refine j_iload_n C dX7_write_65 rfl (n := 66) rfl ?_
          refine j_iload_n C dX7_write_66 rfl (n := 67) rfl ?_
          refine j_bnd (fun h9 q8 => ?_)
          refine j_cv C (run_V C mi_X4_put lm_X7_290 iv_X4_put ⟨Nat.le_of_ble_eq_true rfl, Nat.le_of_ble_eq_true rfl⟩ (m_X4_put_47 _ _ _ _ q8) (cX_47 g _) rfl rfl rfl rfl (Nat.le_of_ble_eq_true rfl) dX7_write_67) (n := 70) rfl ?_
          refine j_iconst C dX7_write_70 ic_1 (n := 71) rfl ?_
          exact j_retP C dX7_write_71
        · refine j_aload_n C dX7_write_52 rfl (n := 53) rfl ?_
          refine j_ldc C dX7_write_53 kc_X7_67 (n := 55) rfl ?_
          refine j_bnd (fun r11 q10 => ?_)
          refine j_ci C (run_V C mi_X7_finding lm_X7_68 iv_X7_finding ⟨Nat.le_of_ble_eq_true rfl, Nat.le_of_ble_eq_true rfl⟩ (m_X7_finding _ _ _ q10) (cX_0 g _) rfl rfl rfl rfl (Nat.le_of_ble_eq_true rfl) dX7_write_55) (n := 58) rfl ?_
          exact j_retP C dX7_write_58
      · refine j_aload_n C dX7_write_26 rfl (n := 27) rfl ?_
        refine j_ldc C dX7_write_27 kc_X7_236 (n := 29) rfl ?_
        refine j_bnd (fun r14 q13 => ?_)
        refine j_ci C (run_V C mi_X7_finding lm_X7_68 iv_X7_finding ⟨Nat.le_of_ble_eq_true rfl, Nat.le_of_ble_eq_true rfl⟩ (m_X7_finding _ _ _ q13) (cX_0 g _) rfl rfl rfl rfl (Nat.le_of_ble_eq_true rfl) dX7_write_29) (n := 32) rfl ?_
        exact j_retP C dX7_write_32
    · rw [shc_1]
      refine j_aald C 46 2 (cX_46 g _) rfl (by decide) (b := g.2.1 49) rfl dX7_write_19 rfl ?_
      refine j_cz C (run_V C mi_X4_isMissing lm_X7_232 iv_X4_isMissing ⟨Nat.le_of_ble_eq_true rfl, Nat.le_of_ble_eq_true rfl⟩ (m_X4_isMissing_49 _ _) (cX_49 g _) rfl rfl rfl rfl (Nat.le_of_ble_eq_true rfl) dX7_write_20) (n := 23) rfl (fun b4 => ?_)
      refine j_if_eq C dX7_write_23 (tgt := 33) (n := 26) (by decide) rfl (fun q5 => ?_) (fun q5 => ?_)
      · refine j_iload_n C dX7_write_33 rfl (n := 34) rfl ?_
        refine j_iconst C dX7_write_34 ic_0 (n := 35) rfl ?_
        refine j_aload_n C dX7_write_35 rfl (n := 36) rfl ?_
        refine gf_X7_54 C 0 (cX_0 g _) rfl dX7_write_36 (n := 39) rfl ?_
        refine j_iload_n C dX7_write_39 rfl (n := 40) rfl ?_
        refine j_aald C 46 2 (cX_46 g _) rfl (by decide) (b := g.2.1 49) rfl dX7_write_40 rfl ?_
        refine gf_X7_241 C 49 (cX_49 g _) rfl dX7_write_41 (n := 44) rfl ?_
        refine j_iconst C dX7_write_44 ic_1 (n := 45) rfl ?_
        refine j_isub C dX7_write_45 (n := 46) rfl ?_
        refine j_cz C (run_S C mi_X7_within lm_X7_94 st_X7_within ⟨Nat.le_of_ble_eq_true rfl, Nat.le_of_ble_eq_true rfl⟩ (m_X7_within _ _ _ _ _) rfl rfl rfl (Nat.le_of_ble_eq_true rfl) dX7_write_46) (n := 49) rfl (fun b6 => ?_)
        refine j_if_ne C dX7_write_49 (tgt := 59) (n := 52) (by decide) rfl (fun q7 => ?_) (fun q7 => ?_)
        · refine j_aload_n C dX7_write_59 rfl (n := 60) rfl ?_
          refine gf_X7_54 C 0 (cX_0 g _) rfl dX7_write_60 (n := 63) rfl ?_
          refine j_iload_n C dX7_write_63 rfl (n := 64) rfl ?_
          refine j_aald C 46 2 (cX_46 g _) rfl (by decide) (b := g.2.1 49) rfl dX7_write_64 rfl ?_
          refine j_iload_n C dX7_write_65 rfl (n := 66) rfl ?_
          refine j_iload_n C dX7_write_66 rfl (n := 67) rfl ?_
          refine j_bnd (fun h9 q8 => ?_)
          refine j_cv C (run_V C mi_X4_put lm_X7_290 iv_X4_put ⟨Nat.le_of_ble_eq_true rfl, Nat.le_of_ble_eq_true rfl⟩ (m_X4_put_49 _ _ _ _ q8) (cX_49 g _) rfl rfl rfl rfl (Nat.le_of_ble_eq_true rfl) dX7_write_67) (n := 70) rfl ?_
          refine j_iconst C dX7_write_70 ic_1 (n := 71) rfl ?_
          exact j_retP C dX7_write_71
        · refine j_aload_n C dX7_write_52 rfl (n := 53) rfl ?_
          refine j_ldc C dX7_write_53 kc_X7_67 (n := 55) rfl ?_
          refine j_bnd (fun r11 q10 => ?_)
          refine j_ci C (run_V C mi_X7_finding lm_X7_68 iv_X7_finding ⟨Nat.le_of_ble_eq_true rfl, Nat.le_of_ble_eq_true rfl⟩ (m_X7_finding _ _ _ q10) (cX_0 g _) rfl rfl rfl rfl (Nat.le_of_ble_eq_true rfl) dX7_write_55) (n := 58) rfl ?_
          exact j_retP C dX7_write_58
      · refine j_aload_n C dX7_write_26 rfl (n := 27) rfl ?_
        refine j_ldc C dX7_write_27 kc_X7_236 (n := 29) rfl ?_
        refine j_bnd (fun r14 q13 => ?_)
        refine j_ci C (run_V C mi_X7_finding lm_X7_68 iv_X7_finding ⟨Nat.le_of_ble_eq_true rfl, Nat.le_of_ble_eq_true rfl⟩ (m_X7_finding _ _ _ q13) (cX_0 g _) rfl rfl rfl rfl (Nat.le_of_ble_eq_true rfl) dX7_write_29) (n := 32) rfl ?_
        exact j_retP C dX7_write_32
    · rw [shc_2]
      refine j_aald C 46 2 (cX_46 g _) rfl (by decide) (b := g.2.1 51) rfl dX7_write_19 rfl ?_
      refine j_cz C (run_V C mi_X4_isMissing lm_X7_232 iv_X4_isMissing ⟨Nat.le_of_ble_eq_true rfl, Nat.le_of_ble_eq_true rfl⟩ (m_X4_isMissing_51 _ _) (cX_51 g _) rfl rfl rfl rfl (Nat.le_of_ble_eq_true rfl) dX7_write_20) (n := 23) rfl (fun b4 => ?_)
      refine j_if_eq C dX7_write_23 (tgt := 33) (n := 26) (by decide) rfl (fun q5 => ?_) (fun q5 => ?_)
      · refine j_iload_n C dX7_write_33 rfl (n := 34) rfl ?_
        refine j_iconst C dX7_write_34 ic_0 (n := 35) rfl ?_
        refine j_aload_n C dX7_write_35 rfl (n := 36) rfl ?_
        refine gf_X7_54 C 0 (cX_0 g _) rfl dX7_write_36 (n := 39) rfl ?_
        refine j_iload_n C dX7_write_39 rfl (n := 40) rfl ?_
        refine j_aald C 46 2 (cX_46 g _) rfl (by decide) (b := g.2.1 51) rfl dX7_write_40 rfl ?_
        refine gf_X7_241 C 51 (cX_51 g _) rfl dX7_write_41 (n := 44) rfl ?_
        refine j_iconst C dX7_write_44 ic_1 (n := 45) rfl ?_
        refine j_isub C dX7_write_45 (n := 46) rfl ?_
        refine j_cz C (run_S C mi_X7_within lm_X7_94 st_X7_within ⟨Nat.le_of_ble_eq_true rfl, Nat.le_of_ble_eq_true rfl⟩ (m_X7_within _ _ _ _ _) rfl rfl rfl (Nat.le_of_ble_eq_true rfl) dX7_write_46) (n := 49) rfl (fun b6 => ?_)
        refine j_if_ne C dX7_write_49 (tgt := 59) (n := 52) (by decide) rfl (fun q7 => ?_) (fun q7 => ?_)
        · refine j_aload_n C dX7_write_59 rfl (n := 60) rfl ?_
          refine gf_X7_54 C 0 (cX_0 g _) rfl dX7_write_60 (n := 63) rfl ?_
          refine j_iload_n C dX7_write_63 rfl (n := 64) rfl ?_
          refine j_aald C 46 2 (cX_46 g _) rfl (by decide) (b := g.2.1 51) rfl dX7_write_64 rfl ?_
          refine j_iload_n C dX7_write_65 rfl (n := 66) rfl ?_
          refine j_iload_n C dX7_write_66 rfl (n := 67) rfl ?_
          refine j_bnd (fun h9 q8 => ?_)
          refine j_cv C (run_V C mi_X4_put lm_X7_290 iv_X4_put ⟨Nat.le_of_ble_eq_true rfl, Nat.le_of_ble_eq_true rfl⟩ (m_X4_put_51 _ _ _ _ q8) (cX_51 g _) rfl rfl rfl rfl (Nat.le_of_ble_eq_true rfl) dX7_write_67) (n := 70) rfl ?_
          refine j_iconst C dX7_write_70 ic_1 (n := 71) rfl ?_
          exact j_retP C dX7_write_71
        · refine j_aload_n C dX7_write_52 rfl (n := 53) rfl ?_
          refine j_ldc C dX7_write_53 kc_X7_67 (n := 55) rfl ?_
          refine j_bnd (fun r11 q10 => ?_)
          refine j_ci C (run_V C mi_X7_finding lm_X7_68 iv_X7_finding ⟨Nat.le_of_ble_eq_true rfl, Nat.le_of_ble_eq_true rfl⟩ (m_X7_finding _ _ _ q10) (cX_0 g _) rfl rfl rfl rfl (Nat.le_of_ble_eq_true rfl) dX7_write_55) (n := 58) rfl ?_
          exact j_retP C dX7_write_58
      · refine j_aload_n C dX7_write_26 rfl (n := 27) rfl ?_
        refine j_ldc C dX7_write_27 kc_X7_236 (n := 29) rfl ?_
        refine j_bnd (fun r14 q13 => ?_)
        refine j_ci C (run_V C mi_X7_finding lm_X7_68 iv_X7_finding ⟨Nat.le_of_ble_eq_true rfl, Nat.le_of_ble_eq_true rfl⟩ (m_X7_finding _ _ _ q13) (cX_0 g _) rfl rfl rfl rfl (Nat.le_of_ble_eq_true rfl) dX7_write_29) (n := 32) rfl ?_
        exact j_retP C dX7_write_32
    · rw [shc_3]
      refine j_aald C 46 2 (cX_46 g _) rfl (by decide) (b := g.2.1 53) rfl dX7_write_19 rfl ?_
      refine j_cz C (run_V C mi_X4_isMissing lm_X7_232 iv_X4_isMissing ⟨Nat.le_of_ble_eq_true rfl, Nat.le_of_ble_eq_true rfl⟩ (m_X4_isMissing_53 _ _) (cX_53 g _) rfl rfl rfl rfl (Nat.le_of_ble_eq_true rfl) dX7_write_20) (n := 23) rfl (fun b4 => ?_)
      refine j_if_eq C dX7_write_23 (tgt := 33) (n := 26) (by decide) rfl (fun q5 => ?_) (fun q5 => ?_)
      · refine j_iload_n C dX7_write_33 rfl (n := 34) rfl ?_
        refine j_iconst C dX7_write_34 ic_0 (n := 35) rfl ?_
        refine j_aload_n C dX7_write_35 rfl (n := 36) rfl ?_
        refine gf_X7_54 C 0 (cX_0 g _) rfl dX7_write_36 (n := 39) rfl ?_
        refine j_iload_n C dX7_write_39 rfl (n := 40) rfl ?_
        refine j_aald C 46 2 (cX_46 g _) rfl (by decide) (b := g.2.1 53) rfl dX7_write_40 rfl ?_
        refine gf_X7_241 C 53 (cX_53 g _) rfl dX7_write_41 (n := 44) rfl ?_
        refine j_iconst C dX7_write_44 ic_1 (n := 45) rfl ?_
        refine j_isub C dX7_write_45 (n := 46) rfl ?_
        refine j_cz C (run_S C mi_X7_within lm_X7_94 st_X7_within ⟨Nat.le_of_ble_eq_true rfl, Nat.le_of_ble_eq_true rfl⟩ (m_X7_within _ _ _ _ _) rfl rfl rfl (Nat.le_of_ble_eq_true rfl) dX7_write_46) (n := 49) rfl (fun b6 => ?_)
        refine j_if_ne C dX7_write_49 (tgt := 59) (n := 52) (by decide) rfl (fun q7 => ?_) (fun q7 => ?_)
        · refine j_aload_n C dX7_write_59 rfl (n := 60) rfl ?_
          refine gf_X7_54 C 0 (cX_0 g _) rfl dX7_write_60 (n := 63) rfl ?_
          refine j_iload_n C dX7_write_63 rfl (n := 64) rfl ?_
          refine j_aald C 46 2 (cX_46 g _) rfl (by decide) (b := g.2.1 53) rfl dX7_write_64 rfl ?_
          refine j_iload_n C dX7_write_65 rfl (n := 66) rfl ?_
          refine j_iload_n C dX7_write_66 rfl (n := 67) rfl ?_
          refine j_bnd (fun h9 q8 => ?_)
          refine j_cv C (run_V C mi_X4_put lm_X7_290 iv_X4_put ⟨Nat.le_of_ble_eq_true rfl, Nat.le_of_ble_eq_true rfl⟩ (m_X4_put_53 _ _ _ _ q8) (cX_53 g _) rfl rfl rfl rfl (Nat.le_of_ble_eq_true rfl) dX7_write_67) (n := 70) rfl ?_
          refine j_iconst C dX7_write_70 ic_1 (n := 71) rfl ?_
          exact j_retP C dX7_write_71
        · refine j_aload_n C dX7_write_52 rfl (n := 53) rfl ?_
          refine j_ldc C dX7_write_53 kc_X7_67 (n := 55) rfl ?_
          refine j_bnd (fun r11 q10 => ?_)
          refine j_ci C (run_V C mi_X7_finding lm_X7_68 iv_X7_finding ⟨Nat.le_of_ble_eq_true rfl, Nat.le_of_ble_eq_true rfl⟩ (m_X7_finding _ _ _ q10) (cX_0 g _) rfl rfl rfl rfl (Nat.le_of_ble_eq_true rfl) dX7_write_55) (n := 58) rfl ?_
          exact j_retP C dX7_write_58
      · refine j_aload_n C dX7_write_26 rfl (n := 27) rfl ?_
        refine j_ldc C dX7_write_27 kc_X7_236 (n := 29) rfl ?_
        refine j_bnd (fun r14 q13 => ?_)
        refine j_ci C (run_V C mi_X7_finding lm_X7_68 iv_X7_finding ⟨Nat.le_of_ble_eq_true rfl, Nat.le_of_ble_eq_true rfl⟩ (m_X7_finding _ _ _ q13) (cX_0 g _) rfl rfl rfl rfl (Nat.le_of_ble_eq_true rfl) dX7_write_29) (n := 32) rfl ?_
        exact j_retP C dX7_write_32
  · refine j_aload_n C dX7_write_7 rfl (n := 8) rfl ?_
    refine j_ldc C dX7_write_8 kc_X7_67 (n := 10) rfl ?_
    refine j_bnd (fun r17 q16 => ?_)
    refine j_ci C (run_V C mi_X7_finding lm_X7_68 iv_X7_finding ⟨Nat.le_of_ble_eq_true rfl, Nat.le_of_ble_eq_true rfl⟩ (m_X7_finding _ _ _ q16) (cX_0 g _) rfl rfl rfl rfl (Nat.le_of_ble_eq_true rfl) dX7_write_10) (n := 13) rfl ?_
    exact j_retP C dX7_write_13
-- X4_hasRun
set_option maxRecDepth 20000 in
theorem m_X4_hasRun_47 (l : Launch) (x1 : Int32) (x2 : Int32) (h : Hp) : CT l yX4_hasRun cX4_hasRun 3 (some .boolean) 0 cwX (fun g => [rf g 47, .int x1, .int x2]) h (qZ cwX (X4_hasRun 47 x1 x2 h) h) := by
  refine ct_of (QR := (fun r : Int32 => qZ cwX r h)) (by decide +kernel) (fun g => ⟨rfl, Nat.le_of_ble_eq_true rfl⟩) (X4_hasRun_e 47 x1 x2 h) (fun x g hl C => ?_)
  unfold X4_hasRun_o
  refine j_iload_n C dX4_hasRun_0 rfl (n := 1) rfl ?_
  refine j_if_lt C dX4_hasRun_1 (tgt := 22) (n := 4) (by decide) rfl (fun q1 => ?_) (fun q1 => ?_)
  · refine j_iconst C dX4_hasRun_22 ic_0 (n := 23) rfl ?_
    exact j_retZ C (Or.inl rfl) dX4_hasRun_23
  · refine j_iload_n C dX4_hasRun_4 rfl (n := 5) rfl ?_
    refine j_if_lt C dX4_hasRun_5 (tgt := 22) (n := 8) (by decide) rfl (fun q2 => ?_) (fun q2 => ?_)
    · refine j_iconst C dX4_hasRun_22 ic_0 (n := 23) rfl ?_
      exact j_retZ C (Or.inl rfl) dX4_hasRun_23
    · refine j_iload_n C dX4_hasRun_8 rfl (n := 9) rfl ?_
      refine j_aload_n C dX4_hasRun_9 rfl (n := 10) rfl ?_
      refine gf_X4_25 C 47 (cX_47 g _) rfl dX4_hasRun_10 (n := 13) rfl ?_
      refine j_iload_n C dX4_hasRun_13 rfl (n := 14) rfl ?_
      refine j_isub C dX4_hasRun_14 (n := 15) rfl ?_
      refine j_icmp_gt C dX4_hasRun_15 (tgt := 22) (n := 18) (by decide) rfl (fun q3 => ?_) (fun q3 => ?_)
      · refine j_iconst C dX4_hasRun_22 ic_0 (n := 23) rfl ?_
        exact j_retZ C (Or.inl rfl) dX4_hasRun_23
      · refine j_iconst C dX4_hasRun_18 ic_1 (n := 19) rfl ?_
        refine j_goto C dX4_hasRun_19 (n := 23) (by decide) ?_
        exact j_retZ C (Or.inr rfl) dX4_hasRun_23
-- X4_hasRun
set_option maxRecDepth 20000 in
theorem m_X4_hasRun_49 (l : Launch) (x1 : Int32) (x2 : Int32) (h : Hp) : CT l yX4_hasRun cX4_hasRun 3 (some .boolean) 0 cwX (fun g => [rf g 49, .int x1, .int x2]) h (qZ cwX (X4_hasRun 49 x1 x2 h) h) := by
  refine ct_of (QR := (fun r : Int32 => qZ cwX r h)) (by decide +kernel) (fun g => ⟨rfl, Nat.le_of_ble_eq_true rfl⟩) (X4_hasRun_e 49 x1 x2 h) (fun x g hl C => ?_)
  unfold X4_hasRun_o
  refine j_iload_n C dX4_hasRun_0 rfl (n := 1) rfl ?_
  refine j_if_lt C dX4_hasRun_1 (tgt := 22) (n := 4) (by decide) rfl (fun q1 => ?_) (fun q1 => ?_)
  · refine j_iconst C dX4_hasRun_22 ic_0 (n := 23) rfl ?_
    exact j_retZ C (Or.inl rfl) dX4_hasRun_23
  · refine j_iload_n C dX4_hasRun_4 rfl (n := 5) rfl ?_
    refine j_if_lt C dX4_hasRun_5 (tgt := 22) (n := 8) (by decide) rfl (fun q2 => ?_) (fun q2 => ?_)
    · refine j_iconst C dX4_hasRun_22 ic_0 (n := 23) rfl ?_
      exact j_retZ C (Or.inl rfl) dX4_hasRun_23
    · refine j_iload_n C dX4_hasRun_8 rfl (n := 9) rfl ?_
      refine j_aload_n C dX4_hasRun_9 rfl (n := 10) rfl ?_
      refine gf_X4_25 C 49 (cX_49 g _) rfl dX4_hasRun_10 (n := 13) rfl ?_
      refine j_iload_n C dX4_hasRun_13 rfl (n := 14) rfl ?_
      refine j_isub C dX4_hasRun_14 (n := 15) rfl ?_
      refine j_icmp_gt C dX4_hasRun_15 (tgt := 22) (n := 18) (by decide) rfl (fun q3 => ?_) (fun q3 => ?_)
      · refine j_iconst C dX4_hasRun_22 ic_0 (n := 23) rfl ?_
        exact j_retZ C (Or.inl rfl) dX4_hasRun_23
      · refine j_iconst C dX4_hasRun_18 ic_1 (n := 19) rfl ?_
        refine j_goto C dX4_hasRun_19 (n := 23) (by decide) ?_
        exact j_retZ C (Or.inr rfl) dX4_hasRun_23
-- X4_hasRun
set_option maxRecDepth 20000 in
theorem m_X4_hasRun_51 (l : Launch) (x1 : Int32) (x2 : Int32) (h : Hp) : CT l yX4_hasRun cX4_hasRun 3 (some .boolean) 0 cwX (fun g => [rf g 51, .int x1, .int x2]) h (qZ cwX (X4_hasRun 51 x1 x2 h) h) := by
  refine ct_of (QR := (fun r : Int32 => qZ cwX r h)) (by decide +kernel) (fun g => ⟨rfl, Nat.le_of_ble_eq_true rfl⟩) (X4_hasRun_e 51 x1 x2 h) (fun x g hl C => ?_)
  unfold X4_hasRun_o
  refine j_iload_n C dX4_hasRun_0 rfl (n := 1) rfl ?_
  refine j_if_lt C dX4_hasRun_1 (tgt := 22) (n := 4) (by decide) rfl (fun q1 => ?_) (fun q1 => ?_)
  · refine j_iconst C dX4_hasRun_22 ic_0 (n := 23) rfl ?_
    exact j_retZ C (Or.inl rfl) dX4_hasRun_23
  · refine j_iload_n C dX4_hasRun_4 rfl (n := 5) rfl ?_
    refine j_if_lt C dX4_hasRun_5 (tgt := 22) (n := 8) (by decide) rfl (fun q2 => ?_) (fun q2 => ?_)
    · refine j_iconst C dX4_hasRun_22 ic_0 (n := 23) rfl ?_
      exact j_retZ C (Or.inl rfl) dX4_hasRun_23
    · refine j_iload_n C dX4_hasRun_8 rfl (n := 9) rfl ?_
      refine j_aload_n C dX4_hasRun_9 rfl (n := 10) rfl ?_
      refine gf_X4_25 C 51 (cX_51 g _) rfl dX4_hasRun_10 (n := 13) rfl ?_
      refine j_iload_n C dX4_hasRun_13 rfl (n := 14) rfl ?_
      refine j_isub C dX4_hasRun_14 (n := 15) rfl ?_
      refine j_icmp_gt C dX4_hasRun_15 (tgt := 22) (n := 18) (by decide) rfl (fun q3 => ?_) (fun q3 => ?_)
      · refine j_iconst C dX4_hasRun_22 ic_0 (n := 23) rfl ?_
        exact j_retZ C (Or.inl rfl) dX4_hasRun_23
      · refine j_iconst C dX4_hasRun_18 ic_1 (n := 19) rfl ?_
        refine j_goto C dX4_hasRun_19 (n := 23) (by decide) ?_
        exact j_retZ C (Or.inr rfl) dX4_hasRun_23
-- X4_hasRun
set_option maxRecDepth 20000 in
theorem m_X4_hasRun_53 (l : Launch) (x1 : Int32) (x2 : Int32) (h : Hp) : CT l yX4_hasRun cX4_hasRun 3 (some .boolean) 0 cwX (fun g => [rf g 53, .int x1, .int x2]) h (qZ cwX (X4_hasRun 53 x1 x2 h) h) := by
  refine ct_of (QR := (fun r : Int32 => qZ cwX r h)) (by decide +kernel) (fun g => ⟨rfl, Nat.le_of_ble_eq_true rfl⟩) (X4_hasRun_e 53 x1 x2 h) (fun x g hl C => ?_)
  unfold X4_hasRun_o
  refine j_iload_n C dX4_hasRun_0 rfl (n := 1) rfl ?_
  refine j_if_lt C dX4_hasRun_1 (tgt := 22) (n := 4) (by decide) rfl (fun q1 => ?_) (fun q1 => ?_)
  · refine j_iconst C dX4_hasRun_22 ic_0 (n := 23) rfl ?_
    exact j_retZ C (Or.inl rfl) dX4_hasRun_23
  · refine j_iload_n C dX4_hasRun_4 rfl (n := 5) rfl ?_
    refine j_if_lt C dX4_hasRun_5 (tgt := 22) (n := 8) (by decide) rfl (fun q2 => ?_) (fun q2 => ?_)
    · refine j_iconst C dX4_hasRun_22 ic_0 (n := 23) rfl ?_
      exact j_retZ C (Or.inl rfl) dX4_hasRun_23
    · refine j_iload_n C dX4_hasRun_8 rfl (n := 9) rfl ?_
      refine j_aload_n C dX4_hasRun_9 rfl (n := 10) rfl ?_
      refine gf_X4_25 C 53 (cX_53 g _) rfl dX4_hasRun_10 (n := 13) rfl ?_
      refine j_iload_n C dX4_hasRun_13 rfl (n := 14) rfl ?_
      refine j_isub C dX4_hasRun_14 (n := 15) rfl ?_
      refine j_icmp_gt C dX4_hasRun_15 (tgt := 22) (n := 18) (by decide) rfl (fun q3 => ?_) (fun q3 => ?_)
      · refine j_iconst C dX4_hasRun_22 ic_0 (n := 23) rfl ?_
        exact j_retZ C (Or.inl rfl) dX4_hasRun_23
      · refine j_iconst C dX4_hasRun_18 ic_1 (n := 19) rfl ?_
        refine j_goto C dX4_hasRun_19 (n := 23) (by decide) ?_
        exact j_retZ C (Or.inr rfl) dX4_hasRun_23
