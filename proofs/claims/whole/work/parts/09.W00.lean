-- X7_within
set_option maxRecDepth 20000 in
theorem m_X7_within (l : Launch) (x0 : Int32) (x1 : Int32) (x2 : Int32) (h : Hp) : CT l yX7_within cX7_within 3 (some .boolean) 0 cwX (fun g => [.int x0, .int x1, .int x2]) h (qZ cwX (X7_within x0 x1 x2) h) := by
  refine ct_of (QR := (fun r : Int32 => qZ cwX r h)) (by decide +kernel) (fun g => ⟨rfl, Nat.le_of_ble_eq_true rfl⟩) (X7_within_e x0 x1 x2) (fun x g hl C => ?_)
  unfold X7_within_o
  refine j_iload_n C dX7_within_0 rfl (n := 1) rfl ?_
  refine j_iload_n C dX7_within_1 rfl (n := 2) rfl ?_
  refine j_icmp_lt C dX7_within_2 (tgt := 14) (n := 5) (by decide) rfl (fun q1 => ?_) (fun q1 => ?_)
  · refine j_iconst C dX7_within_14 ic_0 (n := 15) rfl ?_
    exact j_retZ C (Or.inl rfl) dX7_within_15
  · refine j_iload_n C dX7_within_5 rfl (n := 6) rfl ?_
    refine j_iload_n C dX7_within_6 rfl (n := 7) rfl ?_
    refine j_icmp_gt C dX7_within_7 (tgt := 14) (n := 10) (by decide) rfl (fun q2 => ?_) (fun q2 => ?_)
    · refine j_iconst C dX7_within_14 ic_0 (n := 15) rfl ?_
      exact j_retZ C (Or.inl rfl) dX7_within_15
    · refine j_iconst C dX7_within_10 ic_1 (n := 11) rfl ?_
      refine j_goto C dX7_within_11 (n := 15) (by decide) ?_
      exact j_retZ C (Or.inr rfl) dX7_within_15
-- X7_isKind
set_option maxRecDepth 20000 in
theorem m_X7_isKind (l : Launch) (x0 : Int32) (h : Hp) : CT l yX7_isKind cX7_isKind 1 (some .boolean) 1 cwX (fun g => [.int x0]) h (qZ cwX (X7_isKind x0) h) := by
  refine ct_of (QR := (fun r : Int32 => qZ cwX r h)) (by decide +kernel) (fun g => ⟨rfl, Nat.le_of_ble_eq_true rfl⟩) (X7_isKind_e x0) (fun x g hl C => ?_)
  unfold X7_isKind_o
  refine j_iload_n C dX7_isKind_0 rfl (n := 1) rfl ?_
  refine j_iconst C dX7_isKind_1 ic_0 (n := 2) rfl ?_
  refine j_bipush C dX7_isKind_2 bp_6 (n := 4) rfl ?_
  refine j_cz C (run_S C mi_X7_within lm_X7_94 st_X7_within ⟨Nat.le_of_ble_eq_true rfl, Nat.le_of_ble_eq_true rfl⟩ (m_X7_within _ _ _ _ _) rfl rfl rfl (Nat.le_of_ble_eq_true rfl) dX7_isKind_4) (n := 7) rfl (fun b1 => ?_)
  exact j_retZ C b1 dX7_isKind_7
-- X7_finding
set_option maxRecDepth 20000 in
theorem m_X7_finding (l : Launch) (x1 : Int32) (h : Hp) {r : Int32 × Hp} (e : X7_finding x1 h = some r) : CT l yX7_finding cX7_finding 3 (some .int) 1 cwX (fun g => [rf g 0, .int x1]) h (qI cwX r.1 r.2) := by
  refine ct_of (QR := (fun r : Int32 × Hp => qI cwX r.1 r.2)) (by decide +kernel) (fun g => ⟨rfl, Nat.le_of_ble_eq_true rfl⟩) e (fun x g hl C => ?_)
  unfold X7_finding
  refine j_ldc C dX7_finding_0 kc_X7_67 (n := 2) rfl ?_
  refine j_iload_n C dX7_finding_2 rfl (n := 3) rfl ?_
  refine j_isub C dX7_finding_3 (n := 4) rfl ?_
  refine j_istore_n C dX7_finding_4 (Nat.le_of_ble_eq_true rfl) (n := 5) rfl ?_
  refine j_iload_n C dX7_finding_5 rfl (n := 6) rfl ?_
  refine j_iconst C dX7_finding_6 ic_0 (n := 7) rfl ?_
  refine j_bipush C dX7_finding_7 bp_6 (n := 9) rfl ?_
  refine j_cz C (run_S C mi_X7_within lm_X7_94 st_X7_within ⟨Nat.le_of_ble_eq_true rfl, Nat.le_of_ble_eq_true rfl⟩ (m_X7_within _ _ _ _ _) rfl rfl rfl (Nat.le_of_ble_eq_true rfl) dX7_finding_9) (n := 12) rfl (fun b1 => ?_)
  refine j_if_eq C dX7_finding_12 (tgt := 25) (n := 15) (by decide) rfl (fun q2 => ?_) (fun q2 => ?_)
  · refine j_iload_n C dX7_finding_25 rfl (n := 26) rfl ?_
    exact j_retP C dX7_finding_26
  · refine j_aload_n C dX7_finding_15 rfl (n := 16) rfl ?_
    refine gf_X7_58 C 0 (cX_0 g _) rfl dX7_finding_16 (n := 19) rfl ?_
    refine j_iload_n C dX7_finding_19 rfl (n := 20) rfl ?_
    refine j_dup2 C dX7_finding_20 rfl rfl (n := 21) rfl ?_
    refine j_iald C 55 (cX_55 g _) dX7_finding_21 (n := 22) rfl ?_
    refine j_iconst C dX7_finding_22 ic_1 (n := 23) rfl ?_
    refine j_iadd C dX7_finding_23 (n := 24) rfl ?_
    refine j_iast C 55 (cX_55 g _) (aX_55 g _ _ _) dX7_finding_24 (n := 25) rfl ?_
    refine j_iload_n C dX7_finding_25 rfl (n := 26) rfl ?_
    exact j_retP C dX7_finding_26
-- X1_addPart
set_option maxRecDepth 20000 in
theorem j_X1_addPart_38_1 {x : Fx} {g : Gl} (C : Ok x g RX1 cX1_addPart 5 (some .int)) (x4 : Int32) (s1 : Int32) (h : Hp) : J x g cwX 5 0 (fun r : Int32 × Hp => qI cwX r.1 r.2) 38 [some (rf g 1), none, none, none, some (.int x4)] [.int s1, rf g 5] h (X1_addPart_38 1 x4 s1 h) := by
  unfold X1_addPart_38
  refine j_iload C dX1_addPart_38 rfl (n := 40) rfl ?_
  refine j_iast C 5 (cX_5 g _) (aX_5 g _ _ _) dX1_addPart_40 (n := 41) rfl ?_
  refine j_aload_n C dX1_addPart_41 rfl (n := 42) rfl ?_
  refine j_dup C dX1_addPart_42 rfl (n := 43) rfl ?_
  refine gf_X1_61 C 1 (cX_1 g _) rfl dX1_addPart_43 (n := 46) rfl ?_
  refine j_dup_x1 C dX1_addPart_46 rfl rfl (n := 47) rfl ?_
  refine j_iconst C dX1_addPart_47 ic_1 (n := 48) rfl ?_
  refine j_iadd C dX1_addPart_48 (n := 49) rfl ?_
  refine pf_X1_61 C 1 (cX_1 g _) (sX_1_10 g _ _) rfl dX1_addPart_49 (n := 52) rfl ?_
  exact j_retP C dX1_addPart_52
set_option maxRecDepth 20000 in
theorem m_X1_addPart_1 (l : Launch) (x1 : Int32) (x2 : Int32) (x3 : Int32) (x4 : Int32) (h : Hp) {r : Int32 × Hp} (e : X1_addPart 1 x1 x2 x3 x4 h = some r) : CT l yX1_addPart cX1_addPart 5 (some .int) 0 cwX (fun g => [rf g 1, .int x1, .int x2, .int x3, .int x4]) h (qI cwX r.1 r.2) := by
  refine ct_of (QR := (fun r : Int32 × Hp => qI cwX r.1 r.2)) (by decide +kernel) (fun g => ⟨rfl, Nat.le_of_ble_eq_true rfl⟩) e (fun x g hl C => ?_)
  unfold X1_addPart
  refine j_aload_n C dX1_addPart_0 rfl (n := 1) rfl ?_
  refine gf_X1_9 C 1 (cX_1 g _) rfl dX1_addPart_1 (n := 4) rfl ?_
  refine j_aload_n C dX1_addPart_4 rfl (n := 5) rfl ?_
  refine gf_X1_61 C 1 (cX_1 g _) rfl dX1_addPart_5 (n := 8) rfl ?_
  refine j_iload_n C dX1_addPart_8 rfl (n := 9) rfl ?_
  refine j_iast C 2 (cX_2 g _) (aX_2 g _ _ _) dX1_addPart_9 (n := 10) rfl ?_
  refine j_aload_n C dX1_addPart_10 rfl (n := 11) rfl ?_
  refine gf_X1_15 C 1 (cX_1 g _) rfl dX1_addPart_11 (n := 14) rfl ?_
  refine j_aload_n C dX1_addPart_14 rfl (n := 15) rfl ?_
  refine gf_X1_61 C 1 (cX_1 g _) rfl dX1_addPart_15 (n := 18) rfl ?_
  refine j_iload_n C dX1_addPart_18 rfl (n := 19) rfl ?_
  refine j_iast C 3 (cX_3 g _) (aX_3 g _ _ _) dX1_addPart_19 (n := 20) rfl ?_
  refine j_aload_n C dX1_addPart_20 rfl (n := 21) rfl ?_
  refine gf_X1_18 C 1 (cX_1 g _) rfl dX1_addPart_21 (n := 24) rfl ?_
  refine j_aload_n C dX1_addPart_24 rfl (n := 25) rfl ?_
  refine gf_X1_61 C 1 (cX_1 g _) rfl dX1_addPart_25 (n := 28) rfl ?_
  refine j_iload_n C dX1_addPart_28 rfl (n := 29) rfl ?_
  refine j_iast C 4 (cX_4 g _) (aX_4 g _ _ _) dX1_addPart_29 (n := 30) rfl ?_
  refine j_aload_n C dX1_addPart_30 rfl (n := 31) rfl ?_
  refine gf_X1_21 C 1 (cX_1 g _) rfl dX1_addPart_31 (n := 34) rfl ?_
  refine j_aload_n C dX1_addPart_34 rfl (n := 35) rfl ?_
  refine gf_X1_61 C 1 (cX_1 g _) rfl dX1_addPart_35 (n := 38) rfl ?_
  exact j_to (j_X1_addPart_38_1 C _ _ _) ⟨rfl, ⟨rfl, trivial⟩⟩
-- X1_addPart
set_option maxRecDepth 20000 in
theorem j_X1_addPart_38_23 {x : Fx} {g : Gl} (C : Ok x g RX1 cX1_addPart 5 (some .int)) (x4 : Int32) (s1 : Int32) (h : Hp) : J x g cwX 5 0 (fun r : Int32 × Hp => qI cwX r.1 r.2) 38 [some (rf g 23), none, none, none, some (.int x4)] [.int s1, rf g 27] h (X1_addPart_38 23 x4 s1 h) := by
  unfold X1_addPart_38
  refine j_iload C dX1_addPart_38 rfl (n := 40) rfl ?_
  refine j_iast C 27 (cX_27 g _) (aX_27 g _ _ _) dX1_addPart_40 (n := 41) rfl ?_
  refine j_aload_n C dX1_addPart_41 rfl (n := 42) rfl ?_
  refine j_dup C dX1_addPart_42 rfl (n := 43) rfl ?_
  refine gf_X1_61 C 23 (cX_23 g _) rfl dX1_addPart_43 (n := 46) rfl ?_
  refine j_dup_x1 C dX1_addPart_46 rfl rfl (n := 47) rfl ?_
  refine j_iconst C dX1_addPart_47 ic_1 (n := 48) rfl ?_
  refine j_iadd C dX1_addPart_48 (n := 49) rfl ?_
  refine pf_X1_61 C 23 (cX_23 g _) (sX_23_10 g _ _) rfl dX1_addPart_49 (n := 52) rfl ?_
  exact j_retP C dX1_addPart_52
set_option maxRecDepth 20000 in
theorem m_X1_addPart_23 (l : Launch) (x1 : Int32) (x2 : Int32) (x3 : Int32) (x4 : Int32) (h : Hp) {r : Int32 × Hp} (e : X1_addPart 23 x1 x2 x3 x4 h = some r) : CT l yX1_addPart cX1_addPart 5 (some .int) 0 cwX (fun g => [rf g 23, .int x1, .int x2, .int x3, .int x4]) h (qI cwX r.1 r.2) := by
  refine ct_of (QR := (fun r : Int32 × Hp => qI cwX r.1 r.2)) (by decide +kernel) (fun g => ⟨rfl, Nat.le_of_ble_eq_true rfl⟩) e (fun x g hl C => ?_)
  unfold X1_addPart
  refine j_aload_n C dX1_addPart_0 rfl (n := 1) rfl ?_
  refine gf_X1_9 C 23 (cX_23 g _) rfl dX1_addPart_1 (n := 4) rfl ?_
  refine j_aload_n C dX1_addPart_4 rfl (n := 5) rfl ?_
  refine gf_X1_61 C 23 (cX_23 g _) rfl dX1_addPart_5 (n := 8) rfl ?_
  refine j_iload_n C dX1_addPart_8 rfl (n := 9) rfl ?_
  refine j_iast C 24 (cX_24 g _) (aX_24 g _ _ _) dX1_addPart_9 (n := 10) rfl ?_
  refine j_aload_n C dX1_addPart_10 rfl (n := 11) rfl ?_
  refine gf_X1_15 C 23 (cX_23 g _) rfl dX1_addPart_11 (n := 14) rfl ?_
  refine j_aload_n C dX1_addPart_14 rfl (n := 15) rfl ?_
  refine gf_X1_61 C 23 (cX_23 g _) rfl dX1_addPart_15 (n := 18) rfl ?_
  refine j_iload_n C dX1_addPart_18 rfl (n := 19) rfl ?_
  refine j_iast C 25 (cX_25 g _) (aX_25 g _ _ _) dX1_addPart_19 (n := 20) rfl ?_
  refine j_aload_n C dX1_addPart_20 rfl (n := 21) rfl ?_
  refine gf_X1_18 C 23 (cX_23 g _) rfl dX1_addPart_21 (n := 24) rfl ?_
  refine j_aload_n C dX1_addPart_24 rfl (n := 25) rfl ?_
  refine gf_X1_61 C 23 (cX_23 g _) rfl dX1_addPart_25 (n := 28) rfl ?_
  refine j_iload_n C dX1_addPart_28 rfl (n := 29) rfl ?_
  refine j_iast C 26 (cX_26 g _) (aX_26 g _ _ _) dX1_addPart_29 (n := 30) rfl ?_
  refine j_aload_n C dX1_addPart_30 rfl (n := 31) rfl ?_
  refine gf_X1_21 C 23 (cX_23 g _) rfl dX1_addPart_31 (n := 34) rfl ?_
  refine j_aload_n C dX1_addPart_34 rfl (n := 35) rfl ?_
  refine gf_X1_61 C 23 (cX_23 g _) rfl dX1_addPart_35 (n := 38) rfl ?_
  exact j_to (j_X1_addPart_38_23 C _ _ _) ⟨rfl, ⟨rfl, trivial⟩⟩
-- X7_part
set_option maxRecDepth 20000 in
theorem m_X7_part (l : Launch) (x1 : Int32) (h : Hp) {r : Int32 × Hp} (e : X7_part x1 h = some r) : CT l yX7_part cX7_part 2 (some .int) 2 cwX (fun g => [rf g 0, .int x1]) h (qI cwX r.1 r.2) := by
  refine ct_of (QR := (fun r : Int32 × Hp => qI cwX r.1 r.2)) (by decide +kernel) (fun g => ⟨rfl, Nat.le_of_ble_eq_true rfl⟩) e (fun x g hl C => ?_)
  unfold X7_part
  refine j_iload_n C dX7_part_0 rfl (n := 1) rfl ?_
  refine j_cz C (run_S C mi_X7_isKind lm_X7_63 st_X7_isKind ⟨Nat.le_of_ble_eq_true rfl, Nat.le_of_ble_eq_true rfl⟩ (m_X7_isKind _ _ _) rfl rfl rfl (Nat.le_of_ble_eq_true rfl) dX7_part_1) (n := 4) rfl (fun b1 => ?_)
  refine j_if_ne C dX7_part_4 (tgt := 14) (n := 7) (by decide) rfl (fun q2 => ?_) (fun q2 => ?_)
  · refine j_aload_n C dX7_part_14 rfl (n := 15) rfl ?_
    refine gf_X7_12 C 0 (cX_0 g _) rfl dX7_part_15 (n := 18) rfl ?_
    refine gf_X7_72 C 1 (cX_1 g _) rfl dX7_part_18 (n := 21) rfl ?_
    refine j_bipush C dX7_part_21 bp_10 (n := 23) rfl ?_
    refine j_icmp_lt C dX7_part_23 (tgt := 33) (n := 26) (by decide) rfl (fun q3 => ?_) (fun q3 => ?_)
    · refine j_aload_n C dX7_part_33 rfl (n := 34) rfl ?_
      refine gf_X7_12 C 0 (cX_0 g _) rfl dX7_part_34 (n := 37) rfl ?_
      refine j_iload_n C dX7_part_37 rfl (n := 38) rfl ?_
      refine j_iconst C dX7_part_38 ic_0 (n := 39) rfl ?_
      refine j_bipush C dX7_part_39 bp_10 (n := 41) rfl ?_
      refine j_iconst C dX7_part_41 ic_m1 (n := 42) rfl ?_
      refine j_bnd (fun r5 q4 => ?_)
      refine j_ci C (run_V C mi_X1_addPart lm_X7_77 iv_X1_addPart ⟨Nat.le_of_ble_eq_true rfl, Nat.le_of_ble_eq_true rfl⟩ (m_X1_addPart_1 _ _ _ _ _ _ q4) (cX_1 g _) rfl rfl rfl rfl (Nat.le_of_ble_eq_true rfl) dX7_part_42) (n := 45) rfl ?_
      exact j_retP C dX7_part_45
    · refine j_aload_n C dX7_part_26 rfl (n := 27) rfl ?_
      refine j_ldc C dX7_part_27 kc_X7_76 (n := 29) rfl ?_
      refine j_bnd (fun r8 q7 => ?_)
      refine j_ci C (run_V C mi_X7_finding lm_X7_68 iv_X7_finding ⟨Nat.le_of_ble_eq_true rfl, Nat.le_of_ble_eq_true rfl⟩ (m_X7_finding _ _ _ q7) (cX_0 g _) rfl rfl rfl rfl (Nat.le_of_ble_eq_true rfl) dX7_part_29) (n := 32) rfl ?_
      exact j_retP C dX7_part_32
  · refine j_aload_n C dX7_part_7 rfl (n := 8) rfl ?_
    refine j_ldc C dX7_part_8 kc_X7_67 (n := 10) rfl ?_
    refine j_bnd (fun r11 q10 => ?_)
    refine j_ci C (run_V C mi_X7_finding lm_X7_68 iv_X7_finding ⟨Nat.le_of_ble_eq_true rfl, Nat.le_of_ble_eq_true rfl⟩ (m_X7_finding _ _ _ q10) (cX_0 g _) rfl rfl rfl rfl (Nat.le_of_ble_eq_true rfl) dX7_part_10) (n := 13) rfl ?_
    exact j_retP C dX7_part_13
-- X1_traits
set_option maxRecDepth 20000 in
theorem m_X1_traits_0 (l : Launch) (x1 : Int32) (q1 : x1 = (0 : Int32)) (h : Hp) : CT l yX1_traits cX1_traits 2 (some (.array .int)) 0 cwX (fun g => [rf g 1, .int x1]) h (qR cwX (fun g => some (g.2.1 2)) h) := by
  refine ct_of (QR := fun _ => qR cwX (fun g => some (g.2.1 2)) h) (E := some ()) (r := ()) (by decide +kernel) (fun g => ⟨rfl, Nat.le_of_ble_eq_true rfl⟩) rfl (fun x g hl C => ?_)
  refine j_iload_n C dX1_traits_0 rfl (n := 1) rfl ?_
  refine j_tabIn C dX1_traits_1 q1 (off := 31) (by decide) (n := 32) (by decide) ?_
  refine j_aload_n C dX1_traits_32 rfl (n := 33) rfl ?_
  refine gf_X1_9 C 1 (cX_1 g _) rfl dX1_traits_33 (n := 36) rfl ?_
  exact j_retA C (Or.inr ⟨_, rfl⟩) dX1_traits_36 rfl
set_option maxRecDepth 20000 in
theorem m_X1_traits_1 (l : Launch) (x1 : Int32) (q2 : x1 = (1 : Int32)) (h : Hp) : CT l yX1_traits cX1_traits 2 (some (.array .int)) 0 cwX (fun g => [rf g 1, .int x1]) h (qR cwX (fun g => some (g.2.1 3)) h) := by
  refine ct_of (QR := fun _ => qR cwX (fun g => some (g.2.1 3)) h) (E := some ()) (r := ()) (by decide +kernel) (fun g => ⟨rfl, Nat.le_of_ble_eq_true rfl⟩) rfl (fun x g hl C => ?_)
  refine j_iload_n C dX1_traits_0 rfl (n := 1) rfl ?_
  refine j_tabIn C dX1_traits_1 q2 (off := 36) (by decide) (n := 37) (by decide) ?_
  refine j_aload_n C dX1_traits_37 rfl (n := 38) rfl ?_
  refine gf_X1_15 C 1 (cX_1 g _) rfl dX1_traits_38 (n := 41) rfl ?_
  exact j_retA C (Or.inr ⟨_, rfl⟩) dX1_traits_41 rfl
set_option maxRecDepth 20000 in
theorem m_X1_traits_2 (l : Launch) (x1 : Int32) (q3 : x1 = (2 : Int32)) (h : Hp) : CT l yX1_traits cX1_traits 2 (some (.array .int)) 0 cwX (fun g => [rf g 1, .int x1]) h (qR cwX (fun g => some (g.2.1 4)) h) := by
  refine ct_of (QR := fun _ => qR cwX (fun g => some (g.2.1 4)) h) (E := some ()) (r := ()) (by decide +kernel) (fun g => ⟨rfl, Nat.le_of_ble_eq_true rfl⟩) rfl (fun x g hl C => ?_)
  refine j_iload_n C dX1_traits_0 rfl (n := 1) rfl ?_
  refine j_tabIn C dX1_traits_1 q3 (off := 41) (by decide) (n := 42) (by decide) ?_
  refine j_aload_n C dX1_traits_42 rfl (n := 43) rfl ?_
  refine gf_X1_18 C 1 (cX_1 g _) rfl dX1_traits_43 (n := 46) rfl ?_
  exact j_retA C (Or.inr ⟨_, rfl⟩) dX1_traits_46 rfl
set_option maxRecDepth 20000 in
theorem m_X1_traits_3 (l : Launch) (x1 : Int32) (q4 : x1 = (3 : Int32)) (h : Hp) : CT l yX1_traits cX1_traits 2 (some (.array .int)) 0 cwX (fun g => [rf g 1, .int x1]) h (qR cwX (fun g => some (g.2.1 5)) h) := by
  refine ct_of (QR := fun _ => qR cwX (fun g => some (g.2.1 5)) h) (E := some ()) (r := ()) (by decide +kernel) (fun g => ⟨rfl, Nat.le_of_ble_eq_true rfl⟩) rfl (fun x g hl C => ?_)
  refine j_iload_n C dX1_traits_0 rfl (n := 1) rfl ?_
  refine j_tabIn C dX1_traits_1 q4 (off := 46) (by decide) (n := 47) (by decide) ?_
  refine j_aload_n C dX1_traits_47 rfl (n := 48) rfl ?_
  refine gf_X1_21 C 1 (cX_1 g _) rfl dX1_traits_48 (n := 51) rfl ?_
  exact j_retA C (Or.inr ⟨_, rfl⟩) dX1_traits_51 rfl
set_option maxRecDepth 20000 in
theorem m_X1_traits_d (l : Launch) (x1 : Int32) (q1 : ¬ x1 = (0 : Int32)) (q2 : ¬ x1 = (1 : Int32)) (q3 : ¬ x1 = (2 : Int32)) (q4 : ¬ x1 = (3 : Int32)) (h : Hp) : CT l yX1_traits cX1_traits 2 (some (.array .int)) 0 cwX (fun g => [rf g 1, .int x1]) h (qR cwX (fun _ => none) h) := by
  refine ct_of (QR := fun _ => qR cwX (fun _ => none) h) (E := some ()) (r := ()) (by decide +kernel) (fun g => ⟨rfl, Nat.le_of_ble_eq_true rfl⟩) rfl (fun x g hl C => ?_)
  refine j_iload_n C dX1_traits_0 rfl (n := 1) rfl ?_
  refine j_tabOut C dX1_traits_1 (tabout_0_3 q1 q2 q3 q4) (n := 52) (by decide) ?_
  refine j_null C dX1_traits_52 (n := 53) rfl ?_
  exact j_retN C (Or.inr ⟨_, rfl⟩) dX1_traits_53 rfl
-- X1_hasPart
set_option maxRecDepth 20000 in
theorem m_X1_hasPart (l : Launch) (x1 : Int32) (h : Hp) : CT l yX1_hasPart cX1_hasPart 2 (some .boolean) 1 cwX (fun g => [rf g 1, .int x1]) h (qZ cwX (X1_hasPart x1 h) h) := by
  refine ct_of (QR := (fun r : Int32 => qZ cwX r h)) (by decide +kernel) (fun g => ⟨rfl, Nat.le_of_ble_eq_true rfl⟩) (X1_hasPart_e x1 h) (fun x g hl C => ?_)
  unfold X1_hasPart_o
  refine j_iload_n C dX1_hasPart_0 rfl (n := 1) rfl ?_
  refine j_iconst C dX1_hasPart_1 ic_0 (n := 2) rfl ?_
  refine j_aload_n C dX1_hasPart_2 rfl (n := 3) rfl ?_
  refine gf_X1_61 C 1 (cX_1 g _) rfl dX1_hasPart_3 (n := 6) rfl ?_
  refine j_iconst C dX1_hasPart_6 ic_1 (n := 7) rfl ?_
  refine j_isub C dX1_hasPart_7 (n := 8) rfl ?_
  refine j_cz C (run_SN C mi_X7_within ns_X1_70 st_X7_within ⟨Nat.le_of_ble_eq_true rfl, Nat.le_of_ble_eq_true rfl⟩ (m_X7_within _ _ _ _ _) rfl rfl rfl (Nat.le_of_ble_eq_true rfl) dX1_hasPart_8) (n := 11) rfl (fun b1 => ?_)
  exact j_retZ C b1 dX1_hasPart_11
-- X7_of
set_option maxRecDepth 20000 in
theorem m_X7_of (l : Launch) (x1 : Int32) (x2 : Int32) (h : Hp) {r : Int32 × Hp} (e : X7_of x1 x2 h = some r) : CT l yX7_of cX7_of 4 (some .int) 2 cwX (fun g => [rf g 0, .int x1, .int x2]) h (qI cwX r.1 r.2) := by
  refine ct_of (QR := (fun r : Int32 × Hp => qI cwX r.1 r.2)) (by decide +kernel) (fun g => ⟨rfl, Nat.le_of_ble_eq_true rfl⟩) e (fun x g hl C => ?_)
  unfold X7_of
  refine j_aload_n C dX7_of_0 rfl (n := 1) rfl ?_
  refine gf_X7_12 C 0 (cX_0 g _) rfl dX7_of_1 (n := 4) rfl ?_
  refine j_iload_n C dX7_of_4 rfl (n := 5) rfl ?_
  refine j_split (fun q1 => ?_) (fun q1 => ?_)
  · refine j_cq C (run_V C mi_X1_traits lm_X7_81 iv_X1_traits ⟨Nat.le_of_ble_eq_true rfl, Nat.le_of_ble_eq_true rfl⟩ (m_X1_traits_0 _ _ q1 _) (cX_1 g _) rfl rfl rfl rfl (Nat.le_of_ble_eq_true rfl) dX7_of_5) rfl ?_
    refine j_astore_n C dX7_of_8 (Nat.le_of_ble_eq_true rfl) (n := 9) rfl ?_
    refine j_aload_n C dX7_of_9 rfl (n := 10) rfl ?_
    refine gf_X7_12 C 0 (cX_0 g _) rfl dX7_of_10 (n := 13) rfl ?_
    refine j_iload_n C dX7_of_13 rfl (n := 14) rfl ?_
    refine j_cz C (run_V C mi_X1_hasPart lm_X7_85 iv_X1_hasPart ⟨Nat.le_of_ble_eq_true rfl, Nat.le_of_ble_eq_true rfl⟩ (m_X1_hasPart _ _ _) (cX_1 g _) rfl rfl rfl rfl (Nat.le_of_ble_eq_true rfl) dX7_of_14) (n := 17) rfl (fun b2 => ?_)
    refine j_if_eq C dX7_of_17 (tgt := 24) (n := 20) (by decide) rfl (fun q3 => ?_) (fun q3 => ?_)
    · refine j_aload_n C dX7_of_24 rfl (n := 25) rfl ?_
      refine j_ldc C dX7_of_25 kc_X7_67 (n := 27) rfl ?_
      refine j_bnd (fun r5 q4 => ?_)
      refine j_ci C (run_V C mi_X7_finding lm_X7_68 iv_X7_finding ⟨Nat.le_of_ble_eq_true rfl, Nat.le_of_ble_eq_true rfl⟩ (m_X7_finding _ _ _ q4) (cX_0 g _) rfl rfl rfl rfl (Nat.le_of_ble_eq_true rfl) dX7_of_27) (n := 30) rfl ?_
      exact j_retP C dX7_of_30
    · refine j_aload_n C dX7_of_20 rfl (n := 21) rfl ?_
      refine j_ifnonnull C dX7_of_21 (n := 31) (by decide) ?_
      refine j_aload_n C dX7_of_31 rfl (n := 32) rfl ?_
      refine j_iload_n C dX7_of_32 rfl (n := 33) rfl ?_
      refine j_iald C 2 (cX_2 g _) dX7_of_33 (n := 34) rfl ?_
      exact j_retP C dX7_of_34
  · refine j_split (fun q7 => ?_) (fun q7 => ?_)
    · refine j_cq C (run_V C mi_X1_traits lm_X7_81 iv_X1_traits ⟨Nat.le_of_ble_eq_true rfl, Nat.le_of_ble_eq_true rfl⟩ (m_X1_traits_1 _ _ q7 _) (cX_1 g _) rfl rfl rfl rfl (Nat.le_of_ble_eq_true rfl) dX7_of_5) rfl ?_
      refine j_astore_n C dX7_of_8 (Nat.le_of_ble_eq_true rfl) (n := 9) rfl ?_
      refine j_aload_n C dX7_of_9 rfl (n := 10) rfl ?_
      refine gf_X7_12 C 0 (cX_0 g _) rfl dX7_of_10 (n := 13) rfl ?_
      refine j_iload_n C dX7_of_13 rfl (n := 14) rfl ?_
      refine j_cz C (run_V C mi_X1_hasPart lm_X7_85 iv_X1_hasPart ⟨Nat.le_of_ble_eq_true rfl, Nat.le_of_ble_eq_true rfl⟩ (m_X1_hasPart _ _ _) (cX_1 g _) rfl rfl rfl rfl (Nat.le_of_ble_eq_true rfl) dX7_of_14) (n := 17) rfl (fun b8 => ?_)
      refine j_if_eq C dX7_of_17 (tgt := 24) (n := 20) (by decide) rfl (fun q9 => ?_) (fun q9 => ?_)
      · refine j_aload_n C dX7_of_24 rfl (n := 25) rfl ?_
        refine j_ldc C dX7_of_25 kc_X7_67 (n := 27) rfl ?_
        refine j_bnd (fun r11 q10 => ?_)
        refine j_ci C (run_V C mi_X7_finding lm_X7_68 iv_X7_finding ⟨Nat.le_of_ble_eq_true rfl, Nat.le_of_ble_eq_true rfl⟩ (m_X7_finding _ _ _ q10) (cX_0 g _) rfl rfl rfl rfl (Nat.le_of_ble_eq_true rfl) dX7_of_27) (n := 30) rfl ?_
        exact j_retP C dX7_of_30
      · refine j_aload_n C dX7_of_20 rfl (n := 21) rfl ?_
        refine j_ifnonnull C dX7_of_21 (n := 31) (by decide) ?_
        refine j_aload_n C dX7_of_31 rfl (n := 32) rfl ?_
        refine j_iload_n C dX7_of_32 rfl (n := 33) rfl ?_
        refine j_iald C 3 (cX_3 g _) dX7_of_33 (n := 34) rfl ?_
        exact j_retP C dX7_of_34
    · refine j_split (fun q13 => ?_) (fun q13 => ?_)
      · refine j_cq C (run_V C mi_X1_traits lm_X7_81 iv_X1_traits ⟨Nat.le_of_ble_eq_true rfl, Nat.le_of_ble_eq_true rfl⟩ (m_X1_traits_2 _ _ q13 _) (cX_1 g _) rfl rfl rfl rfl (Nat.le_of_ble_eq_true rfl) dX7_of_5) rfl ?_
        refine j_astore_n C dX7_of_8 (Nat.le_of_ble_eq_true rfl) (n := 9) rfl ?_
        refine j_aload_n C dX7_of_9 rfl (n := 10) rfl ?_
        refine gf_X7_12 C 0 (cX_0 g _) rfl dX7_of_10 (n := 13) rfl ?_
        refine j_iload_n C dX7_of_13 rfl (n := 14) rfl ?_
        refine j_cz C (run_V C mi_X1_hasPart lm_X7_85 iv_X1_hasPart ⟨Nat.le_of_ble_eq_true rfl, Nat.le_of_ble_eq_true rfl⟩ (m_X1_hasPart _ _ _) (cX_1 g _) rfl rfl rfl rfl (Nat.le_of_ble_eq_true rfl) dX7_of_14) (n := 17) rfl (fun b14 => ?_)
        refine j_if_eq C dX7_of_17 (tgt := 24) (n := 20) (by decide) rfl (fun q15 => ?_) (fun q15 => ?_)
        · refine j_aload_n C dX7_of_24 rfl (n := 25) rfl ?_
          refine j_ldc C dX7_of_25 kc_X7_67 (n := 27) rfl ?_
          refine j_bnd (fun r17 q16 => ?_)
          refine j_ci C (run_V C mi_X7_finding lm_X7_68 iv_X7_finding ⟨Nat.le_of_ble_eq_true rfl, Nat.le_of_ble_eq_true rfl⟩ (m_X7_finding _ _ _ q16) (cX_0 g _) rfl rfl rfl rfl (Nat.le_of_ble_eq_true rfl) dX7_of_27) (n := 30) rfl ?_
          exact j_retP C dX7_of_30
        · refine j_aload_n C dX7_of_20 rfl (n := 21) rfl ?_
          refine j_ifnonnull C dX7_of_21 (n := 31) (by decide) ?_
          refine j_aload_n C dX7_of_31 rfl (n := 32) rfl ?_
          refine j_iload_n C dX7_of_32 rfl (n := 33) rfl ?_
          refine j_iald C 4 (cX_4 g _) dX7_of_33 (n := 34) rfl ?_
          exact j_retP C dX7_of_34
      · refine j_split (fun q19 => ?_) (fun q19 => ?_)
        · refine j_cq C (run_V C mi_X1_traits lm_X7_81 iv_X1_traits ⟨Nat.le_of_ble_eq_true rfl, Nat.le_of_ble_eq_true rfl⟩ (m_X1_traits_3 _ _ q19 _) (cX_1 g _) rfl rfl rfl rfl (Nat.le_of_ble_eq_true rfl) dX7_of_5) rfl ?_
          refine j_astore_n C dX7_of_8 (Nat.le_of_ble_eq_true rfl) (n := 9) rfl ?_
          refine j_aload_n C dX7_of_9 rfl (n := 10) rfl ?_
          refine gf_X7_12 C 0 (cX_0 g _) rfl dX7_of_10 (n := 13) rfl ?_
          refine j_iload_n C dX7_of_13 rfl (n := 14) rfl ?_
          refine j_cz C (run_V C mi_X1_hasPart lm_X7_85 iv_X1_hasPart ⟨Nat.le_of_ble_eq_true rfl, Nat.le_of_ble_eq_true rfl⟩ (m_X1_hasPart _ _ _) (cX_1 g _) rfl rfl rfl rfl (Nat.le_of_ble_eq_true rfl) dX7_of_14) (n := 17) rfl (fun b20 => ?_)
          refine j_if_eq C dX7_of_17 (tgt := 24) (n := 20) (by decide) rfl (fun q21 => ?_) (fun q21 => ?_)
          · refine j_aload_n C dX7_of_24 rfl (n := 25) rfl ?_
            refine j_ldc C dX7_of_25 kc_X7_67 (n := 27) rfl ?_
            refine j_bnd (fun r23 q22 => ?_)
            refine j_ci C (run_V C mi_X7_finding lm_X7_68 iv_X7_finding ⟨Nat.le_of_ble_eq_true rfl, Nat.le_of_ble_eq_true rfl⟩ (m_X7_finding _ _ _ q22) (cX_0 g _) rfl rfl rfl rfl (Nat.le_of_ble_eq_true rfl) dX7_of_27) (n := 30) rfl ?_
            exact j_retP C dX7_of_30
          · refine j_aload_n C dX7_of_20 rfl (n := 21) rfl ?_
            refine j_ifnonnull C dX7_of_21 (n := 31) (by decide) ?_
            refine j_aload_n C dX7_of_31 rfl (n := 32) rfl ?_
            refine j_iload_n C dX7_of_32 rfl (n := 33) rfl ?_
            refine j_iald C 5 (cX_5 g _) dX7_of_33 (n := 34) rfl ?_
            exact j_retP C dX7_of_34
        · refine j_cqN C (run_V C mi_X1_traits lm_X7_81 iv_X1_traits ⟨Nat.le_of_ble_eq_true rfl, Nat.le_of_ble_eq_true rfl⟩ (m_X1_traits_d _ _ q1 q7 q13 q19 _) (cX_1 g _) rfl rfl rfl rfl (Nat.le_of_ble_eq_true rfl) dX7_of_5) rfl ?_
          refine j_astore_nN C dX7_of_8 (Nat.le_of_ble_eq_true rfl) (n := 9) rfl ?_
          refine j_aload_n C dX7_of_9 rfl (n := 10) rfl ?_
          refine gf_X7_12 C 0 (cX_0 g _) rfl dX7_of_10 (n := 13) rfl ?_
          refine j_iload_n C dX7_of_13 rfl (n := 14) rfl ?_
          refine j_cz C (run_V C mi_X1_hasPart lm_X7_85 iv_X1_hasPart ⟨Nat.le_of_ble_eq_true rfl, Nat.le_of_ble_eq_true rfl⟩ (m_X1_hasPart _ _ _) (cX_1 g _) rfl rfl rfl rfl (Nat.le_of_ble_eq_true rfl) dX7_of_14) (n := 17) rfl (fun b25 => ?_)
          refine j_if_eq C dX7_of_17 (tgt := 24) (n := 20) (by decide) rfl (fun q26 => ?_) (fun q26 => ?_)
          · refine j_aload_n C dX7_of_24 rfl (n := 25) rfl ?_
            refine j_ldc C dX7_of_25 kc_X7_67 (n := 27) rfl ?_
            refine j_bnd (fun r28 q27 => ?_)
            refine j_ci C (run_V C mi_X7_finding lm_X7_68 iv_X7_finding ⟨Nat.le_of_ble_eq_true rfl, Nat.le_of_ble_eq_true rfl⟩ (m_X7_finding _ _ _ q27) (cX_0 g _) rfl rfl rfl rfl (Nat.le_of_ble_eq_true rfl) dX7_of_27) (n := 30) rfl ?_
            exact j_retP C dX7_of_30
          · refine j_aload_nN C dX7_of_20 rfl (n := 21) rfl ?_
            refine j_ifnonnullN C dX7_of_21 (n := 24) rfl ?_
            refine j_aload_n C dX7_of_24 rfl (n := 25) rfl ?_
            refine j_ldc C dX7_of_25 kc_X7_67 (n := 27) rfl ?_
            refine j_bnd (fun r31 q30 => ?_)
            refine j_ci C (run_V C mi_X7_finding lm_X7_68 iv_X7_finding ⟨Nat.le_of_ble_eq_true rfl, Nat.le_of_ble_eq_true rfl⟩ (m_X7_finding _ _ _ q30) (cX_0 g _) rfl rfl rfl rfl (Nat.le_of_ble_eq_true rfl) dX7_of_27) (n := 30) rfl ?_
            exact j_retP C dX7_of_30
-- X7_change
set_option maxRecDepth 20000 in
theorem m_X7_change (l : Launch) (x1 : Int32) (x2 : Int32) (x3 : Int32) (h : Hp) {r : Int32 × Hp} (e : X7_change x1 x2 x3 h = some r) : CT l yX7_change cX7_change 6 (some .int) 2 cwX (fun g => [rf g 0, .int x1, .int x2, .int x3]) h (qI cwX r.1 r.2) := by
  refine ct_of (QR := (fun r : Int32 × Hp => qI cwX r.1 r.2)) (by decide +kernel) (fun g => ⟨rfl, Nat.le_of_ble_eq_true rfl⟩) e (fun x g hl C => ?_)
  unfold X7_change
  refine j_aload_n C dX7_change_0 rfl (n := 1) rfl ?_
  refine gf_X7_12 C 0 (cX_0 g _) rfl dX7_change_1 (n := 4) rfl ?_
  refine j_iload_n C dX7_change_4 rfl (n := 5) rfl ?_
  refine j_split (fun q1 => ?_) (fun q1 => ?_)
  · refine j_cq C (run_V C mi_X1_traits lm_X7_81 iv_X1_traits ⟨Nat.le_of_ble_eq_true rfl, Nat.le_of_ble_eq_true rfl⟩ (m_X1_traits_0 _ _ q1 _) (cX_1 g _) rfl rfl rfl rfl (Nat.le_of_ble_eq_true rfl) dX7_change_5) rfl ?_
    refine j_astore C dX7_change_8 (Nat.le_of_ble_eq_true rfl) (n := 10) rfl ?_
    refine j_aload_n C dX7_change_10 rfl (n := 11) rfl ?_
    refine gf_X7_12 C 0 (cX_0 g _) rfl dX7_change_11 (n := 14) rfl ?_
    refine j_iload_n C dX7_change_14 rfl (n := 15) rfl ?_
    refine j_cz C (run_V C mi_X1_hasPart lm_X7_85 iv_X1_hasPart ⟨Nat.le_of_ble_eq_true rfl, Nat.le_of_ble_eq_true rfl⟩ (m_X1_hasPart _ _ _) (cX_1 g _) rfl rfl rfl rfl (Nat.le_of_ble_eq_true rfl) dX7_change_15) (n := 18) rfl (fun b2 => ?_)
    refine j_if_eq C dX7_change_18 (tgt := 43) (n := 21) (by decide) rfl (fun q3 => ?_) (fun q3 => ?_)
    · refine j_aload_n C dX7_change_43 rfl (n := 44) rfl ?_
      refine j_ldc C dX7_change_44 kc_X7_67 (n := 46) rfl ?_
      refine j_bnd (fun r5 q4 => ?_)
      refine j_ci C (run_V C mi_X7_finding lm_X7_68 iv_X7_finding ⟨Nat.le_of_ble_eq_true rfl, Nat.le_of_ble_eq_true rfl⟩ (m_X7_finding _ _ _ q4) (cX_0 g _) rfl rfl rfl rfl (Nat.le_of_ble_eq_true rfl) dX7_change_46) (n := 49) rfl ?_
      exact j_retP C dX7_change_49
    · refine j_aload C dX7_change_21 rfl (n := 23) rfl ?_
      refine j_ifnull C dX7_change_23 (n := 26) rfl ?_
      refine j_iload_n C dX7_change_26 rfl (n := 27) rfl ?_
      refine j_gets C (sZ_0 g) fl_X7_88 dX7_change_27 (n := 30) rfl ?_
      refine j_iload_n C dX7_change_30 rfl (n := 31) rfl ?_
      refine j_ti C (sT_0 g) dX7_change_31 (n := 32) rfl ?_
      refine j_gets C (sZ_1 g) fl_X7_91 dX7_change_32 (n := 35) rfl ?_
      refine j_iload_n C dX7_change_35 rfl (n := 36) rfl ?_
      refine j_ti C (sT_1 g) dX7_change_36 (n := 37) rfl ?_
      refine j_cz C (run_S C mi_X7_within lm_X7_94 st_X7_within ⟨Nat.le_of_ble_eq_true rfl, Nat.le_of_ble_eq_true rfl⟩ (m_X7_within _ _ _ _ _) rfl rfl rfl (Nat.le_of_ble_eq_true rfl) dX7_change_37) (n := 40) rfl (fun b7 => ?_)
      refine j_if_ne C dX7_change_40 (tgt := 50) (n := 43) (by decide) rfl (fun q8 => ?_) (fun q8 => ?_)
      · refine j_aload C dX7_change_50 rfl (n := 52) rfl ?_
        refine j_iload_n C dX7_change_52 rfl (n := 53) rfl ?_
        refine j_iald C 2 (cX_2 g _) dX7_change_53 (n := 54) rfl ?_
        refine j_istore C dX7_change_54 (Nat.le_of_ble_eq_true rfl) (n := 56) rfl ?_
        refine j_aload C dX7_change_56 rfl (n := 58) rfl ?_
        refine j_iload_n C dX7_change_58 rfl (n := 59) rfl ?_
        refine j_iload_n C dX7_change_59 rfl (n := 60) rfl ?_
        refine j_iast C 2 (cX_2 g _) (aX_2 g _ _ _) dX7_change_60 (n := 61) rfl ?_
        refine j_iload C dX7_change_61 rfl (n := 63) rfl ?_
        exact j_retP C dX7_change_63
      · refine j_aload_n C dX7_change_43 rfl (n := 44) rfl ?_
        refine j_ldc C dX7_change_44 kc_X7_67 (n := 46) rfl ?_
        refine j_bnd (fun r10 q9 => ?_)
        refine j_ci C (run_V C mi_X7_finding lm_X7_68 iv_X7_finding ⟨Nat.le_of_ble_eq_true rfl, Nat.le_of_ble_eq_true rfl⟩ (m_X7_finding _ _ _ q9) (cX_0 g _) rfl rfl rfl rfl (Nat.le_of_ble_eq_true rfl) dX7_change_46) (n := 49) rfl ?_
        exact j_retP C dX7_change_49
  · refine j_split (fun q12 => ?_) (fun q12 => ?_)
    · refine j_cq C (run_V C mi_X1_traits lm_X7_81 iv_X1_traits ⟨Nat.le_of_ble_eq_true rfl, Nat.le_of_ble_eq_true rfl⟩ (m_X1_traits_1 _ _ q12 _) (cX_1 g _) rfl rfl rfl rfl (Nat.le_of_ble_eq_true rfl) dX7_change_5) rfl ?_
      refine j_astore C dX7_change_8 (Nat.le_of_ble_eq_true rfl) (n := 10) rfl ?_
      refine j_aload_n C dX7_change_10 rfl (n := 11) rfl ?_
      refine gf_X7_12 C 0 (cX_0 g _) rfl dX7_change_11 (n := 14) rfl ?_
      refine j_iload_n C dX7_change_14 rfl (n := 15) rfl ?_
      refine j_cz C (run_V C mi_X1_hasPart lm_X7_85 iv_X1_hasPart ⟨Nat.le_of_ble_eq_true rfl, Nat.le_of_ble_eq_true rfl⟩ (m_X1_hasPart _ _ _) (cX_1 g _) rfl rfl rfl rfl (Nat.le_of_ble_eq_true rfl) dX7_change_15) (n := 18) rfl (fun b13 => ?_)
      refine j_if_eq C dX7_change_18 (tgt := 43) (n := 21) (by decide) rfl (fun q14 => ?_) (fun q14 => ?_)
      · refine j_aload_n C dX7_change_43 rfl (n := 44) rfl ?_
        refine j_ldc C dX7_change_44 kc_X7_67 (n := 46) rfl ?_
        refine j_bnd (fun r16 q15 => ?_)
        refine j_ci C (run_V C mi_X7_finding lm_X7_68 iv_X7_finding ⟨Nat.le_of_ble_eq_true rfl, Nat.le_of_ble_eq_true rfl⟩ (m_X7_finding _ _ _ q15) (cX_0 g _) rfl rfl rfl rfl (Nat.le_of_ble_eq_true rfl) dX7_change_46) (n := 49) rfl ?_
        exact j_retP C dX7_change_49
      · refine j_aload C dX7_change_21 rfl (n := 23) rfl ?_
        refine j_ifnull C dX7_change_23 (n := 26) rfl ?_
        refine j_iload_n C dX7_change_26 rfl (n := 27) rfl ?_
        refine j_gets C (sZ_0 g) fl_X7_88 dX7_change_27 (n := 30) rfl ?_
        refine j_iload_n C dX7_change_30 rfl (n := 31) rfl ?_
        refine j_ti C (sT_0 g) dX7_change_31 (n := 32) rfl ?_
        refine j_gets C (sZ_1 g) fl_X7_91 dX7_change_32 (n := 35) rfl ?_
        refine j_iload_n C dX7_change_35 rfl (n := 36) rfl ?_
        refine j_ti C (sT_1 g) dX7_change_36 (n := 37) rfl ?_
        refine j_cz C (run_S C mi_X7_within lm_X7_94 st_X7_within ⟨Nat.le_of_ble_eq_true rfl, Nat.le_of_ble_eq_true rfl⟩ (m_X7_within _ _ _ _ _) rfl rfl rfl (Nat.le_of_ble_eq_true rfl) dX7_change_37) (n := 40) rfl (fun b18 => ?_)
        refine j_if_ne C dX7_change_40 (tgt := 50) (n := 43) (by decide) rfl (fun q19 => ?_) (fun q19 => ?_)
        · refine j_aload C dX7_change_50 rfl (n := 52) rfl ?_
          refine j_iload_n C dX7_change_52 rfl (n := 53) rfl ?_
          refine j_iald C 3 (cX_3 g _) dX7_change_53 (n := 54) rfl ?_
          refine j_istore C dX7_change_54 (Nat.le_of_ble_eq_true rfl) (n := 56) rfl ?_
          refine j_aload C dX7_change_56 rfl (n := 58) rfl ?_
          refine j_iload_n C dX7_change_58 rfl (n := 59) rfl ?_
          refine j_iload_n C dX7_change_59 rfl (n := 60) rfl ?_
          refine j_iast C 3 (cX_3 g _) (aX_3 g _ _ _) dX7_change_60 (n := 61) rfl ?_
          refine j_iload C dX7_change_61 rfl (n := 63) rfl ?_
          exact j_retP C dX7_change_63
        · refine j_aload_n C dX7_change_43 rfl (n := 44) rfl ?_
          refine j_ldc C dX7_change_44 kc_X7_67 (n := 46) rfl ?_
          refine j_bnd (fun r21 q20 => ?_)
          refine j_ci C (run_V C mi_X7_finding lm_X7_68 iv_X7_finding ⟨Nat.le_of_ble_eq_true rfl, Nat.le_of_ble_eq_true rfl⟩ (m_X7_finding _ _ _ q20) (cX_0 g _) rfl rfl rfl rfl (Nat.le_of_ble_eq_true rfl) dX7_change_46) (n := 49) rfl ?_
          exact j_retP C dX7_change_49
    · refine j_split (fun q23 => ?_) (fun q23 => ?_)
      · refine j_cq C (run_V C mi_X1_traits lm_X7_81 iv_X1_traits ⟨Nat.le_of_ble_eq_true rfl, Nat.le_of_ble_eq_true rfl⟩ (m_X1_traits_2 _ _ q23 _) (cX_1 g _) rfl rfl rfl rfl (Nat.le_of_ble_eq_true rfl) dX7_change_5) rfl ?_
        refine j_astore C dX7_change_8 (Nat.le_of_ble_eq_true rfl) (n := 10) rfl ?_
        refine j_aload_n C dX7_change_10 rfl (n := 11) rfl ?_
        refine gf_X7_12 C 0 (cX_0 g _) rfl dX7_change_11 (n := 14) rfl ?_
        refine j_iload_n C dX7_change_14 rfl (n := 15) rfl ?_
        refine j_cz C (run_V C mi_X1_hasPart lm_X7_85 iv_X1_hasPart ⟨Nat.le_of_ble_eq_true rfl, Nat.le_of_ble_eq_true rfl⟩ (m_X1_hasPart _ _ _) (cX_1 g _) rfl rfl rfl rfl (Nat.le_of_ble_eq_true rfl) dX7_change_15) (n := 18) rfl (fun b24 => ?_)
        refine j_if_eq C dX7_change_18 (tgt := 43) (n := 21) (by decide) rfl (fun q25 => ?_) (fun q25 => ?_)
        · refine j_aload_n C dX7_change_43 rfl (n := 44) rfl ?_
          refine j_ldc C dX7_change_44 kc_X7_67 (n := 46) rfl ?_
          refine j_bnd (fun r27 q26 => ?_)
          refine j_ci C (run_V C mi_X7_finding lm_X7_68 iv_X7_finding ⟨Nat.le_of_ble_eq_true rfl, Nat.le_of_ble_eq_true rfl⟩ (m_X7_finding _ _ _ q26) (cX_0 g _) rfl rfl rfl rfl (Nat.le_of_ble_eq_true rfl) dX7_change_46) (n := 49) rfl ?_
          exact j_retP C dX7_change_49
        · refine j_aload C dX7_change_21 rfl (n := 23) rfl ?_
          refine j_ifnull C dX7_change_23 (n := 26) rfl ?_
          refine j_iload_n C dX7_change_26 rfl (n := 27) rfl ?_
          refine j_gets C (sZ_0 g) fl_X7_88 dX7_change_27 (n := 30) rfl ?_
          refine j_iload_n C dX7_change_30 rfl (n := 31) rfl ?_
          refine j_ti C (sT_0 g) dX7_change_31 (n := 32) rfl ?_
          refine j_gets C (sZ_1 g) fl_X7_91 dX7_change_32 (n := 35) rfl ?_
          refine j_iload_n C dX7_change_35 rfl (n := 36) rfl ?_
          refine j_ti C (sT_1 g) dX7_change_36 (n := 37) rfl ?_
          refine j_cz C (run_S C mi_X7_within lm_X7_94 st_X7_within ⟨Nat.le_of_ble_eq_true rfl, Nat.le_of_ble_eq_true rfl⟩ (m_X7_within _ _ _ _ _) rfl rfl rfl (Nat.le_of_ble_eq_true rfl) dX7_change_37) (n := 40) rfl (fun b29 => ?_)
          refine j_if_ne C dX7_change_40 (tgt := 50) (n := 43) (by decide) rfl (fun q30 => ?_) (fun q30 => ?_)
          · refine j_aload C dX7_change_50 rfl (n := 52) rfl ?_
            refine j_iload_n C dX7_change_52 rfl (n := 53) rfl ?_
            refine j_iald C 4 (cX_4 g _) dX7_change_53 (n := 54) rfl ?_
            refine j_istore C dX7_change_54 (Nat.le_of_ble_eq_true rfl) (n := 56) rfl ?_
            refine j_aload C dX7_change_56 rfl (n := 58) rfl ?_
            refine j_iload_n C dX7_change_58 rfl (n := 59) rfl ?_
            refine j_iload_n C dX7_change_59 rfl (n := 60) rfl ?_
            refine j_iast C 4 (cX_4 g _) (aX_4 g _ _ _) dX7_change_60 (n := 61) rfl ?_
            refine j_iload C dX7_change_61 rfl (n := 63) rfl ?_
            exact j_retP C dX7_change_63
          · refine j_aload_n C dX7_change_43 rfl (n := 44) rfl ?_
            refine j_ldc C dX7_change_44 kc_X7_67 (n := 46) rfl ?_
            refine j_bnd (fun r32 q31 => ?_)
            refine j_ci C (run_V C mi_X7_finding lm_X7_68 iv_X7_finding ⟨Nat.le_of_ble_eq_true rfl, Nat.le_of_ble_eq_true rfl⟩ (m_X7_finding _ _ _ q31) (cX_0 g _) rfl rfl rfl rfl (Nat.le_of_ble_eq_true rfl) dX7_change_46) (n := 49) rfl ?_
            exact j_retP C dX7_change_49
      · refine j_split (fun q34 => ?_) (fun q34 => ?_)
        · refine j_cq C (run_V C mi_X1_traits lm_X7_81 iv_X1_traits ⟨Nat.le_of_ble_eq_true rfl, Nat.le_of_ble_eq_true rfl⟩ (m_X1_traits_3 _ _ q34 _) (cX_1 g _) rfl rfl rfl rfl (Nat.le_of_ble_eq_true rfl) dX7_change_5) rfl ?_
          refine j_astore C dX7_change_8 (Nat.le_of_ble_eq_true rfl) (n := 10) rfl ?_
          refine j_aload_n C dX7_change_10 rfl (n := 11) rfl ?_
          refine gf_X7_12 C 0 (cX_0 g _) rfl dX7_change_11 (n := 14) rfl ?_
          refine j_iload_n C dX7_change_14 rfl (n := 15) rfl ?_
          refine j_cz C (run_V C mi_X1_hasPart lm_X7_85 iv_X1_hasPart ⟨Nat.le_of_ble_eq_true rfl, Nat.le_of_ble_eq_true rfl⟩ (m_X1_hasPart _ _ _) (cX_1 g _) rfl rfl rfl rfl (Nat.le_of_ble_eq_true rfl) dX7_change_15) (n := 18) rfl (fun b35 => ?_)
          refine j_if_eq C dX7_change_18 (tgt := 43) (n := 21) (by decide) rfl (fun q36 => ?_) (fun q36 => ?_)
          · refine j_aload_n C dX7_change_43 rfl (n := 44) rfl ?_
            refine j_ldc C dX7_change_44 kc_X7_67 (n := 46) rfl ?_
            refine j_bnd (fun r38 q37 => ?_)
            refine j_ci C (run_V C mi_X7_finding lm_X7_68 iv_X7_finding ⟨Nat.le_of_ble_eq_true rfl, Nat.le_of_ble_eq_true rfl⟩ (m_X7_finding _ _ _ q37) (cX_0 g _) rfl rfl rfl rfl (Nat.le_of_ble_eq_true rfl) dX7_change_46) (n := 49) rfl ?_
            exact j_retP C dX7_change_49
          · refine j_aload C dX7_change_21 rfl (n := 23) rfl ?_
            refine j_ifnull C dX7_change_23 (n := 26) rfl ?_
            refine j_iload_n C dX7_change_26 rfl (n := 27) rfl ?_
            refine j_gets C (sZ_0 g) fl_X7_88 dX7_change_27 (n := 30) rfl ?_
            refine j_iload_n C dX7_change_30 rfl (n := 31) rfl ?_
            refine j_ti C (sT_0 g) dX7_change_31 (n := 32) rfl ?_
            refine j_gets C (sZ_1 g) fl_X7_91 dX7_change_32 (n := 35) rfl ?_
            refine j_iload_n C dX7_change_35 rfl (n := 36) rfl ?_
            refine j_ti C (sT_1 g) dX7_change_36 (n := 37) rfl ?_
            refine j_cz C (run_S C mi_X7_within lm_X7_94 st_X7_within ⟨Nat.le_of_ble_eq_true rfl, Nat.le_of_ble_eq_true rfl⟩ (m_X7_within _ _ _ _ _) rfl rfl rfl (Nat.le_of_ble_eq_true rfl) dX7_change_37) (n := 40) rfl (fun b40 => ?_)
            refine j_if_ne C dX7_change_40 (tgt := 50) (n := 43) (by decide) rfl (fun q41 => ?_) (fun q41 => ?_)
            · refine j_aload C dX7_change_50 rfl (n := 52) rfl ?_
              refine j_iload_n C dX7_change_52 rfl (n := 53) rfl ?_
              refine j_iald C 5 (cX_5 g _) dX7_change_53 (n := 54) rfl ?_
              refine j_istore C dX7_change_54 (Nat.le_of_ble_eq_true rfl) (n := 56) rfl ?_
              refine j_aload C dX7_change_56 rfl (n := 58) rfl ?_
              refine j_iload_n C dX7_change_58 rfl (n := 59) rfl ?_
              refine j_iload_n C dX7_change_59 rfl (n := 60) rfl ?_
              refine j_iast C 5 (cX_5 g _) (aX_5 g _ _ _) dX7_change_60 (n := 61) rfl ?_
              refine j_iload C dX7_change_61 rfl (n := 63) rfl ?_
              exact j_retP C dX7_change_63
            · refine j_aload_n C dX7_change_43 rfl (n := 44) rfl ?_
              refine j_ldc C dX7_change_44 kc_X7_67 (n := 46) rfl ?_
              refine j_bnd (fun r43 q42 => ?_)
              refine j_ci C (run_V C mi_X7_finding lm_X7_68 iv_X7_finding ⟨Nat.le_of_ble_eq_true rfl, Nat.le_of_ble_eq_true rfl⟩ (m_X7_finding _ _ _ q42) (cX_0 g _) rfl rfl rfl rfl (Nat.le_of_ble_eq_true rfl) dX7_change_46) (n := 49) rfl ?_
              exact j_retP C dX7_change_49
        · refine j_cqN C (run_V C mi_X1_traits lm_X7_81 iv_X1_traits ⟨Nat.le_of_ble_eq_true rfl, Nat.le_of_ble_eq_true rfl⟩ (m_X1_traits_d _ _ q1 q12 q23 q34 _) (cX_1 g _) rfl rfl rfl rfl (Nat.le_of_ble_eq_true rfl) dX7_change_5) rfl ?_
          refine j_astoreN C dX7_change_8 (Nat.le_of_ble_eq_true rfl) (n := 10) rfl ?_
          refine j_aload_n C dX7_change_10 rfl (n := 11) rfl ?_
          refine gf_X7_12 C 0 (cX_0 g _) rfl dX7_change_11 (n := 14) rfl ?_
          refine j_iload_n C dX7_change_14 rfl (n := 15) rfl ?_
          refine j_cz C (run_V C mi_X1_hasPart lm_X7_85 iv_X1_hasPart ⟨Nat.le_of_ble_eq_true rfl, Nat.le_of_ble_eq_true rfl⟩ (m_X1_hasPart _ _ _) (cX_1 g _) rfl rfl rfl rfl (Nat.le_of_ble_eq_true rfl) dX7_change_15) (n := 18) rfl (fun b45 => ?_)
          refine j_if_eq C dX7_change_18 (tgt := 43) (n := 21) (by decide) rfl (fun q46 => ?_) (fun q46 => ?_)
          · refine j_aload_n C dX7_change_43 rfl (n := 44) rfl ?_
            refine j_ldc C dX7_change_44 kc_X7_67 (n := 46) rfl ?_
            refine j_bnd (fun r48 q47 => ?_)
            refine j_ci C (run_V C mi_X7_finding lm_X7_68 iv_X7_finding ⟨Nat.le_of_ble_eq_true rfl, Nat.le_of_ble_eq_true rfl⟩ (m_X7_finding _ _ _ q47) (cX_0 g _) rfl rfl rfl rfl (Nat.le_of_ble_eq_true rfl) dX7_change_46) (n := 49) rfl ?_
            exact j_retP C dX7_change_49
          · refine j_aloadN C dX7_change_21 rfl (n := 23) rfl ?_
            refine j_ifnullN C dX7_change_23 (n := 43) (by decide) ?_
            refine j_aload_n C dX7_change_43 rfl (n := 44) rfl ?_
            refine j_ldc C dX7_change_44 kc_X7_67 (n := 46) rfl ?_
            refine j_bnd (fun r51 q50 => ?_)
            refine j_ci C (run_V C mi_X7_finding lm_X7_68 iv_X7_finding ⟨Nat.le_of_ble_eq_true rfl, Nat.le_of_ble_eq_true rfl⟩ (m_X7_finding _ _ _ q50) (cX_0 g _) rfl rfl rfl rfl (Nat.le_of_ble_eq_true rfl) dX7_change_46) (n := 49) rfl ?_
            exact j_retP C dX7_change_49
-- X7_isFace
set_option maxRecDepth 20000 in
theorem m_X7_isFace (l : Launch) (x0 : Int32) (h : Hp) : CT l yX7_isFace cX7_isFace 1 (some .boolean) 1 cwX (fun g => [.int x0]) h (qZ cwX (X7_isFace x0) h) := by
  refine ct_of (QR := (fun r : Int32 => qZ cwX r h)) (by decide +kernel) (fun g => ⟨rfl, Nat.le_of_ble_eq_true rfl⟩) (X7_isFace_e x0) (fun x g hl C => ?_)
  unfold X7_isFace_o
  refine j_iload_n C dX7_isFace_0 rfl (n := 1) rfl ?_
  refine j_iconst C dX7_isFace_1 ic_0 (n := 2) rfl ?_
  refine j_iconst C dX7_isFace_2 ic_5 (n := 3) rfl ?_
  refine j_cz C (run_S C mi_X7_within lm_X7_94 st_X7_within ⟨Nat.le_of_ble_eq_true rfl, Nat.le_of_ble_eq_true rfl⟩ (m_X7_within _ _ _ _ _) rfl rfl rfl (Nat.le_of_ble_eq_true rfl) dX7_isFace_3) (n := 6) rfl (fun b1 => ?_)
  exact j_retZ C b1 dX7_isFace_6
-- X7_face
set_option maxRecDepth 20000 in
theorem j_X7_face_30 {x : Fx} {g : Gl} (C : Ok x g RX7 cX7_face 6 (some .int)) (x1 : Int32) (x2 : Int32) (x3 : Int32) (s0 : Int32) (s1 : Int32) (s2 : Int32) (h : Hp) (bs1 : s1 = 0 ∨ s1 = 1) : J x g cwX 6 2 (fun r : Int32 × Hp => qI cwX r.1 r.2) 30 [some (rf g 0), some (.int x1), some (.int x2), some (.int x3)] [.int s2, .int s1, .int s0] h (X7_face_30 x1 x2 x3 s0 s1 s2 h) := by
  unfold X7_face_30
  refine j_cz C (run_S C mi_X7_within lm_X7_94 st_X7_within ⟨Nat.le_of_ble_eq_true rfl, Nat.le_of_ble_eq_true rfl⟩ (m_X7_within _ _ _ _ _) rfl rfl rfl (Nat.le_of_ble_eq_true rfl) dX7_face_30) (n := 33) rfl (fun b1 => ?_)
  refine j_if_ne C dX7_face_33 (tgt := 43) (n := 36) (by decide) rfl (fun q2 => ?_) (fun q2 => ?_)
  · refine j_iload_n C dX7_face_43 rfl (n := 44) rfl ?_
    refine j_if_ne C dX7_face_44 (tgt := 57) (n := 47) (by decide) rfl (fun q3 => ?_) (fun q3 => ?_)
    · refine j_aload_n C dX7_face_57 rfl (n := 58) rfl ?_
      refine gf_X7_12 C 0 (cX_0 g _) rfl dX7_face_58 (n := 61) rfl ?_
      refine gf_X7_104 C 1 (cX_1 g _) rfl dX7_face_61 (n := 64) rfl ?_
      refine j_astore C dX7_face_64 (Nat.le_of_ble_eq_true rfl) (n := 66) rfl ?_
      refine j_aload C dX7_face_66 rfl (n := 68) rfl ?_
      refine j_iload_n C dX7_face_68 rfl (n := 69) rfl ?_
      refine j_iald C 7 (cX_7 g _) dX7_face_69 (n := 70) rfl ?_
      refine j_istore C dX7_face_70 (Nat.le_of_ble_eq_true rfl) (n := 72) rfl ?_
      refine j_aload C dX7_face_72 rfl (n := 74) rfl ?_
      refine j_iload_n C dX7_face_74 rfl (n := 75) rfl ?_
      refine j_iload_n C dX7_face_75 rfl (n := 76) rfl ?_
      refine j_iast C 7 (cX_7 g _) (aX_7 g _ _ _) dX7_face_76 (n := 77) rfl ?_
      refine j_iload C dX7_face_77 rfl (n := 79) rfl ?_
      exact j_retP C dX7_face_79
    · refine j_aload_n C dX7_face_47 rfl (n := 48) rfl ?_
      refine gf_X7_12 C 0 (cX_0 g _) rfl dX7_face_48 (n := 51) rfl ?_
      refine gf_X7_101 C 1 (cX_1 g _) rfl dX7_face_51 (n := 54) rfl ?_
      refine j_goto C dX7_face_54 (n := 64) (by decide) ?_
      refine j_astore C dX7_face_64 (Nat.le_of_ble_eq_true rfl) (n := 66) rfl ?_
      refine j_aload C dX7_face_66 rfl (n := 68) rfl ?_
      refine j_iload_n C dX7_face_68 rfl (n := 69) rfl ?_
      refine j_iald C 6 (cX_6 g _) dX7_face_69 (n := 70) rfl ?_
      refine j_istore C dX7_face_70 (Nat.le_of_ble_eq_true rfl) (n := 72) rfl ?_
      refine j_aload C dX7_face_72 rfl (n := 74) rfl ?_
      refine j_iload_n C dX7_face_74 rfl (n := 75) rfl ?_
      refine j_iload_n C dX7_face_75 rfl (n := 76) rfl ?_
      refine j_iast C 6 (cX_6 g _) (aX_6 g _ _ _) dX7_face_76 (n := 77) rfl ?_
      refine j_iload C dX7_face_77 rfl (n := 79) rfl ?_
      exact j_retP C dX7_face_79
  · refine j_aload_n C dX7_face_36 rfl (n := 37) rfl ?_
    refine j_ldc C dX7_face_37 kc_X7_67 (n := 39) rfl ?_
    refine j_bnd (fun r5 q4 => ?_)
    refine j_ci C (run_V C mi_X7_finding lm_X7_68 iv_X7_finding ⟨Nat.le_of_ble_eq_true rfl, Nat.le_of_ble_eq_true rfl⟩ (m_X7_finding _ _ _ q4) (cX_0 g _) rfl rfl rfl rfl (Nat.le_of_ble_eq_true rfl) dX7_face_39) (n := 42) rfl ?_
    exact j_retP C dX7_face_42
set_option maxRecDepth 20000 in
theorem m_X7_face (l : Launch) (x1 : Int32) (x2 : Int32) (x3 : Int32) (h : Hp) {r : Int32 × Hp} (e : X7_face x1 x2 x3 h = some r) : CT l yX7_face cX7_face 6 (some .int) 2 cwX (fun g => [rf g 0, .int x1, .int x2, .int x3]) h (qI cwX r.1 r.2) := by
  refine ct_of (QR := (fun r : Int32 × Hp => qI cwX r.1 r.2)) (by decide +kernel) (fun g => ⟨rfl, Nat.le_of_ble_eq_true rfl⟩) e (fun x g hl C => ?_)
  unfold X7_face
  refine j_iload_n C dX7_face_0 rfl (n := 1) rfl ?_
  refine j_cz C (run_S C mi_X7_isFace lm_X7_98 st_X7_isFace ⟨Nat.le_of_ble_eq_true rfl, Nat.le_of_ble_eq_true rfl⟩ (m_X7_isFace _ _ _) rfl rfl rfl (Nat.le_of_ble_eq_true rfl) dX7_face_1) (n := 4) rfl (fun b1 => ?_)
  refine j_if_eq C dX7_face_4 (tgt := 36) (n := 7) (by decide) rfl (fun q2 => ?_) (fun q2 => ?_)
  · refine j_aload_n C dX7_face_36 rfl (n := 37) rfl ?_
    refine j_ldc C dX7_face_37 kc_X7_67 (n := 39) rfl ?_
    refine j_bnd (fun r4 q3 => ?_)
    refine j_ci C (run_V C mi_X7_finding lm_X7_68 iv_X7_finding ⟨Nat.le_of_ble_eq_true rfl, Nat.le_of_ble_eq_true rfl⟩ (m_X7_finding _ _ _ q3) (cX_0 g _) rfl rfl rfl rfl (Nat.le_of_ble_eq_true rfl) dX7_face_39) (n := 42) rfl ?_
    exact j_retP C dX7_face_42
  · refine j_iload_n C dX7_face_7 rfl (n := 8) rfl ?_
    refine j_iconst C dX7_face_8 ic_0 (n := 9) rfl ?_
    refine j_iconst C dX7_face_9 ic_1 (n := 10) rfl ?_
    refine j_cz C (run_S C mi_X7_within lm_X7_94 st_X7_within ⟨Nat.le_of_ble_eq_true rfl, Nat.le_of_ble_eq_true rfl⟩ (m_X7_within _ _ _ _ _) rfl rfl rfl (Nat.le_of_ble_eq_true rfl) dX7_face_10) (n := 13) rfl (fun b6 => ?_)
    refine j_if_eq C dX7_face_13 (tgt := 36) (n := 16) (by decide) rfl (fun q7 => ?_) (fun q7 => ?_)
    · refine j_aload_n C dX7_face_36 rfl (n := 37) rfl ?_
      refine j_ldc C dX7_face_37 kc_X7_67 (n := 39) rfl ?_
      refine j_bnd (fun r9 q8 => ?_)
      refine j_ci C (run_V C mi_X7_finding lm_X7_68 iv_X7_finding ⟨Nat.le_of_ble_eq_true rfl, Nat.le_of_ble_eq_true rfl⟩ (m_X7_finding _ _ _ q8) (cX_0 g _) rfl rfl rfl rfl (Nat.le_of_ble_eq_true rfl) dX7_face_39) (n := 42) rfl ?_
      exact j_retP C dX7_face_42
    · refine j_iload_n C dX7_face_16 rfl (n := 17) rfl ?_
      refine j_iconst C dX7_face_17 ic_0 (n := 18) rfl ?_
      refine j_iload_n C dX7_face_18 rfl (n := 19) rfl ?_
      refine j_if_ne C dX7_face_19 (tgt := 28) (n := 22) (by decide) rfl (fun q11 => ?_) (fun q11 => ?_)
      · refine j_bipush C dX7_face_28 bp_99 (n := 30) rfl ?_
        exact j_to (j_X7_face_30 C _ _ _ _ _ _ _ (Or.inl rfl)) ⟨rfl, ⟨rfl, ⟨rfl, ⟨rfl, trivial⟩⟩⟩⟩
      · refine j_sipush C dX7_face_22 sp_255 (n := 25) rfl ?_
        refine j_goto C dX7_face_25 (n := 30) (by decide) ?_
        exact j_to (j_X7_face_30 C _ _ _ _ _ _ _ (Or.inl rfl)) ⟨rfl, ⟨rfl, ⟨rfl, ⟨rfl, trivial⟩⟩⟩⟩
-- X7_isRoom
set_option maxRecDepth 20000 in
theorem m_X7_isRoom (l : Launch) (x0 : Int32) (h : Hp) : CT l yX7_isRoom cX7_isRoom 1 (some .boolean) 1 cwX (fun g => [.int x0]) h (qZ cwX (X7_isRoom x0) h) := by
  refine ct_of (QR := (fun r : Int32 => qZ cwX r h)) (by decide +kernel) (fun g => ⟨rfl, Nat.le_of_ble_eq_true rfl⟩) (X7_isRoom_e x0) (fun x g hl C => ?_)
  unfold X7_isRoom_o
  refine j_iload_n C dX7_isRoom_0 rfl (n := 1) rfl ?_
  refine j_iconst C dX7_isRoom_1 ic_0 (n := 2) rfl ?_
  refine j_iconst C dX7_isRoom_2 ic_5 (n := 3) rfl ?_
  refine j_cz C (run_S C mi_X7_within lm_X7_94 st_X7_within ⟨Nat.le_of_ble_eq_true rfl, Nat.le_of_ble_eq_true rfl⟩ (m_X7_within _ _ _ _ _) rfl rfl rfl (Nat.le_of_ble_eq_true rfl) dX7_isRoom_3) (n := 6) rfl (fun b1 => ?_)
  exact j_retZ C b1 dX7_isRoom_6
-- X7_show
set_option maxRecDepth 20000 in
theorem j_X7_show_26 {x : Fx} {g : Gl} (C : Ok x g RX7 cX7_show 4 (some .int)) (x1 : Int32) (x2 : Int32) (h : Hp) : J x g cwX 4 2 (fun r : Int32 × Hp => qI cwX r.1 r.2) 26 [some (rf g 0), some (.int x1), some (.int x2)] [] h (X7_show_26 x1 x2 h) := by
  unfold X7_show_26
  refine j_aload_n C dX7_show_26 rfl (n := 27) rfl ?_
  refine gf_X7_12 C 0 (cX_0 g _) rfl dX7_show_27 (n := 30) rfl ?_
  refine gf_X7_110 C 1 (cX_1 g _) rfl dX7_show_30 (n := 33) rfl ?_
  refine j_iload_n C dX7_show_33 rfl (n := 34) rfl ?_
  refine j_iald C 8 (cX_8 g _) dX7_show_34 (n := 35) rfl ?_
  refine j_istore_n C dX7_show_35 (Nat.le_of_ble_eq_true rfl) (n := 36) rfl ?_
  refine j_aload_n C dX7_show_36 rfl (n := 37) rfl ?_
  refine gf_X7_12 C 0 (cX_0 g _) rfl dX7_show_37 (n := 40) rfl ?_
  refine gf_X7_110 C 1 (cX_1 g _) rfl dX7_show_40 (n := 43) rfl ?_
  refine j_iload_n C dX7_show_43 rfl (n := 44) rfl ?_
  refine j_iload_n C dX7_show_44 rfl (n := 45) rfl ?_
  refine j_iast C 8 (cX_8 g _) (aX_8 g _ _ _) dX7_show_45 (n := 46) rfl ?_
  refine j_iload_n C dX7_show_46 rfl (n := 47) rfl ?_
  exact j_retP C dX7_show_47
set_option maxRecDepth 20000 in
theorem m_X7_show (l : Launch) (x1 : Int32) (x2 : Int32) (h : Hp) {r : Int32 × Hp} (e : X7_show x1 x2 h = some r) : CT l yX7_show cX7_show 4 (some .int) 2 cwX (fun g => [rf g 0, .int x1, .int x2]) h (qI cwX r.1 r.2) := by
  refine ct_of (QR := (fun r : Int32 × Hp => qI cwX r.1 r.2)) (by decide +kernel) (fun g => ⟨rfl, Nat.le_of_ble_eq_true rfl⟩) e (fun x g hl C => ?_)
  unfold X7_show
  refine j_iload_n C dX7_show_0 rfl (n := 1) rfl ?_
  refine j_cz C (run_S C mi_X7_isRoom lm_X7_107 st_X7_isRoom ⟨Nat.le_of_ble_eq_true rfl, Nat.le_of_ble_eq_true rfl⟩ (m_X7_isRoom _ _ _) rfl rfl rfl (Nat.le_of_ble_eq_true rfl) dX7_show_1) (n := 4) rfl (fun b1 => ?_)
  refine j_if_eq C dX7_show_4 (tgt := 19) (n := 7) (by decide) rfl (fun q2 => ?_) (fun q2 => ?_)
  · refine j_aload_n C dX7_show_19 rfl (n := 20) rfl ?_
    refine j_ldc C dX7_show_20 kc_X7_67 (n := 22) rfl ?_
    refine j_bnd (fun r4 q3 => ?_)
    refine j_ci C (run_V C mi_X7_finding lm_X7_68 iv_X7_finding ⟨Nat.le_of_ble_eq_true rfl, Nat.le_of_ble_eq_true rfl⟩ (m_X7_finding _ _ _ q3) (cX_0 g _) rfl rfl rfl rfl (Nat.le_of_ble_eq_true rfl) dX7_show_22) (n := 25) rfl ?_
    exact j_retP C dX7_show_25
  · refine j_iload_n C dX7_show_7 rfl (n := 8) rfl ?_
    refine j_cz C (run_S C mi_X7_isFace lm_X7_98 st_X7_isFace ⟨Nat.le_of_ble_eq_true rfl, Nat.le_of_ble_eq_true rfl⟩ (m_X7_isFace _ _ _) rfl rfl rfl (Nat.le_of_ble_eq_true rfl) dX7_show_8) (n := 11) rfl (fun b6 => ?_)
    refine j_if_ne C dX7_show_11 (tgt := 26) (n := 14) (by decide) rfl (fun q7 => ?_) (fun q7 => ?_)
    · exact j_to (j_X7_show_26 C _ _ _) ⟨rfl, ⟨rfl, ⟨rfl, trivial⟩⟩⟩
    · refine j_iload_n C dX7_show_14 rfl (n := 15) rfl ?_
      refine j_iconst C dX7_show_15 ic_m1 (n := 16) rfl ?_
      refine j_icmp_eq C dX7_show_16 (tgt := 26) (n := 19) (by decide) rfl (fun q8 => ?_) (fun q8 => ?_)
      · exact j_to (j_X7_show_26 C _ _ _) ⟨rfl, ⟨rfl, ⟨rfl, trivial⟩⟩⟩
      · refine j_aload_n C dX7_show_19 rfl (n := 20) rfl ?_
        refine j_ldc C dX7_show_20 kc_X7_67 (n := 22) rfl ?_
        refine j_bnd (fun r10 q9 => ?_)
        refine j_ci C (run_V C mi_X7_finding lm_X7_68 iv_X7_finding ⟨Nat.le_of_ble_eq_true rfl, Nat.le_of_ble_eq_true rfl⟩ (m_X7_finding _ _ _ q9) (cX_0 g _) rfl rfl rfl rfl (Nat.le_of_ble_eq_true rfl) dX7_show_22) (n := 25) rfl ?_
        exact j_retP C dX7_show_25
-- X7_pace
set_option maxRecDepth 20000 in
theorem m_X7_pace (l : Launch) (x1 : Int32) (h : Hp) {r : Int32 × Hp} (e : X7_pace x1 h = some r) : CT l yX7_pace cX7_pace 3 (some .int) 2 cwX (fun g => [rf g 0, .int x1]) h (qI cwX r.1 r.2) := by
  refine ct_of (QR := (fun r : Int32 × Hp => qI cwX r.1 r.2)) (by decide +kernel) (fun g => ⟨rfl, Nat.le_of_ble_eq_true rfl⟩) e (fun x g hl C => ?_)
  unfold X7_pace
  refine j_iload_n C dX7_pace_0 rfl (n := 1) rfl ?_
  refine j_iconst C dX7_pace_1 ic_1 (n := 2) rfl ?_
  refine j_bipush C dX7_pace_2 bp_20 (n := 4) rfl ?_
  refine j_cz C (run_S C mi_X7_within lm_X7_94 st_X7_within ⟨Nat.le_of_ble_eq_true rfl, Nat.le_of_ble_eq_true rfl⟩ (m_X7_within _ _ _ _ _) rfl rfl rfl (Nat.le_of_ble_eq_true rfl) dX7_pace_4) (n := 7) rfl (fun b1 => ?_)
  refine j_if_ne C dX7_pace_7 (tgt := 17) (n := 10) (by decide) rfl (fun q2 => ?_) (fun q2 => ?_)
  · refine j_aload_n C dX7_pace_17 rfl (n := 18) rfl ?_
    refine gf_X7_12 C 0 (cX_0 g _) rfl dX7_pace_18 (n := 21) rfl ?_
    refine gf_X7_113 C 1 (cX_1 g _) rfl dX7_pace_21 (n := 24) rfl ?_
    refine j_istore_n C dX7_pace_24 (Nat.le_of_ble_eq_true rfl) (n := 25) rfl ?_
    refine j_aload_n C dX7_pace_25 rfl (n := 26) rfl ?_
    refine gf_X7_12 C 0 (cX_0 g _) rfl dX7_pace_26 (n := 29) rfl ?_
    refine j_iload_n C dX7_pace_29 rfl (n := 30) rfl ?_
    refine pf_X7_113 C 1 (cX_1 g _) (sX_1_13 g _ _) rfl dX7_pace_30 (n := 33) rfl ?_
    refine j_iload_n C dX7_pace_33 rfl (n := 34) rfl ?_
    exact j_retP C dX7_pace_34
  · refine j_aload_n C dX7_pace_10 rfl (n := 11) rfl ?_
    refine j_ldc C dX7_pace_11 kc_X7_67 (n := 13) rfl ?_
    refine j_bnd (fun r4 q3 => ?_)
    refine j_ci C (run_V C mi_X7_finding lm_X7_68 iv_X7_finding ⟨Nat.le_of_ble_eq_true rfl, Nat.le_of_ble_eq_true rfl⟩ (m_X7_finding _ _ _ q3) (cX_0 g _) rfl rfl rfl rfl (Nat.le_of_ble_eq_true rfl) dX7_pace_13) (n := 16) rfl ?_
    exact j_retP C dX7_pace_16
-- X1_partsAt
set_option maxRecDepth 20000 in
theorem j_X1_partsAt_4 {x : Fx} {g : Gl} (C : Ok x g RX1 cX1_partsAt 4 (some .int)) (fu : Nat) (h : Hp) : ∀ (n : Nat) (x1 : Int32) (x2 : Int32) (x3 : Int32), J x g cwX 4 0 (fun r : Int32 => qI cwX r h) 4 [some (rf g 1), some (.int x1), some (.int x2), some (.int x3)] [] h (X1_partsAt_4 fu h n x1 x2 x3) := by
  intro n
  induction n with
  | zero =>
    intro x1 x2 x3
    rw [X1_partsAt_4]
    exact j_none
  | succ n ih =>
    intro x1 x2 x3
    rw [X1_partsAt_4]
    refine j_iload_n C dX1_partsAt_4 rfl (n := 5) rfl ?_
    refine j_aload_n C dX1_partsAt_5 rfl (n := 6) rfl ?_
    refine gf_X1_61 C 1 (cX_1 g _) rfl dX1_partsAt_6 (n := 9) rfl ?_
    refine j_icmp_ge C dX1_partsAt_9 (tgt := 34) (n := 12) (by decide) rfl (fun q1 => ?_) (fun q1 => ?_)
    · refine j_iload_n C dX1_partsAt_34 rfl (n := 35) rfl ?_
      exact j_ret C dX1_partsAt_35
    · refine j_aload_n C dX1_partsAt_12 rfl (n := 13) rfl ?_
      refine gf_X1_21 C 1 (cX_1 g _) rfl dX1_partsAt_13 (n := 16) rfl ?_
      refine j_iload_n C dX1_partsAt_16 rfl (n := 17) rfl ?_
      refine j_iald C 5 (cX_5 g _) dX1_partsAt_17 (n := 18) rfl ?_
      refine j_iload_n C dX1_partsAt_18 rfl (n := 19) rfl ?_
      refine j_icmp_ne C dX1_partsAt_19 (tgt := 28) (n := 22) (by decide) rfl (fun q2 => ?_) (fun q2 => ?_)
      · refine j_iinc C dX1_partsAt_28 rfl ic_1 (Nat.le_of_ble_eq_true rfl) (n := 31) rfl ?_
        refine j_goto C dX1_partsAt_31 (n := 4) (by decide) ?_
        exact j_to (ih _ _ _) ⟨rfl, ⟨rfl, ⟨rfl, ⟨rfl, trivial⟩⟩⟩⟩
      · refine j_iload_n C dX1_partsAt_22 rfl (n := 23) rfl ?_
        refine j_iconst C dX1_partsAt_23 ic_1 (n := 24) rfl ?_
        refine j_iload_n C dX1_partsAt_24 rfl (n := 25) rfl ?_
        refine j_ishl C dX1_partsAt_25 (n := 26) rfl ?_
        refine j_ior C dX1_partsAt_26 (n := 27) rfl ?_
        refine j_istore_n C dX1_partsAt_27 (Nat.le_of_ble_eq_true rfl) (n := 28) rfl ?_
        refine j_iinc C dX1_partsAt_28 rfl ic_1 (Nat.le_of_ble_eq_true rfl) (n := 31) rfl ?_
        refine j_goto C dX1_partsAt_31 (n := 4) (by decide) ?_
        exact j_to (ih _ _ _) ⟨rfl, ⟨rfl, ⟨rfl, ⟨rfl, trivial⟩⟩⟩⟩
set_option maxRecDepth 20000 in
theorem m_X1_partsAt (l : Launch) (fu : Nat) (x1 : Int32) (h : Hp) {r : Int32} (e : X1_partsAt fu x1 h = some r) : CT l yX1_partsAt cX1_partsAt 4 (some .int) 0 cwX (fun g => [rf g 1, .int x1]) h (qI cwX r h) := by
  refine ct_of (QR := (fun r : Int32 => qI cwX r h)) (by decide +kernel) (fun g => ⟨rfl, Nat.le_of_ble_eq_true rfl⟩) e (fun x g hl C => ?_)
  unfold X1_partsAt
  refine j_iconst C dX1_partsAt_0 ic_0 (n := 1) rfl ?_
  refine j_istore_n C dX1_partsAt_1 (Nat.le_of_ble_eq_true rfl) (n := 2) rfl ?_
  refine j_iconst C dX1_partsAt_2 ic_0 (n := 3) rfl ?_
  refine j_istore_n C dX1_partsAt_3 (Nat.le_of_ble_eq_true rfl) (n := 4) rfl ?_
  exact j_to (j_X1_partsAt_4 C _ _ _ _ _ _) ⟨rfl, ⟨rfl, ⟨rfl, ⟨rfl, trivial⟩⟩⟩⟩
-- J6_bitCount_0f7a4
set_option maxRecDepth 20000 in
theorem j_J6_bitCount_0f7a4_48 {x : Fx} {g : Gl} (C : Ok x g RJ6 cJ6_bitCount_0f7a4 1 (some .int)) (h : Hp) (x0 : Int32) : J x g cwX 1 0 (fun r : Int32 => qI cwX r h) 48 [some (.int x0)] [] h (J6_bitCount_0f7a4_48 x0) := by
  unfold J6_bitCount_0f7a4_48
  refine j_iload_n C dJ6_bitCount_0f7a4_48 rfl (n := 49) rfl ?_
  refine j_bipush C dJ6_bitCount_0f7a4_49 bp_63 (n := 51) rfl ?_
  refine j_iand C dJ6_bitCount_0f7a4_51 (n := 52) rfl ?_
  exact j_ret C dJ6_bitCount_0f7a4_52
set_option maxRecDepth 20000 in
theorem j_J6_bitCount_0f7a4_41 {x : Fx} {g : Gl} (C : Ok x g RJ6 cJ6_bitCount_0f7a4 1 (some .int)) (h : Hp) (x0 : Int32) : J x g cwX 1 0 (fun r : Int32 => qI cwX r h) 41 [some (.int x0)] [] h (J6_bitCount_0f7a4_41 x0) := by
  unfold J6_bitCount_0f7a4_41
  refine j_iload_n C dJ6_bitCount_0f7a4_41 rfl (n := 42) rfl ?_
  refine j_iload_n C dJ6_bitCount_0f7a4_42 rfl (n := 43) rfl ?_
  refine j_bipush C dJ6_bitCount_0f7a4_43 bp_16 (n := 45) rfl ?_
  refine j_iushr C dJ6_bitCount_0f7a4_45 (n := 46) rfl ?_
  refine j_iadd C dJ6_bitCount_0f7a4_46 (n := 47) rfl ?_
  refine j_istore_n C dJ6_bitCount_0f7a4_47 (Nat.le_of_ble_eq_true rfl) (n := 48) rfl ?_
  exact j_to (j_J6_bitCount_0f7a4_48 C _ _) ⟨rfl, trivial⟩
set_option maxRecDepth 20000 in
theorem j_J6_bitCount_0f7a4_34 {x : Fx} {g : Gl} (C : Ok x g RJ6 cJ6_bitCount_0f7a4 1 (some .int)) (h : Hp) (x0 : Int32) : J x g cwX 1 0 (fun r : Int32 => qI cwX r h) 34 [some (.int x0)] [] h (J6_bitCount_0f7a4_34 x0) := by
  unfold J6_bitCount_0f7a4_34
  refine j_iload_n C dJ6_bitCount_0f7a4_34 rfl (n := 35) rfl ?_
  refine j_iload_n C dJ6_bitCount_0f7a4_35 rfl (n := 36) rfl ?_
  refine j_bipush C dJ6_bitCount_0f7a4_36 bp_8 (n := 38) rfl ?_
  refine j_iushr C dJ6_bitCount_0f7a4_38 (n := 39) rfl ?_
  refine j_iadd C dJ6_bitCount_0f7a4_39 (n := 40) rfl ?_
  refine j_istore_n C dJ6_bitCount_0f7a4_40 (Nat.le_of_ble_eq_true rfl) (n := 41) rfl ?_
  exact j_to (j_J6_bitCount_0f7a4_41 C _ _) ⟨rfl, trivial⟩
set_option maxRecDepth 20000 in
theorem j_J6_bitCount_0f7a4_24 {x : Fx} {g : Gl} (C : Ok x g RJ6 cJ6_bitCount_0f7a4 1 (some .int)) (h : Hp) (x0 : Int32) : J x g cwX 1 0 (fun r : Int32 => qI cwX r h) 24 [some (.int x0)] [] h (J6_bitCount_0f7a4_24 x0) := by
  unfold J6_bitCount_0f7a4_24
  refine j_iload_n C dJ6_bitCount_0f7a4_24 rfl (n := 25) rfl ?_
  refine j_iload_n C dJ6_bitCount_0f7a4_25 rfl (n := 26) rfl ?_
  refine j_iconst C dJ6_bitCount_0f7a4_26 ic_4 (n := 27) rfl ?_
  refine j_iushr C dJ6_bitCount_0f7a4_27 (n := 28) rfl ?_
  refine j_iadd C dJ6_bitCount_0f7a4_28 (n := 29) rfl ?_
  refine j_ldcw C dJ6_bitCount_0f7a4_29 kc_J6_267 (n := 32) rfl ?_
  refine j_iand C dJ6_bitCount_0f7a4_32 (n := 33) rfl ?_
  refine j_istore_n C dJ6_bitCount_0f7a4_33 (Nat.le_of_ble_eq_true rfl) (n := 34) rfl ?_
  exact j_to (j_J6_bitCount_0f7a4_34 C _ _) ⟨rfl, trivial⟩
set_option maxRecDepth 20000 in
theorem j_J6_bitCount_0f7a4_10 {x : Fx} {g : Gl} (C : Ok x g RJ6 cJ6_bitCount_0f7a4 1 (some .int)) (h : Hp) (x0 : Int32) : J x g cwX 1 0 (fun r : Int32 => qI cwX r h) 10 [some (.int x0)] [] h (J6_bitCount_0f7a4_10 x0) := by
  unfold J6_bitCount_0f7a4_10
  refine j_iload_n C dJ6_bitCount_0f7a4_10 rfl (n := 11) rfl ?_
  refine j_ldcw C dJ6_bitCount_0f7a4_11 kc_J6_266 (n := 14) rfl ?_
  refine j_iand C dJ6_bitCount_0f7a4_14 (n := 15) rfl ?_
  refine j_iload_n C dJ6_bitCount_0f7a4_15 rfl (n := 16) rfl ?_
  refine j_iconst C dJ6_bitCount_0f7a4_16 ic_2 (n := 17) rfl ?_
  refine j_iushr C dJ6_bitCount_0f7a4_17 (n := 18) rfl ?_
  refine j_ldcw C dJ6_bitCount_0f7a4_18 kc_J6_266 (n := 21) rfl ?_
  refine j_iand C dJ6_bitCount_0f7a4_21 (n := 22) rfl ?_
  refine j_iadd C dJ6_bitCount_0f7a4_22 (n := 23) rfl ?_
  refine j_istore_n C dJ6_bitCount_0f7a4_23 (Nat.le_of_ble_eq_true rfl) (n := 24) rfl ?_
  exact j_to (j_J6_bitCount_0f7a4_24 C _ _) ⟨rfl, trivial⟩
set_option maxRecDepth 20000 in
theorem m_J6_bitCount_0f7a4 (l : Launch) (x0 : Int32) (h : Hp) : CT l yJ6_bitCount_0f7a4 cJ6_bitCount_0f7a4 1 (some .int) 0 cwX (fun g => [.int x0]) h (qI cwX (J6_bitCount_0f7a4 x0) h) := by
  refine ct_of (QR := (fun r : Int32 => qI cwX r h)) (by decide +kernel) (fun g => ⟨rfl, Nat.le_of_ble_eq_true rfl⟩) (J6_bitCount_0f7a4_e x0) (fun x g hl C => ?_)
  unfold J6_bitCount_0f7a4_o
  refine j_iload_n C dJ6_bitCount_0f7a4_0 rfl (n := 1) rfl ?_
  refine j_iload_n C dJ6_bitCount_0f7a4_1 rfl (n := 2) rfl ?_
  refine j_iconst C dJ6_bitCount_0f7a4_2 ic_1 (n := 3) rfl ?_
  refine j_iushr C dJ6_bitCount_0f7a4_3 (n := 4) rfl ?_
  refine j_ldcw C dJ6_bitCount_0f7a4_4 kc_J6_265 (n := 7) rfl ?_
  refine j_iand C dJ6_bitCount_0f7a4_7 (n := 8) rfl ?_
  refine j_isub C dJ6_bitCount_0f7a4_8 (n := 9) rfl ?_
  refine j_istore_n C dJ6_bitCount_0f7a4_9 (Nat.le_of_ble_eq_true rfl) (n := 10) rfl ?_
  exact j_to (j_J6_bitCount_0f7a4_10 C _ _) ⟨rfl, trivial⟩
-- X2_unlike
set_option maxRecDepth 20000 in
theorem m_X2_unlike (l : Launch) (x0 : Int32) (x1 : Int32) (h : Hp) : CT l yX2_unlike cX2_unlike 2 (some .int) 1 cwX (fun g => [.int x0, .int x1]) h (qI cwX (X2_unlike x0 x1) h) := by
  refine ct_of (QR := (fun r : Int32 => qI cwX r h)) (by decide +kernel) (fun g => ⟨rfl, Nat.le_of_ble_eq_true rfl⟩) (X2_unlike_e x0 x1) (fun x g hl C => ?_)
  unfold X2_unlike_o
  refine j_iload_n C dX2_unlike_0 rfl (n := 1) rfl ?_
  refine j_iload_n C dX2_unlike_1 rfl (n := 2) rfl ?_
  refine j_ixor C dX2_unlike_2 (n := 3) rfl ?_
  refine j_sipush C dX2_unlike_3 sp_255 (n := 6) rfl ?_
  refine j_iand C dX2_unlike_6 (n := 7) rfl ?_
  refine j_ci C (run_S C mi_J6_bitCount_0f7a4 lm_X2_15 st_J6_bitCount_0f7a4 ⟨Nat.le_of_ble_eq_true rfl, Nat.le_of_ble_eq_true rfl⟩ (m_J6_bitCount_0f7a4 _ _ _) rfl rfl rfl (Nat.le_of_ble_eq_true rfl) dX2_unlike_7) (n := 10) rfl ?_
  exact j_ret C dX2_unlike_10
-- X2_likeness
set_option maxRecDepth 20000 in
theorem m_X2_likeness (l : Launch) (x0 : Int32) (x1 : Int32) (x2 : Int32) (h : Hp) {r : Int32} (e : X2_likeness x0 x1 x2 = some r) : CT l yX2_likeness cX2_likeness 4 (some .int) 2 cwX (fun g => [.int x0, .int x1, .int x2]) h (qI cwX r h) := by
  refine ct_of (QR := (fun r : Int32 => qI cwX r h)) (by decide +kernel) (fun g => ⟨rfl, Nat.le_of_ble_eq_true rfl⟩) e (fun x g hl C => ?_)
  unfold X2_likeness
  refine j_bipush C dX2_likeness_0 bp_8 (n := 2) rfl ?_
  refine j_iload_n C dX2_likeness_2 rfl (n := 3) rfl ?_
  refine j_iload_n C dX2_likeness_3 rfl (n := 4) rfl ?_
  refine j_ci C (run_S C mi_X2_unlike lm_X2_21 st_X2_unlike ⟨Nat.le_of_ble_eq_true rfl, Nat.le_of_ble_eq_true rfl⟩ (m_X2_unlike _ _ _ _) rfl rfl rfl (Nat.le_of_ble_eq_true rfl) dX2_likeness_4) (n := 7) rfl ?_
  refine j_isub C dX2_likeness_7 (n := 8) rfl ?_
  refine j_istore_n C dX2_likeness_8 (Nat.le_of_ble_eq_true rfl) (n := 9) rfl ?_
  refine j_iload_n C dX2_likeness_9 rfl (n := 10) rfl ?_
  refine j_split (fun q1 => ?_) (fun q1 => ?_)
  · refine j_tabIn C dX2_likeness_10 q1 (off := 38) (by decide) (n := 48) (by decide) ?_
    refine j_iconst C dX2_likeness_48 ic_2 (n := 49) rfl ?_
    refine j_iload_n C dX2_likeness_49 rfl (n := 50) rfl ?_
    refine j_imul C dX2_likeness_50 (n := 51) rfl ?_
    exact j_ret C dX2_likeness_51
  · refine j_split (fun q2 => ?_) (fun q2 => ?_)
    · refine j_tabIn C dX2_likeness_10 q2 (off := 42) (by decide) (n := 52) (by decide) ?_
      refine j_iconst C dX2_likeness_52 ic_2 (n := 53) rfl ?_
      refine j_iload_n C dX2_likeness_53 rfl (n := 54) rfl ?_
      refine j_imul C dX2_likeness_54 (n := 55) rfl ?_
      refine j_iconst C dX2_likeness_55 ic_2 (n := 56) rfl ?_
      refine j_iadd C dX2_likeness_56 (n := 57) rfl ?_
      exact j_ret C dX2_likeness_57
    · refine j_split (fun q3 => ?_) (fun q3 => ?_)
      · refine j_tabIn C dX2_likeness_10 q3 (off := 48) (by decide) (n := 58) (by decide) ?_
        refine j_iconst C dX2_likeness_58 ic_0 (n := 59) rfl ?_
        refine j_iconst C dX2_likeness_59 ic_2 (n := 60) rfl ?_
        refine j_iload_n C dX2_likeness_60 rfl (n := 61) rfl ?_
        refine j_imul C dX2_likeness_61 (n := 62) rfl ?_
        refine j_iconst C dX2_likeness_62 ic_2 (n := 63) rfl ?_
        refine j_iadd C dX2_likeness_63 (n := 64) rfl ?_
        refine j_iload_n C dX2_likeness_64 rfl (n := 65) rfl ?_
        refine j_sipush C dX2_likeness_65 sp_128 (n := 68) rfl ?_
        refine j_iand C dX2_likeness_68 (n := 69) rfl ?_
        refine j_if_eq C dX2_likeness_69 (tgt := 76) (n := 72) (by decide) rfl (fun q4 => ?_) (fun q4 => ?_)
        · refine j_bipush C dX2_likeness_76 bp_m5 (n := 78) rfl ?_
          refine j_iadd C dX2_likeness_78 (n := 79) rfl ?_
          refine j_mmax C lm_X2_25 (Nat.le_of_ble_eq_true rfl) (Nat.le_of_ble_eq_true rfl) dX2_likeness_79 (n := 82) rfl ?_
          exact j_ret C dX2_likeness_82
        · refine j_iconst C dX2_likeness_72 ic_5 (n := 73) rfl ?_
          refine j_goto C dX2_likeness_73 (n := 78) (by decide) ?_
          refine j_iadd C dX2_likeness_78 (n := 79) rfl ?_
          refine j_mmax C lm_X2_25 (Nat.le_of_ble_eq_true rfl) (Nat.le_of_ble_eq_true rfl) dX2_likeness_79 (n := 82) rfl ?_
          exact j_ret C dX2_likeness_82
      · refine j_split (fun q5 => ?_) (fun q5 => ?_)
        · refine j_tabIn C dX2_likeness_10 q5 (off := 73) (by decide) (n := 83) (by decide) ?_
          refine j_iload_n C dX2_likeness_83 rfl (n := 84) rfl ?_
          refine j_iconst C dX2_likeness_84 ic_3 (n := 85) rfl ?_
          refine j_iadd C dX2_likeness_85 (n := 86) rfl ?_
          exact j_ret C dX2_likeness_86
        · refine j_split (fun q6 => ?_) (fun q6 => ?_)
          · refine j_tabIn C dX2_likeness_10 q6 (off := 77) (by decide) (n := 87) (by decide) ?_
            refine j_iload_n C dX2_likeness_87 rfl (n := 88) rfl ?_
            refine j_iconst C dX2_likeness_88 ic_2 (n := 89) rfl ?_
            refine j_idivL C dX2_likeness_89 (by decide) (n := 90) rfl ?_
            exact j_ret C dX2_likeness_90
          · refine j_split (fun q7 => ?_) (fun q7 => ?_)
            · refine j_tabIn C dX2_likeness_10 q7 (off := 81) (by decide) (n := 91) (by decide) ?_
              refine j_iconst C dX2_likeness_91 ic_3 (n := 92) rfl ?_
              refine j_iload_n C dX2_likeness_92 rfl (n := 93) rfl ?_
              refine j_iconst C dX2_likeness_93 ic_2 (n := 94) rfl ?_
              refine j_idivL C dX2_likeness_94 (by decide) (n := 95) rfl ?_
              refine j_mmax C lm_X2_25 (Nat.le_of_ble_eq_true rfl) (Nat.le_of_ble_eq_true rfl) dX2_likeness_95 (n := 98) rfl ?_
              exact j_ret C dX2_likeness_98
            · refine j_tabOut C dX2_likeness_10 (tabout_1_6 q1 q2 q3 q5 q6 q7) (n := 99) (by decide) ?_
              refine j_iload_n C dX2_likeness_99 rfl (n := 100) rfl ?_
              exact j_ret C dX2_likeness_100
-- X1_likeTo
set_option maxRecDepth 20000 in
theorem m_X1_likeTo (l : Launch) (x1 : Int32) (x2 : Int32) (h : Hp) {r : Int32} (e : X1_likeTo x1 x2 h = some r) : CT l yX1_likeTo cX1_likeTo 3 (some .int) 3 cwX (fun g => [rf g 1, .int x1, .int x2]) h (qI cwX r h) := by
  refine ct_of (QR := (fun r : Int32 => qI cwX r h)) (by decide +kernel) (fun g => ⟨rfl, Nat.le_of_ble_eq_true rfl⟩) e (fun x g hl C => ?_)
  unfold X1_likeTo
  refine j_aload_n C dX1_likeTo_0 rfl (n := 1) rfl ?_
  refine gf_X1_9 C 1 (cX_1 g _) rfl dX1_likeTo_1 (n := 4) rfl ?_
  refine j_iload_n C dX1_likeTo_4 rfl (n := 5) rfl ?_
  refine j_iald C 2 (cX_2 g _) dX1_likeTo_5 (n := 6) rfl ?_
  refine j_aload_n C dX1_likeTo_6 rfl (n := 7) rfl ?_
  refine gf_X1_15 C 1 (cX_1 g _) rfl dX1_likeTo_7 (n := 10) rfl ?_
  refine j_iload_n C dX1_likeTo_10 rfl (n := 11) rfl ?_
  refine j_iald C 3 (cX_3 g _) dX1_likeTo_11 (n := 12) rfl ?_
  refine j_aload_n C dX1_likeTo_12 rfl (n := 13) rfl ?_
  refine gf_X1_24 C 1 (cX_1 g _) rfl dX1_likeTo_13 (n := 16) rfl ?_
  refine j_iload_n C dX1_likeTo_16 rfl (n := 17) rfl ?_
  refine j_iald C 6 (cX_6 g _) dX1_likeTo_17 (n := 18) rfl ?_
  refine j_bnd (fun r2 q1 => ?_)
  refine j_ci C (run_S C mi_X2_likeness lm_X1_80 st_X2_likeness ⟨Nat.le_of_ble_eq_true rfl, Nat.le_of_ble_eq_true rfl⟩ (m_X2_likeness _ _ _ _ _ q1) rfl rfl rfl (Nat.le_of_ble_eq_true rfl) dX1_likeTo_18) (n := 21) rfl ?_
  exact j_ret C dX1_likeTo_21
-- X1_likeness
set_option maxRecDepth 20000 in
theorem j_X1_likeness_12 {x : Fx} {g : Gl} (C : Ok x g RX1 cX1_likeness 5 (some .int)) (fu : Nat) (h : Hp) : ∀ (n : Nat) (x1 : Int32) (x2 : Int32) (x3 : Int32) (x4 : Int32), J x g cwX 5 4 (fun r : Int32 => qI cwX r h) 12 [some (rf g 1), some (.int x1), some (.int x2), some (.int x3), some (.int x4)] [] h (X1_likeness_12 fu h n x1 x2 x3 x4) := by
  intro n
  induction n with
  | zero =>
    intro x1 x2 x3 x4
    rw [X1_likeness_12]
    exact j_none
  | succ n ih =>
    intro x1 x2 x3 x4
    rw [X1_likeness_12]
    refine j_iload C dX1_likeness_12 rfl (n := 14) rfl ?_
    refine j_aload_n C dX1_likeness_14 rfl (n := 15) rfl ?_
    refine gf_X1_61 C 1 (cX_1 g _) rfl dX1_likeness_15 (n := 18) rfl ?_
    refine j_icmp_ge C dX1_likeness_18 (tgt := 55) (n := 21) (by decide) rfl (fun q1 => ?_) (fun q1 => ?_)
    · refine j_iload_n C dX1_likeness_55 rfl (n := 56) rfl ?_
      exact j_ret C dX1_likeness_56
    · refine j_iload_n C dX1_likeness_21 rfl (n := 22) rfl ?_
      refine j_cz C (run_SN C mi_X7_isFace ns_X1_93 st_X7_isFace ⟨Nat.le_of_ble_eq_true rfl, Nat.le_of_ble_eq_true rfl⟩ (m_X7_isFace _ _ _) rfl rfl rfl (Nat.le_of_ble_eq_true rfl) dX1_likeness_22) (n := 25) rfl (fun b2 => ?_)
      refine j_if_eq C dX1_likeness_25 (tgt := 55) (n := 28) (by decide) rfl (fun q3 => ?_) (fun q3 => ?_)
      · refine j_iload_n C dX1_likeness_55 rfl (n := 56) rfl ?_
        exact j_ret C dX1_likeness_56
      · refine j_aload_n C dX1_likeness_28 rfl (n := 29) rfl ?_
        refine gf_X1_21 C 1 (cX_1 g _) rfl dX1_likeness_29 (n := 32) rfl ?_
        refine j_iload C dX1_likeness_32 rfl (n := 34) rfl ?_
        refine j_iald C 5 (cX_5 g _) dX1_likeness_34 (n := 35) rfl ?_
        refine j_iload_n C dX1_likeness_35 rfl (n := 36) rfl ?_
        refine j_icmp_ne C dX1_likeness_36 (tgt := 49) (n := 39) (by decide) rfl (fun q4 => ?_) (fun q4 => ?_)
        · refine j_iinc C dX1_likeness_49 rfl ic_1 (Nat.le_of_ble_eq_true rfl) (n := 52) rfl ?_
          refine j_goto C dX1_likeness_52 (n := 12) (by decide) ?_
          exact j_to (ih _ _ _ _) ⟨rfl, ⟨rfl, ⟨rfl, ⟨rfl, ⟨rfl, trivial⟩⟩⟩⟩⟩
        · refine j_iload_n C dX1_likeness_39 rfl (n := 40) rfl ?_
          refine j_aload_n C dX1_likeness_40 rfl (n := 41) rfl ?_
          refine j_iload C dX1_likeness_41 rfl (n := 43) rfl ?_
          refine j_iload_n C dX1_likeness_43 rfl (n := 44) rfl ?_
          refine j_bnd (fun r6 q5 => ?_)
          refine j_ci C (run_V C mi_X1_likeTo lm_X1_97 iv_X1_likeTo ⟨Nat.le_of_ble_eq_true rfl, Nat.le_of_ble_eq_true rfl⟩ (m_X1_likeTo _ _ _ _ q5) (cX_1 g _) rfl rfl rfl rfl (Nat.le_of_ble_eq_true rfl) dX1_likeness_44) (n := 47) rfl ?_
          refine j_iadd C dX1_likeness_47 (n := 48) rfl ?_
          refine j_istore_n C dX1_likeness_48 (Nat.le_of_ble_eq_true rfl) (n := 49) rfl ?_
          refine j_iinc C dX1_likeness_49 rfl ic_1 (Nat.le_of_ble_eq_true rfl) (n := 52) rfl ?_
          refine j_goto C dX1_likeness_52 (n := 12) (by decide) ?_
          exact j_to (ih _ _ _ _) ⟨rfl, ⟨rfl, ⟨rfl, ⟨rfl, ⟨rfl, trivial⟩⟩⟩⟩⟩
set_option maxRecDepth 20000 in
theorem m_X1_likeness (l : Launch) (fu : Nat) (x1 : Int32) (h : Hp) {r : Int32} (e : X1_likeness fu x1 h = some r) : CT l yX1_likeness cX1_likeness 5 (some .int) 4 cwX (fun g => [rf g 1, .int x1]) h (qI cwX r h) := by
  refine ct_of (QR := (fun r : Int32 => qI cwX r h)) (by decide +kernel) (fun g => ⟨rfl, Nat.le_of_ble_eq_true rfl⟩) e (fun x g hl C => ?_)
  unfold X1_likeness
  refine j_aload_n C dX1_likeness_0 rfl (n := 1) rfl ?_
  refine gf_X1_30 C 1 (cX_1 g _) rfl dX1_likeness_1 (n := 4) rfl ?_
  refine j_iload_n C dX1_likeness_4 rfl (n := 5) rfl ?_
  refine j_iald C 8 (cX_8 g _) dX1_likeness_5 (n := 6) rfl ?_
  refine j_istore_n C dX1_likeness_6 (Nat.le_of_ble_eq_true rfl) (n := 7) rfl ?_
  refine j_iconst C dX1_likeness_7 ic_0 (n := 8) rfl ?_
  refine j_istore_n C dX1_likeness_8 (Nat.le_of_ble_eq_true rfl) (n := 9) rfl ?_
  refine j_iconst C dX1_likeness_9 ic_0 (n := 10) rfl ?_
  refine j_istore C dX1_likeness_10 (Nat.le_of_ble_eq_true rfl) (n := 12) rfl ?_
  exact j_to (j_X1_likeness_12 C _ _ _ _ _ _ _) ⟨rfl, ⟨rfl, ⟨rfl, ⟨rfl, ⟨rfl, trivial⟩⟩⟩⟩⟩
-- X1_roomOf
set_option maxRecDepth 20000 in
theorem m_X1_roomOf (l : Launch) (x1 : Int32) (h : Hp) {r : Int32} (e : X1_roomOf x1 h = some r) : CT l yX1_roomOf cX1_roomOf 3 (some .int) 2 cwX (fun g => [rf g 1, .int x1]) h (qI cwX r h) := by
  refine ct_of (QR := (fun r : Int32 => qI cwX r h)) (by decide +kernel) (fun g => ⟨rfl, Nat.le_of_ble_eq_true rfl⟩) e (fun x g hl C => ?_)
  unfold X1_roomOf
  refine j_aload_n C dX1_roomOf_0 rfl (n := 1) rfl ?_
  refine gf_X1_42 C 1 (cX_1 g _) rfl dX1_roomOf_1 (n := 4) rfl ?_
  refine j_iconst C dX1_roomOf_4 ic_1 (n := 5) rfl ?_
  refine j_icmp_ge C dX1_roomOf_5 (tgt := 10) (n := 8) (by decide) rfl (fun q1 => ?_) (fun q1 => ?_)
  · refine j_aload_n C dX1_roomOf_10 rfl (n := 11) rfl ?_
    refine gf_X1_67 C 1 (cX_1 g _) rfl dX1_roomOf_11 (n := 14) rfl ?_
    refine j_aload_n C dX1_roomOf_14 rfl (n := 15) rfl ?_
    refine gf_X1_33 C 1 (cX_1 g _) rfl dX1_roomOf_15 (n := 18) rfl ?_
    refine j_iload_n C dX1_roomOf_18 rfl (n := 19) rfl ?_
    refine j_iald C 9 (cX_9 g _) dX1_roomOf_19 (n := 20) rfl ?_
    refine j_isub C dX1_roomOf_20 (n := 21) rfl ?_
    refine j_aload_n C dX1_roomOf_21 rfl (n := 22) rfl ?_
    refine gf_X1_42 C 1 (cX_1 g _) rfl dX1_roomOf_22 (n := 25) rfl ?_
    refine j_idiv C dX1_roomOf_25 (n := 26) rfl ?_
    refine j_istore_n C dX1_roomOf_26 (Nat.le_of_ble_eq_true rfl) (n := 27) rfl ?_
    refine j_iload_n C dX1_roomOf_27 rfl (n := 28) rfl ?_
    refine j_cz C (run_SN C mi_X7_isRoom ns_X1_103 st_X7_isRoom ⟨Nat.le_of_ble_eq_true rfl, Nat.le_of_ble_eq_true rfl⟩ (m_X7_isRoom _ _ _) rfl rfl rfl (Nat.le_of_ble_eq_true rfl) dX1_roomOf_28) (n := 31) rfl (fun b2 => ?_)
    refine j_if_eq C dX1_roomOf_31 (tgt := 38) (n := 34) (by decide) rfl (fun q3 => ?_) (fun q3 => ?_)
    · refine j_iconst C dX1_roomOf_38 ic_m1 (n := 39) rfl ?_
      exact j_ret C dX1_roomOf_39
    · refine j_iload_n C dX1_roomOf_34 rfl (n := 35) rfl ?_
      refine j_goto C dX1_roomOf_35 (n := 39) (by decide) ?_
      exact j_ret C dX1_roomOf_39
  · refine j_iconst C dX1_roomOf_8 ic_m1 (n := 9) rfl ?_
    exact j_ret C dX1_roomOf_9
-- X1_visitorsIn
set_option maxRecDepth 20000 in
theorem j_X1_visitorsIn_4 {x : Fx} {g : Gl} (C : Ok x g RX1 cX1_visitorsIn 4 (some .int)) (fu : Nat) (h : Hp) : ∀ (n : Nat) (x1 : Int32) (x2 : Int32) (x3 : Int32), J x g cwX 4 3 (fun r : Int32 => qI cwX r h) 4 [some (rf g 1), some (.int x1), some (.int x2), some (.int x3)] [] h (X1_visitorsIn_4 fu h n x1 x2 x3) := by
  intro n
  induction n with
  | zero =>
    intro x1 x2 x3
    rw [X1_visitorsIn_4]
    exact j_none
  | succ n ih =>
    intro x1 x2 x3
    rw [X1_visitorsIn_4]
    refine j_iload_n C dX1_visitorsIn_4 rfl (n := 5) rfl ?_
    refine j_aload_n C dX1_visitorsIn_5 rfl (n := 6) rfl ?_
    refine gf_X1_64 C 1 (cX_1 g _) rfl dX1_visitorsIn_6 (n := 9) rfl ?_
    refine j_icmp_ge C dX1_visitorsIn_9 (tgt := 33) (n := 12) (by decide) rfl (fun q1 => ?_) (fun q1 => ?_)
    · refine j_iload_n C dX1_visitorsIn_33 rfl (n := 34) rfl ?_
      exact j_ret C dX1_visitorsIn_34
    · refine j_aload_n C dX1_visitorsIn_12 rfl (n := 13) rfl ?_
      refine j_iload_n C dX1_visitorsIn_13 rfl (n := 14) rfl ?_
      refine j_bnd (fun r3 q2 => ?_)
      refine j_ci C (run_V C mi_X1_roomOf lm_X1_106 iv_X1_roomOf ⟨Nat.le_of_ble_eq_true rfl, Nat.le_of_ble_eq_true rfl⟩ (m_X1_roomOf _ _ _ q2) (cX_1 g _) rfl rfl rfl rfl (Nat.le_of_ble_eq_true rfl) dX1_visitorsIn_14) (n := 17) rfl ?_
      refine j_iload_n C dX1_visitorsIn_17 rfl (n := 18) rfl ?_
      refine j_icmp_ne C dX1_visitorsIn_18 (tgt := 27) (n := 21) (by decide) rfl (fun q5 => ?_) (fun q5 => ?_)
      · refine j_iinc C dX1_visitorsIn_27 rfl ic_1 (Nat.le_of_ble_eq_true rfl) (n := 30) rfl ?_
        refine j_goto C dX1_visitorsIn_30 (n := 4) (by decide) ?_
        exact j_to (ih _ _ _) ⟨rfl, ⟨rfl, ⟨rfl, ⟨rfl, trivial⟩⟩⟩⟩
      · refine j_iload_n C dX1_visitorsIn_21 rfl (n := 22) rfl ?_
        refine j_iconst C dX1_visitorsIn_22 ic_1 (n := 23) rfl ?_
        refine j_iload_n C dX1_visitorsIn_23 rfl (n := 24) rfl ?_
        refine j_ishl C dX1_visitorsIn_24 (n := 25) rfl ?_
        refine j_ior C dX1_visitorsIn_25 (n := 26) rfl ?_
        refine j_istore_n C dX1_visitorsIn_26 (Nat.le_of_ble_eq_true rfl) (n := 27) rfl ?_
        refine j_iinc C dX1_visitorsIn_27 rfl ic_1 (Nat.le_of_ble_eq_true rfl) (n := 30) rfl ?_
        refine j_goto C dX1_visitorsIn_30 (n := 4) (by decide) ?_
        exact j_to (ih _ _ _) ⟨rfl, ⟨rfl, ⟨rfl, ⟨rfl, trivial⟩⟩⟩⟩
set_option maxRecDepth 20000 in
theorem m_X1_visitorsIn (l : Launch) (fu : Nat) (x1 : Int32) (h : Hp) {r : Int32} (e : X1_visitorsIn fu x1 h = some r) : CT l yX1_visitorsIn cX1_visitorsIn 4 (some .int) 3 cwX (fun g => [rf g 1, .int x1]) h (qI cwX r h) := by
  refine ct_of (QR := (fun r : Int32 => qI cwX r h)) (by decide +kernel) (fun g => ⟨rfl, Nat.le_of_ble_eq_true rfl⟩) e (fun x g hl C => ?_)
  unfold X1_visitorsIn
  refine j_iconst C dX1_visitorsIn_0 ic_0 (n := 1) rfl ?_
  refine j_istore_n C dX1_visitorsIn_1 (Nat.le_of_ble_eq_true rfl) (n := 2) rfl ?_
  refine j_iconst C dX1_visitorsIn_2 ic_0 (n := 3) rfl ?_
  refine j_istore_n C dX1_visitorsIn_3 (Nat.le_of_ble_eq_true rfl) (n := 4) rfl ?_
  exact j_to (j_X1_visitorsIn_4 C _ _ _ _ _ _) ⟨rfl, ⟨rfl, ⟨rfl, ⟨rfl, trivial⟩⟩⟩⟩
-- X7_room
set_option maxRecDepth 20000 in
theorem m_X7_room (l : Launch) (fu : Nat) (x1 : Int32) (x2 : Int32) (h : Hp) {r : Int32 × Hp} (e : X7_room fu x1 x2 h = some r) : CT l yX7_room cX7_room 3 (some .int) 5 cwX (fun g => [rf g 0, .int x1, .int x2]) h (qI cwX r.1 r.2) := by
  refine ct_of (QR := (fun r : Int32 × Hp => qI cwX r.1 r.2)) (by decide +kernel) (fun g => ⟨rfl, Nat.le_of_ble_eq_true rfl⟩) e (fun x g hl C => ?_)
  unfold X7_room
  refine j_iload_n C dX7_room_0 rfl (n := 1) rfl ?_
  refine j_cz C (run_S C mi_X7_isRoom lm_X7_107 st_X7_isRoom ⟨Nat.le_of_ble_eq_true rfl, Nat.le_of_ble_eq_true rfl⟩ (m_X7_isRoom _ _ _) rfl rfl rfl (Nat.le_of_ble_eq_true rfl) dX7_room_1) (n := 4) rfl (fun b1 => ?_)
  refine j_if_ne C dX7_room_4 (tgt := 14) (n := 7) (by decide) rfl (fun q2 => ?_) (fun q2 => ?_)
  · refine j_iload_n C dX7_room_14 rfl (n := 15) rfl ?_
    refine j_split (fun q3 => ?_) (fun q3 => ?_)
    · refine j_tabIn C dX7_room_15 q3 (off := 29) (by decide) (n := 44) (by decide) ?_
      refine j_aload_n C dX7_room_44 rfl (n := 45) rfl ?_
      refine gf_X7_12 C 0 (cX_0 g _) rfl dX7_room_45 (n := 48) rfl ?_
      refine gf_X7_110 C 1 (cX_1 g _) rfl dX7_room_48 (n := 51) rfl ?_
      refine j_iload_n C dX7_room_51 rfl (n := 52) rfl ?_
      refine j_iald C 8 (cX_8 g _) dX7_room_52 (n := 53) rfl ?_
      exact j_retP C dX7_room_53
    · refine j_split (fun q4 => ?_) (fun q4 => ?_)
      · refine j_tabIn C dX7_room_15 q4 (off := 39) (by decide) (n := 54) (by decide) ?_
        refine j_aload_n C dX7_room_54 rfl (n := 55) rfl ?_
        refine gf_X7_12 C 0 (cX_0 g _) rfl dX7_room_55 (n := 58) rfl ?_
        refine j_iload_n C dX7_room_58 rfl (n := 59) rfl ?_
        refine j_bnd (fun r6 q5 => ?_)
        refine j_ci C (run_V C mi_X1_partsAt lm_X7_116 iv_X1_partsAt ⟨Nat.le_of_ble_eq_true rfl, Nat.le_of_ble_eq_true rfl⟩ (m_X1_partsAt _ _ _ _ q5) (cX_1 g _) rfl rfl rfl rfl (Nat.le_of_ble_eq_true rfl) dX7_room_59) (n := 62) rfl ?_
        exact j_retP C dX7_room_62
      · refine j_split (fun q8 => ?_) (fun q8 => ?_)
        · refine j_tabIn C dX7_room_15 q8 (off := 48) (by decide) (n := 63) (by decide) ?_
          refine j_aload_n C dX7_room_63 rfl (n := 64) rfl ?_
          refine gf_X7_12 C 0 (cX_0 g _) rfl dX7_room_64 (n := 67) rfl ?_
          refine j_iload_n C dX7_room_67 rfl (n := 68) rfl ?_
          refine j_bnd (fun r10 q9 => ?_)
          refine j_ci C (run_V C mi_X1_likeness lm_X7_119 iv_X1_likeness ⟨Nat.le_of_ble_eq_true rfl, Nat.le_of_ble_eq_true rfl⟩ (m_X1_likeness _ _ _ _ q9) (cX_1 g _) rfl rfl rfl rfl (Nat.le_of_ble_eq_true rfl) dX7_room_68) (n := 71) rfl ?_
          exact j_retP C dX7_room_71
        · refine j_split (fun q12 => ?_) (fun q12 => ?_)
          · refine j_tabIn C dX7_room_15 q12 (off := 57) (by decide) (n := 72) (by decide) ?_
            refine j_aload_n C dX7_room_72 rfl (n := 73) rfl ?_
            refine gf_X7_12 C 0 (cX_0 g _) rfl dX7_room_73 (n := 76) rfl ?_
            refine j_iload_n C dX7_room_76 rfl (n := 77) rfl ?_
            refine j_bnd (fun r14 q13 => ?_)
            refine j_ci C (run_V C mi_X1_visitorsIn lm_X7_122 iv_X1_visitorsIn ⟨Nat.le_of_ble_eq_true rfl, Nat.le_of_ble_eq_true rfl⟩ (m_X1_visitorsIn _ _ _ _ q13) (cX_1 g _) rfl rfl rfl rfl (Nat.le_of_ble_eq_true rfl) dX7_room_77) (n := 80) rfl ?_
            exact j_retP C dX7_room_80
          · refine j_tabOut C dX7_room_15 (tabout_0_3 q3 q4 q8 q12) (n := 81) (by decide) ?_
            refine j_aload_n C dX7_room_81 rfl (n := 82) rfl ?_
            refine j_ldc C dX7_room_82 kc_X7_67 (n := 84) rfl ?_
            refine j_bnd (fun r17 q16 => ?_)
            refine j_ci C (run_V C mi_X7_finding lm_X7_68 iv_X7_finding ⟨Nat.le_of_ble_eq_true rfl, Nat.le_of_ble_eq_true rfl⟩ (m_X7_finding _ _ _ q16) (cX_0 g _) rfl rfl rfl rfl (Nat.le_of_ble_eq_true rfl) dX7_room_84) (n := 87) rfl ?_
            exact j_retP C dX7_room_87
  · refine j_aload_n C dX7_room_7 rfl (n := 8) rfl ?_
    refine j_ldc C dX7_room_8 kc_X7_67 (n := 10) rfl ?_
    refine j_bnd (fun r20 q19 => ?_)
    refine j_ci C (run_V C mi_X7_finding lm_X7_68 iv_X7_finding ⟨Nat.le_of_ble_eq_true rfl, Nat.le_of_ble_eq_true rfl⟩ (m_X7_finding _ _ _ q19) (cX_0 g _) rfl rfl rfl rfl (Nat.le_of_ble_eq_true rfl) dX7_room_10) (n := 13) rfl ?_
    exact j_retP C dX7_room_13
-- X7_like
set_option maxRecDepth 20000 in
theorem m_X7_like (l : Launch) (x1 : Int32) (x2 : Int32) (h : Hp) {r : Int32 × Hp} (e : X7_like x1 x2 h = some r) : CT l yX7_like cX7_like 3 (some .int) 4 cwX (fun g => [rf g 0, .int x1, .int x2]) h (qI cwX r.1 r.2) := by
  refine ct_of (QR := (fun r : Int32 × Hp => qI cwX r.1 r.2)) (by decide +kernel) (fun g => ⟨rfl, Nat.le_of_ble_eq_true rfl⟩) e (fun x g hl C => ?_)
  unfold X7_like
  refine j_aload_n C dX7_like_0 rfl (n := 1) rfl ?_
  refine gf_X7_12 C 0 (cX_0 g _) rfl dX7_like_1 (n := 4) rfl ?_
  refine j_iload_n C dX7_like_4 rfl (n := 5) rfl ?_
  refine j_cz C (run_V C mi_X1_hasPart lm_X7_85 iv_X1_hasPart ⟨Nat.le_of_ble_eq_true rfl, Nat.le_of_ble_eq_true rfl⟩ (m_X1_hasPart _ _ _) (cX_1 g _) rfl rfl rfl rfl (Nat.le_of_ble_eq_true rfl) dX7_like_5) (n := 8) rfl (fun b1 => ?_)
  refine j_if_eq C dX7_like_8 (tgt := 18) (n := 11) (by decide) rfl (fun q2 => ?_) (fun q2 => ?_)
  · refine j_aload_n C dX7_like_18 rfl (n := 19) rfl ?_
    refine j_ldc C dX7_like_19 kc_X7_67 (n := 21) rfl ?_
    refine j_bnd (fun r4 q3 => ?_)
    refine j_ci C (run_V C mi_X7_finding lm_X7_68 iv_X7_finding ⟨Nat.le_of_ble_eq_true rfl, Nat.le_of_ble_eq_true rfl⟩ (m_X7_finding _ _ _ q3) (cX_0 g _) rfl rfl rfl rfl (Nat.le_of_ble_eq_true rfl) dX7_like_21) (n := 24) rfl ?_
    exact j_retP C dX7_like_24
  · refine j_iload_n C dX7_like_11 rfl (n := 12) rfl ?_
    refine j_cz C (run_S C mi_X7_isFace lm_X7_98 st_X7_isFace ⟨Nat.le_of_ble_eq_true rfl, Nat.le_of_ble_eq_true rfl⟩ (m_X7_isFace _ _ _) rfl rfl rfl (Nat.le_of_ble_eq_true rfl) dX7_like_12) (n := 15) rfl (fun b6 => ?_)
    refine j_if_ne C dX7_like_15 (tgt := 25) (n := 18) (by decide) rfl (fun q7 => ?_) (fun q7 => ?_)
    · refine j_aload_n C dX7_like_25 rfl (n := 26) rfl ?_
      refine gf_X7_12 C 0 (cX_0 g _) rfl dX7_like_26 (n := 29) rfl ?_
      refine j_iload_n C dX7_like_29 rfl (n := 30) rfl ?_
      refine j_iload_n C dX7_like_30 rfl (n := 31) rfl ?_
      refine j_bnd (fun r9 q8 => ?_)
      refine j_ci C (run_V C mi_X1_likeTo lm_X7_125 iv_X1_likeTo ⟨Nat.le_of_ble_eq_true rfl, Nat.le_of_ble_eq_true rfl⟩ (m_X1_likeTo _ _ _ _ q8) (cX_1 g _) rfl rfl rfl rfl (Nat.le_of_ble_eq_true rfl) dX7_like_31) (n := 34) rfl ?_
      exact j_retP C dX7_like_34
    · refine j_aload_n C dX7_like_18 rfl (n := 19) rfl ?_
      refine j_ldc C dX7_like_19 kc_X7_67 (n := 21) rfl ?_
      refine j_bnd (fun r12 q11 => ?_)
      refine j_ci C (run_V C mi_X7_finding lm_X7_68 iv_X7_finding ⟨Nat.le_of_ble_eq_true rfl, Nat.le_of_ble_eq_true rfl⟩ (m_X7_finding _ _ _ q11) (cX_0 g _) rfl rfl rfl rfl (Nat.le_of_ble_eq_true rfl) dX7_like_21) (n := 24) rfl ?_
      exact j_retP C dX7_like_24
-- X7_isPlace
set_option maxRecDepth 20000 in
theorem m_X7_isPlace (l : Launch) (x0 : Int32) (h : Hp) : CT l yX7_isPlace cX7_isPlace 1 (some .boolean) 1 cwX (fun g => [.int x0]) h (qZ cwX (X7_isPlace x0) h) := by
  refine ct_of (QR := (fun r : Int32 => qZ cwX r h)) (by decide +kernel) (fun g => ⟨rfl, Nat.le_of_ble_eq_true rfl⟩) (X7_isPlace_e x0) (fun x g hl C => ?_)
  unfold X7_isPlace_o
  refine j_iload_n C dX7_isPlace_0 rfl (n := 1) rfl ?_
  refine j_iconst C dX7_isPlace_1 ic_m1 (n := 2) rfl ?_
  refine j_iconst C dX7_isPlace_2 ic_5 (n := 3) rfl ?_
  refine j_cz C (run_S C mi_X7_within lm_X7_94 st_X7_within ⟨Nat.le_of_ble_eq_true rfl, Nat.le_of_ble_eq_true rfl⟩ (m_X7_within _ _ _ _ _) rfl rfl rfl (Nat.le_of_ble_eq_true rfl) dX7_isPlace_3) (n := 6) rfl (fun b1 => ?_)
  exact j_retZ C b1 dX7_isPlace_6
-- X2_minutes
set_option maxRecDepth 20000 in
theorem m_X2_minutes (l : Launch) (x0 : Int32) (x1 : Int32) (x2 : Int32) (h : Hp) {r : Int32} (e : X2_minutes x0 x1 x2 = some r) : CT l yX2_minutes cX2_minutes 3 (some .int) 0 cwX (fun g => [.int x0, .int x1, .int x2]) h (qI cwX r h) := by
  refine ct_of (QR := (fun r : Int32 => qI cwX r h)) (by decide +kernel) (fun g => ⟨rfl, Nat.le_of_ble_eq_true rfl⟩) e (fun x g hl C => ?_)
  unfold X2_minutes
  refine j_iload_n C dX2_minutes_0 rfl (n := 1) rfl ?_
  refine j_split (fun q1 => ?_) (fun q1 => ?_)
  · refine j_tabIn C dX2_minutes_1 q1 (off := 35) (by decide) (n := 36) (by decide) ?_
    refine j_iload_n C dX2_minutes_36 rfl (n := 37) rfl ?_
    refine j_iconst C dX2_minutes_37 ic_3 (n := 38) rfl ?_
    refine j_iadd C dX2_minutes_38 (n := 39) rfl ?_
    exact j_ret C dX2_minutes_39
  · refine j_split (fun q2 => ?_) (fun q2 => ?_)
    · refine j_tabIn C dX2_minutes_1 q2 (off := 39) (by decide) (n := 40) (by decide) ?_
      refine j_iconst C dX2_minutes_40 ic_2 (n := 41) rfl ?_
      refine j_iload_n C dX2_minutes_41 rfl (n := 42) rfl ?_
      refine j_iconst C dX2_minutes_42 ic_3 (n := 43) rfl ?_
      refine j_iadd C dX2_minutes_43 (n := 44) rfl ?_
      refine j_imul C dX2_minutes_44 (n := 45) rfl ?_
      exact j_ret C dX2_minutes_45
    · refine j_split (fun q3 => ?_) (fun q3 => ?_)
      · refine j_tabIn C dX2_minutes_1 q3 (off := 45) (by decide) (n := 46) (by decide) ?_
        refine j_iload_n C dX2_minutes_46 rfl (n := 47) rfl ?_
        refine j_iconst C dX2_minutes_47 ic_1 (n := 48) rfl ?_
        refine j_iadd C dX2_minutes_48 (n := 49) rfl ?_
        refine j_iload_n C dX2_minutes_49 rfl (n := 50) rfl ?_
        refine j_bipush C dX2_minutes_50 bp_10 (n := 52) rfl ?_
        refine j_idivL C dX2_minutes_52 (by decide) (n := 53) rfl ?_
        refine j_iadd C dX2_minutes_53 (n := 54) rfl ?_
        exact j_ret C dX2_minutes_54
      · refine j_split (fun q4 => ?_) (fun q4 => ?_)
        · refine j_tabIn C dX2_minutes_1 q4 (off := 54) (by decide) (n := 55) (by decide) ?_
          refine j_iconst C dX2_minutes_55 ic_1 (n := 56) rfl ?_
          exact j_ret C dX2_minutes_56
        · refine j_split (fun q5 => ?_) (fun q5 => ?_)
          · refine j_tabIn C dX2_minutes_1 q5 (off := 54) (by decide) (n := 55) (by decide) ?_
            refine j_iconst C dX2_minutes_55 ic_1 (n := 56) rfl ?_
            exact j_ret C dX2_minutes_56
          · refine j_tabOut C dX2_minutes_1 (tabout_2_6 q1 q2 q3 q4 q5) (n := 57) (by decide) ?_
            refine j_iload_n C dX2_minutes_57 rfl (n := 58) rfl ?_
            refine j_iconst C dX2_minutes_58 ic_1 (n := 59) rfl ?_
            refine j_iadd C dX2_minutes_59 (n := 60) rfl ?_
            exact j_ret C dX2_minutes_60
-- X1_minutesTo
set_option maxRecDepth 20000 in
theorem j_X1_minutesTo_17 {x : Fx} {g : Gl} (C : Ok x g RX1 cX1_minutesTo 5 (some .int)) (h : Hp) (x1 : Int32) : J x g cwX 5 1 (fun r : Int32 => qI cwX r h) 17 [some (rf g 1), some (.int x1)] [] h (X1_minutesTo_17 h x1) := by
  unfold X1_minutesTo_17
  refine j_bipush C dX1_minutesTo_17 bp_6 (n := 19) rfl ?_
  refine j_goto C dX1_minutesTo_19 (n := 28) (by decide) ?_
  refine j_istore C dX1_minutesTo_28 (Nat.le_of_ble_eq_true rfl) (n := 30) rfl ?_
  refine j_aload_n C dX1_minutesTo_30 rfl (n := 31) rfl ?_
  refine gf_X1_9 C 1 (cX_1 g _) rfl dX1_minutesTo_31 (n := 34) rfl ?_
  refine j_iload_n C dX1_minutesTo_34 rfl (n := 35) rfl ?_
  refine j_iald C 2 (cX_2 g _) dX1_minutesTo_35 (n := 36) rfl ?_
  refine j_iload C dX1_minutesTo_36 rfl (n := 38) rfl ?_
  refine j_aload_n C dX1_minutesTo_38 rfl (n := 39) rfl ?_
  refine gf_X1_18 C 1 (cX_1 g _) rfl dX1_minutesTo_39 (n := 42) rfl ?_
  refine j_iload_n C dX1_minutesTo_42 rfl (n := 43) rfl ?_
  refine j_iald C 4 (cX_4 g _) dX1_minutesTo_43 (n := 44) rfl ?_
  refine j_bnd (fun r2 q1 => ?_)
  refine j_ci C (run_S C mi_X2_minutes lm_X1_90 st_X2_minutes ⟨Nat.le_of_ble_eq_true rfl, Nat.le_of_ble_eq_true rfl⟩ (m_X2_minutes _ _ _ _ _ q1) rfl rfl rfl (Nat.le_of_ble_eq_true rfl) dX1_minutesTo_44) (n := 47) rfl ?_
  exact j_ret C dX1_minutesTo_47
set_option maxRecDepth 20000 in
theorem m_X1_minutesTo (l : Launch) (x1 : Int32) (x2 : Int32) (h : Hp) {r : Int32} (e : X1_minutesTo x1 x2 h = some r) : CT l yX1_minutesTo cX1_minutesTo 5 (some .int) 1 cwX (fun g => [rf g 1, .int x1, .int x2]) h (qI cwX r h) := by
  refine ct_of (QR := (fun r : Int32 => qI cwX r h)) (by decide +kernel) (fun g => ⟨rfl, Nat.le_of_ble_eq_true rfl⟩) e (fun x g hl C => ?_)
  unfold X1_minutesTo
  refine j_aload_n C dX1_minutesTo_0 rfl (n := 1) rfl ?_
  refine gf_X1_21 C 1 (cX_1 g _) rfl dX1_minutesTo_1 (n := 4) rfl ?_
  refine j_iload_n C dX1_minutesTo_4 rfl (n := 5) rfl ?_
  refine j_iald C 5 (cX_5 g _) dX1_minutesTo_5 (n := 6) rfl ?_
  refine j_istore_n C dX1_minutesTo_6 (Nat.le_of_ble_eq_true rfl) (n := 7) rfl ?_
  refine j_iload_n C dX1_minutesTo_7 rfl (n := 8) rfl ?_
  refine j_iconst C dX1_minutesTo_8 ic_m1 (n := 9) rfl ?_
  refine j_icmp_eq C dX1_minutesTo_9 (tgt := 17) (n := 12) (by decide) rfl (fun q1 => ?_) (fun q1 => ?_)
  · exact j_to (j_X1_minutesTo_17 C _ _) ⟨rfl, ⟨rfl, trivial⟩⟩
  · refine j_iload_n C dX1_minutesTo_12 rfl (n := 13) rfl ?_
    refine j_iconst C dX1_minutesTo_13 ic_m1 (n := 14) rfl ?_
    refine j_icmp_ne C dX1_minutesTo_14 (tgt := 22) (n := 17) (by decide) rfl (fun q2 => ?_) (fun q2 => ?_)
    · refine j_iload_n C dX1_minutesTo_22 rfl (n := 23) rfl ?_
      refine j_iload_n C dX1_minutesTo_23 rfl (n := 24) rfl ?_
      refine j_isub C dX1_minutesTo_24 (n := 25) rfl ?_
      refine j_mabs C lm_X1_84 (Nat.le_of_ble_eq_true rfl) (Nat.le_of_ble_eq_true rfl) dX1_minutesTo_25 (n := 28) rfl ?_
      refine j_istore C dX1_minutesTo_28 (Nat.le_of_ble_eq_true rfl) (n := 30) rfl ?_
      refine j_aload_n C dX1_minutesTo_30 rfl (n := 31) rfl ?_
      refine gf_X1_9 C 1 (cX_1 g _) rfl dX1_minutesTo_31 (n := 34) rfl ?_
      refine j_iload_n C dX1_minutesTo_34 rfl (n := 35) rfl ?_
      refine j_iald C 2 (cX_2 g _) dX1_minutesTo_35 (n := 36) rfl ?_
      refine j_iload C dX1_minutesTo_36 rfl (n := 38) rfl ?_
      refine j_aload_n C dX1_minutesTo_38 rfl (n := 39) rfl ?_
      refine gf_X1_18 C 1 (cX_1 g _) rfl dX1_minutesTo_39 (n := 42) rfl ?_
      refine j_iload_n C dX1_minutesTo_42 rfl (n := 43) rfl ?_
      refine j_iald C 4 (cX_4 g _) dX1_minutesTo_43 (n := 44) rfl ?_
      refine j_bnd (fun r4 q3 => ?_)
      refine j_ci C (run_S C mi_X2_minutes lm_X1_90 st_X2_minutes ⟨Nat.le_of_ble_eq_true rfl, Nat.le_of_ble_eq_true rfl⟩ (m_X2_minutes _ _ _ _ _ q3) rfl rfl rfl (Nat.le_of_ble_eq_true rfl) dX1_minutesTo_44) (n := 47) rfl ?_
      exact j_ret C dX1_minutesTo_47
    · exact j_to (j_X1_minutesTo_17 C _ _) ⟨rfl, ⟨rfl, trivial⟩⟩
-- X7_carries
set_option maxRecDepth 20000 in
theorem m_X7_carries (l : Launch) (x1 : Int32) (x2 : Int32) (h : Hp) {r : Int32 × Hp} (e : X7_carries x1 x2 h = some r) : CT l yX7_carries cX7_carries 3 (some .int) 2 cwX (fun g => [rf g 0, .int x1, .int x2]) h (qI cwX r.1 r.2) := by
  refine ct_of (QR := (fun r : Int32 × Hp => qI cwX r.1 r.2)) (by decide +kernel) (fun g => ⟨rfl, Nat.le_of_ble_eq_true rfl⟩) e (fun x g hl C => ?_)
  unfold X7_carries
  refine j_aload_n C dX7_carries_0 rfl (n := 1) rfl ?_
  refine gf_X7_12 C 0 (cX_0 g _) rfl dX7_carries_1 (n := 4) rfl ?_
  refine j_iload_n C dX7_carries_4 rfl (n := 5) rfl ?_
  refine j_cz C (run_V C mi_X1_hasPart lm_X7_85 iv_X1_hasPart ⟨Nat.le_of_ble_eq_true rfl, Nat.le_of_ble_eq_true rfl⟩ (m_X1_hasPart _ _ _) (cX_1 g _) rfl rfl rfl rfl (Nat.le_of_ble_eq_true rfl) dX7_carries_5) (n := 8) rfl (fun b1 => ?_)
  refine j_if_eq C dX7_carries_8 (tgt := 18) (n := 11) (by decide) rfl (fun q2 => ?_) (fun q2 => ?_)
  · refine j_aload_n C dX7_carries_18 rfl (n := 19) rfl ?_
    refine j_ldc C dX7_carries_19 kc_X7_67 (n := 21) rfl ?_
    refine j_bnd (fun r4 q3 => ?_)
    refine j_ci C (run_V C mi_X7_finding lm_X7_68 iv_X7_finding ⟨Nat.le_of_ble_eq_true rfl, Nat.le_of_ble_eq_true rfl⟩ (m_X7_finding _ _ _ q3) (cX_0 g _) rfl rfl rfl rfl (Nat.le_of_ble_eq_true rfl) dX7_carries_21) (n := 24) rfl ?_
    exact j_retP C dX7_carries_24
  · refine j_iload_n C dX7_carries_11 rfl (n := 12) rfl ?_
    refine j_cz C (run_S C mi_X7_isPlace lm_X7_129 st_X7_isPlace ⟨Nat.le_of_ble_eq_true rfl, Nat.le_of_ble_eq_true rfl⟩ (m_X7_isPlace _ _ _) rfl rfl rfl (Nat.le_of_ble_eq_true rfl) dX7_carries_12) (n := 15) rfl (fun b6 => ?_)
    refine j_if_ne C dX7_carries_15 (tgt := 25) (n := 18) (by decide) rfl (fun q7 => ?_) (fun q7 => ?_)
    · refine j_aload_n C dX7_carries_25 rfl (n := 26) rfl ?_
      refine gf_X7_12 C 0 (cX_0 g _) rfl dX7_carries_26 (n := 29) rfl ?_
      refine gf_X7_132 C 1 (cX_1 g _) rfl dX7_carries_29 (n := 32) rfl ?_
      refine j_iload_n C dX7_carries_32 rfl (n := 33) rfl ?_
      refine j_iald C 5 (cX_5 g _) dX7_carries_33 (n := 34) rfl ?_
      refine j_iload_n C dX7_carries_34 rfl (n := 35) rfl ?_
      refine j_icmp_ne C dX7_carries_35 (tgt := 45) (n := 38) (by decide) rfl (fun q8 => ?_) (fun q8 => ?_)
      · refine j_aload_n C dX7_carries_45 rfl (n := 46) rfl ?_
        refine gf_X7_12 C 0 (cX_0 g _) rfl dX7_carries_46 (n := 49) rfl ?_
        refine j_iload_n C dX7_carries_49 rfl (n := 50) rfl ?_
        refine j_iload_n C dX7_carries_50 rfl (n := 51) rfl ?_
        refine j_bnd (fun r10 q9 => ?_)
        refine j_ci C (run_V C mi_X1_minutesTo lm_X7_136 iv_X1_minutesTo ⟨Nat.le_of_ble_eq_true rfl, Nat.le_of_ble_eq_true rfl⟩ (m_X1_minutesTo _ _ _ _ q9) (cX_1 g _) rfl rfl rfl rfl (Nat.le_of_ble_eq_true rfl) dX7_carries_51) (n := 54) rfl ?_
        exact j_retP C dX7_carries_54
      · refine j_aload_n C dX7_carries_38 rfl (n := 39) rfl ?_
        refine j_ldc C dX7_carries_39 kc_X7_135 (n := 41) rfl ?_
        refine j_bnd (fun r13 q12 => ?_)
        refine j_ci C (run_V C mi_X7_finding lm_X7_68 iv_X7_finding ⟨Nat.le_of_ble_eq_true rfl, Nat.le_of_ble_eq_true rfl⟩ (m_X7_finding _ _ _ q12) (cX_0 g _) rfl rfl rfl rfl (Nat.le_of_ble_eq_true rfl) dX7_carries_41) (n := 44) rfl ?_
        exact j_retP C dX7_carries_44
    · refine j_aload_n C dX7_carries_18 rfl (n := 19) rfl ?_
      refine j_ldc C dX7_carries_19 kc_X7_67 (n := 21) rfl ?_
      refine j_bnd (fun r16 q15 => ?_)
      refine j_ci C (run_V C mi_X7_finding lm_X7_68 iv_X7_finding ⟨Nat.le_of_ble_eq_true rfl, Nat.le_of_ble_eq_true rfl⟩ (m_X7_finding _ _ _ q15) (cX_0 g _) rfl rfl rfl rfl (Nat.le_of_ble_eq_true rfl) dX7_carries_21) (n := 24) rfl ?_
      exact j_retP C dX7_carries_24
-- X1_addVisitor
set_option maxRecDepth 20000 in
theorem m_X1_addVisitor (l : Launch) (h : Hp) {r : Int32 × Hp} (e : X1_addVisitor h = some r) : CT l yX1_addVisitor cX1_addVisitor 1 (some .int) 0 cwX (fun g => [rf g 1]) h (qI cwX r.1 r.2) := by
  refine ct_of (QR := (fun r : Int32 × Hp => qI cwX r.1 r.2)) (by decide +kernel) (fun g => ⟨rfl, Nat.le_of_ble_eq_true rfl⟩) e (fun x g hl C => ?_)
  unfold X1_addVisitor
  refine j_aload_n C dX1_addVisitor_0 rfl (n := 1) rfl ?_
  refine gf_X1_33 C 1 (cX_1 g _) rfl dX1_addVisitor_1 (n := 4) rfl ?_
  refine j_aload_n C dX1_addVisitor_4 rfl (n := 5) rfl ?_
  refine gf_X1_64 C 1 (cX_1 g _) rfl dX1_addVisitor_5 (n := 8) rfl ?_
  refine j_aload_n C dX1_addVisitor_8 rfl (n := 9) rfl ?_
  refine gf_X1_67 C 1 (cX_1 g _) rfl dX1_addVisitor_9 (n := 12) rfl ?_
  refine j_iast C 9 (cX_9 g _) (aX_9 g _ _ _) dX1_addVisitor_12 (n := 13) rfl ?_
  refine j_aload_n C dX1_addVisitor_13 rfl (n := 14) rfl ?_
  refine j_dup C dX1_addVisitor_14 rfl (n := 15) rfl ?_
  refine gf_X1_64 C 1 (cX_1 g _) rfl dX1_addVisitor_15 (n := 18) rfl ?_
  refine j_dup_x1 C dX1_addVisitor_18 rfl rfl (n := 19) rfl ?_
  refine j_iconst C dX1_addVisitor_19 ic_1 (n := 20) rfl ?_
  refine j_iadd C dX1_addVisitor_20 (n := 21) rfl ?_
  refine pf_X1_64 C 1 (cX_1 g _) (sX_1_11 g _ _) rfl dX1_addVisitor_21 (n := 24) rfl ?_
  exact j_retP C dX1_addVisitor_24
-- X7_visitor
set_option maxRecDepth 20000 in
theorem m_X7_visitor (l : Launch) (h : Hp) {r : Int32 × Hp} (e : X7_visitor h = some r) : CT l yX7_visitor cX7_visitor 1 (some .int) 2 cwX (fun g => [rf g 0]) h (qI cwX r.1 r.2) := by
  refine ct_of (QR := (fun r : Int32 × Hp => qI cwX r.1 r.2)) (by decide +kernel) (fun g => ⟨rfl, Nat.le_of_ble_eq_true rfl⟩) e (fun x g hl C => ?_)
  unfold X7_visitor
  refine j_aload_n C dX7_visitor_0 rfl (n := 1) rfl ?_
  refine gf_X7_12 C 0 (cX_0 g _) rfl dX7_visitor_1 (n := 4) rfl ?_
  refine gf_X7_139 C 1 (cX_1 g _) rfl dX7_visitor_4 (n := 7) rfl ?_
  refine j_iconst C dX7_visitor_7 ic_4 (n := 8) rfl ?_
  refine j_icmp_lt C dX7_visitor_8 (tgt := 18) (n := 11) (by decide) rfl (fun q1 => ?_) (fun q1 => ?_)
  · refine j_aload_n C dX7_visitor_18 rfl (n := 19) rfl ?_
    refine gf_X7_12 C 0 (cX_0 g _) rfl dX7_visitor_19 (n := 22) rfl ?_
    refine j_bnd (fun r3 q2 => ?_)
    refine j_ci C (run_V C mi_X1_addVisitor lm_X7_142 iv_X1_addVisitor ⟨Nat.le_of_ble_eq_true rfl, Nat.le_of_ble_eq_true rfl⟩ (m_X1_addVisitor _ _ q2) (cX_1 g _) rfl rfl rfl rfl (Nat.le_of_ble_eq_true rfl) dX7_visitor_22) (n := 25) rfl ?_
    exact j_retP C dX7_visitor_25
  · refine j_aload_n C dX7_visitor_11 rfl (n := 12) rfl ?_
    refine j_ldc C dX7_visitor_12 kc_X7_76 (n := 14) rfl ?_
    refine j_bnd (fun r6 q5 => ?_)
    refine j_ci C (run_V C mi_X7_finding lm_X7_68 iv_X7_finding ⟨Nat.le_of_ble_eq_true rfl, Nat.le_of_ble_eq_true rfl⟩ (m_X7_finding _ _ _ q5) (cX_0 g _) rfl rfl rfl rfl (Nat.le_of_ble_eq_true rfl) dX7_visitor_14) (n := 17) rfl ?_
    exact j_retP C dX7_visitor_17
-- X1_hasVisitor
set_option maxRecDepth 20000 in
theorem m_X1_hasVisitor (l : Launch) (x1 : Int32) (h : Hp) : CT l yX1_hasVisitor cX1_hasVisitor 2 (some .boolean) 1 cwX (fun g => [rf g 1, .int x1]) h (qZ cwX (X1_hasVisitor x1 h) h) := by
  refine ct_of (QR := (fun r : Int32 => qZ cwX r h)) (by decide +kernel) (fun g => ⟨rfl, Nat.le_of_ble_eq_true rfl⟩) (X1_hasVisitor_e x1 h) (fun x g hl C => ?_)
  unfold X1_hasVisitor_o
  refine j_iload_n C dX1_hasVisitor_0 rfl (n := 1) rfl ?_
  refine j_iconst C dX1_hasVisitor_1 ic_0 (n := 2) rfl ?_
  refine j_aload_n C dX1_hasVisitor_2 rfl (n := 3) rfl ?_
  refine gf_X1_64 C 1 (cX_1 g _) rfl dX1_hasVisitor_3 (n := 6) rfl ?_
  refine j_iconst C dX1_hasVisitor_6 ic_1 (n := 7) rfl ?_
  refine j_isub C dX1_hasVisitor_7 (n := 8) rfl ?_
  refine j_cz C (run_SN C mi_X7_within ns_X1_70 st_X7_within ⟨Nat.le_of_ble_eq_true rfl, Nat.le_of_ble_eq_true rfl⟩ (m_X7_within _ _ _ _ _) rfl rfl rfl (Nat.le_of_ble_eq_true rfl) dX1_hasVisitor_8) (n := 11) rfl (fun b1 => ?_)
  exact j_retZ C b1 dX1_hasVisitor_11
-- X1_sighted
set_option maxRecDepth 20000 in
theorem j_X1_sighted_5 {x : Fx} {g : Gl} (C : Ok x g RX1 cX1_sighted 5 (some .int)) (fu : Nat) (h : Hp) : ∀ (n : Nat) (x1 : Int32) (x2 : Int32) (x3 : Int32) (x4 : Int32), J x g cwX 5 1 (fun r : Int32 => qI cwX r h) 5 [some (rf g 1), some (.int x1), some (.int x2), some (.int x3), some (.int x4)] [] h (X1_sighted_5 fu h n x1 x2 x3 x4) := by
  intro n
  induction n with
  | zero =>
    intro x1 x2 x3 x4
    rw [X1_sighted_5]
    exact j_none
  | succ n ih =>
    intro x1 x2 x3 x4
    rw [X1_sighted_5]
    refine j_iload C dX1_sighted_5 rfl (n := 7) rfl ?_
    refine j_aload_n C dX1_sighted_7 rfl (n := 8) rfl ?_
    refine gf_X1_61 C 1 (cX_1 g _) rfl dX1_sighted_8 (n := 11) rfl ?_
    refine j_icmp_ge C dX1_sighted_11 (tgt := 46) (n := 14) (by decide) rfl (fun q1 => ?_) (fun q1 => ?_)
    · refine j_iload_n C dX1_sighted_46 rfl (n := 47) rfl ?_
      exact j_ret C dX1_sighted_47
    · refine j_aload_n C dX1_sighted_14 rfl (n := 15) rfl ?_
      refine gf_X1_36 C 1 (cX_1 g _) rfl dX1_sighted_15 (n := 18) rfl ?_
      refine j_iload_n C dX1_sighted_18 rfl (n := 19) rfl ?_
      refine j_bipush C dX1_sighted_19 bp_10 (n := 21) rfl ?_
      refine j_imul C dX1_sighted_21 (n := 22) rfl ?_
      refine j_iload C dX1_sighted_22 rfl (n := 24) rfl ?_
      refine j_iadd C dX1_sighted_24 (n := 25) rfl ?_
      refine j_iald C 10 (cX_10 g _) dX1_sighted_25 (n := 26) rfl ?_
      refine j_ci C (run_S C mi_J6_bitCount_0f7a4 lm_X1_129 st_J6_bitCount_0f7a4 ⟨Nat.le_of_ble_eq_true rfl, Nat.le_of_ble_eq_true rfl⟩ (m_J6_bitCount_0f7a4 _ _ _) rfl rfl rfl (Nat.le_of_ble_eq_true rfl) dX1_sighted_26) (n := 29) rfl ?_
      refine j_iload_n C dX1_sighted_29 rfl (n := 30) rfl ?_
      refine j_icmp_lt C dX1_sighted_30 (tgt := 40) (n := 33) (by decide) rfl (fun q2 => ?_) (fun q2 => ?_)
      · refine j_iinc C dX1_sighted_40 rfl ic_1 (Nat.le_of_ble_eq_true rfl) (n := 43) rfl ?_
        refine j_goto C dX1_sighted_43 (n := 5) (by decide) ?_
        exact j_to (ih _ _ _ _) ⟨rfl, ⟨rfl, ⟨rfl, ⟨rfl, ⟨rfl, trivial⟩⟩⟩⟩⟩
      · refine j_iload_n C dX1_sighted_33 rfl (n := 34) rfl ?_
        refine j_iconst C dX1_sighted_34 ic_1 (n := 35) rfl ?_
        refine j_iload C dX1_sighted_35 rfl (n := 37) rfl ?_
        refine j_ishl C dX1_sighted_37 (n := 38) rfl ?_
        refine j_ior C dX1_sighted_38 (n := 39) rfl ?_
        refine j_istore_n C dX1_sighted_39 (Nat.le_of_ble_eq_true rfl) (n := 40) rfl ?_
        refine j_iinc C dX1_sighted_40 rfl ic_1 (Nat.le_of_ble_eq_true rfl) (n := 43) rfl ?_
        refine j_goto C dX1_sighted_43 (n := 5) (by decide) ?_
        exact j_to (ih _ _ _ _) ⟨rfl, ⟨rfl, ⟨rfl, ⟨rfl, ⟨rfl, trivial⟩⟩⟩⟩⟩
set_option maxRecDepth 20000 in
theorem m_X1_sighted (l : Launch) (fu : Nat) (x1 : Int32) (x2 : Int32) (h : Hp) {r : Int32} (e : X1_sighted fu x1 x2 h = some r) : CT l yX1_sighted cX1_sighted 5 (some .int) 1 cwX (fun g => [rf g 1, .int x1, .int x2]) h (qI cwX r h) := by
  refine ct_of (QR := (fun r : Int32 => qI cwX r h)) (by decide +kernel) (fun g => ⟨rfl, Nat.le_of_ble_eq_true rfl⟩) e (fun x g hl C => ?_)
  unfold X1_sighted
  refine j_iconst C dX1_sighted_0 ic_0 (n := 1) rfl ?_
  refine j_istore_n C dX1_sighted_1 (Nat.le_of_ble_eq_true rfl) (n := 2) rfl ?_
  refine j_iconst C dX1_sighted_2 ic_0 (n := 3) rfl ?_
  refine j_istore C dX1_sighted_3 (Nat.le_of_ble_eq_true rfl) (n := 5) rfl ?_
  exact j_to (j_X1_sighted_5 C _ _ _ _ _ _ _) ⟨rfl, ⟨rfl, ⟨rfl, ⟨rfl, ⟨rfl, trivial⟩⟩⟩⟩⟩
-- X7_seen
set_option maxRecDepth 20000 in
theorem m_X7_seen (l : Launch) (fu : Nat) (x1 : Int32) (x2 : Int32) (h : Hp) {r : Int32 × Hp} (e : X7_seen fu x1 x2 h = some r) : CT l yX7_seen cX7_seen 3 (some .int) 3 cwX (fun g => [rf g 0, .int x1, .int x2]) h (qI cwX r.1 r.2) := by
  refine ct_of (QR := (fun r : Int32 × Hp => qI cwX r.1 r.2)) (by decide +kernel) (fun g => ⟨rfl, Nat.le_of_ble_eq_true rfl⟩) e (fun x g hl C => ?_)
  unfold X7_seen
  refine j_aload_n C dX7_seen_0 rfl (n := 1) rfl ?_
  refine gf_X7_12 C 0 (cX_0 g _) rfl dX7_seen_1 (n := 4) rfl ?_
  refine j_iload_n C dX7_seen_4 rfl (n := 5) rfl ?_
  refine j_cz C (run_V C mi_X1_hasVisitor lm_X7_146 iv_X1_hasVisitor ⟨Nat.le_of_ble_eq_true rfl, Nat.le_of_ble_eq_true rfl⟩ (m_X1_hasVisitor _ _ _) (cX_1 g _) rfl rfl rfl rfl (Nat.le_of_ble_eq_true rfl) dX7_seen_5) (n := 8) rfl (fun b1 => ?_)
  refine j_if_ne C dX7_seen_8 (tgt := 18) (n := 11) (by decide) rfl (fun q2 => ?_) (fun q2 => ?_)
  · refine j_iload_n C dX7_seen_18 rfl (n := 19) rfl ?_
    refine j_split (fun q3 => ?_) (fun q3 => ?_)
    · refine j_tabIn C dX7_seen_19 q3 (off := 25) (by decide) (n := 44) (by decide) ?_
      refine j_aload_n C dX7_seen_44 rfl (n := 45) rfl ?_
      refine gf_X7_12 C 0 (cX_0 g _) rfl dX7_seen_45 (n := 48) rfl ?_
      refine j_iload_n C dX7_seen_48 rfl (n := 49) rfl ?_
      refine j_bnd (fun r5 q4 => ?_)
      refine j_ci C (run_V C mi_X1_roomOf lm_X7_149 iv_X1_roomOf ⟨Nat.le_of_ble_eq_true rfl, Nat.le_of_ble_eq_true rfl⟩ (m_X1_roomOf _ _ _ q4) (cX_1 g _) rfl rfl rfl rfl (Nat.le_of_ble_eq_true rfl) dX7_seen_49) (n := 52) rfl ?_
      exact j_retP C dX7_seen_52
    · refine j_split (fun q7 => ?_) (fun q7 => ?_)
      · refine j_tabIn C dX7_seen_19 q7 (off := 34) (by decide) (n := 53) (by decide) ?_
        refine j_aload_n C dX7_seen_53 rfl (n := 54) rfl ?_
        refine gf_X7_12 C 0 (cX_0 g _) rfl dX7_seen_54 (n := 57) rfl ?_
        refine j_iload_n C dX7_seen_57 rfl (n := 58) rfl ?_
        refine j_iconst C dX7_seen_58 ic_1 (n := 59) rfl ?_
        refine j_bnd (fun r9 q8 => ?_)
        refine j_ci C (run_V C mi_X1_sighted lm_X7_152 iv_X1_sighted ⟨Nat.le_of_ble_eq_true rfl, Nat.le_of_ble_eq_true rfl⟩ (m_X1_sighted _ _ _ _ _ q8) (cX_1 g _) rfl rfl rfl rfl (Nat.le_of_ble_eq_true rfl) dX7_seen_59) (n := 62) rfl ?_
        exact j_retP C dX7_seen_62
      · refine j_split (fun q11 => ?_) (fun q11 => ?_)
        · refine j_tabIn C dX7_seen_19 q11 (off := 44) (by decide) (n := 63) (by decide) ?_
          refine j_aload_n C dX7_seen_63 rfl (n := 64) rfl ?_
          refine gf_X7_12 C 0 (cX_0 g _) rfl dX7_seen_64 (n := 67) rfl ?_
          refine j_iload_n C dX7_seen_67 rfl (n := 68) rfl ?_
          refine j_iconst C dX7_seen_68 ic_2 (n := 69) rfl ?_
          refine j_bnd (fun r13 q12 => ?_)
          refine j_ci C (run_V C mi_X1_sighted lm_X7_152 iv_X1_sighted ⟨Nat.le_of_ble_eq_true rfl, Nat.le_of_ble_eq_true rfl⟩ (m_X1_sighted _ _ _ _ _ q12) (cX_1 g _) rfl rfl rfl rfl (Nat.le_of_ble_eq_true rfl) dX7_seen_69) (n := 72) rfl ?_
          exact j_retP C dX7_seen_72
        · refine j_tabOut C dX7_seen_19 (tabout_0_2 q3 q7 q11) (n := 73) (by decide) ?_
          refine j_aload_n C dX7_seen_73 rfl (n := 74) rfl ?_
          refine j_ldc C dX7_seen_74 kc_X7_67 (n := 76) rfl ?_
          refine j_bnd (fun r16 q15 => ?_)
          refine j_ci C (run_V C mi_X7_finding lm_X7_68 iv_X7_finding ⟨Nat.le_of_ble_eq_true rfl, Nat.le_of_ble_eq_true rfl⟩ (m_X7_finding _ _ _ q15) (cX_0 g _) rfl rfl rfl rfl (Nat.le_of_ble_eq_true rfl) dX7_seen_76) (n := 79) rfl ?_
          exact j_retP C dX7_seen_79
  · refine j_aload_n C dX7_seen_11 rfl (n := 12) rfl ?_
    refine j_ldc C dX7_seen_12 kc_X7_67 (n := 14) rfl ?_
    refine j_bnd (fun r19 q18 => ?_)
    refine j_ci C (run_V C mi_X7_finding lm_X7_68 iv_X7_finding ⟨Nat.le_of_ble_eq_true rfl, Nat.le_of_ble_eq_true rfl⟩ (m_X7_finding _ _ _ q18) (cX_0 g _) rfl rfl rfl rfl (Nat.le_of_ble_eq_true rfl) dX7_seen_14) (n := 17) rfl ?_
    exact j_retP C dX7_seen_17
-- X1_passes
set_option maxRecDepth 20000 in
theorem m_X1_passes (l : Launch) (x1 : Int32) (x2 : Int32) (x3 : Int32) (x4 : Int32) (h : Hp) {r : Int32} (e : X1_passes x1 x2 x3 x4 h = some r) : CT l yX1_passes cX1_passes 6 (some .boolean) 2 cwX (fun g => [rf g 1, .int x1, .int x2, .int x3, .int x4]) h (qZ cwX r h) := by
  refine ct_of (QR := (fun r : Int32 => qZ cwX r h)) (by decide +kernel) (fun g => ⟨rfl, Nat.le_of_ble_eq_true rfl⟩) e (fun x g hl C => ?_)
  unfold X1_passes
  refine j_aload_n C dX1_passes_0 rfl (n := 1) rfl ?_
  refine gf_X1_33 C 1 (cX_1 g _) rfl dX1_passes_1 (n := 4) rfl ?_
  refine j_iload_n C dX1_passes_4 rfl (n := 5) rfl ?_
  refine j_iald C 9 (cX_9 g _) dX1_passes_5 (n := 6) rfl ?_
  refine j_iload_n C dX1_passes_6 rfl (n := 7) rfl ?_
  refine j_aload_n C dX1_passes_7 rfl (n := 8) rfl ?_
  refine gf_X1_42 C 1 (cX_1 g _) rfl dX1_passes_8 (n := 11) rfl ?_
  refine j_imul C dX1_passes_11 (n := 12) rfl ?_
  refine j_iadd C dX1_passes_12 (n := 13) rfl ?_
  refine j_istore C dX1_passes_13 (Nat.le_of_ble_eq_true rfl) (n := 15) rfl ?_
  refine j_iload_n C dX1_passes_15 rfl (n := 16) rfl ?_
  refine j_cz C (run_SN C mi_X7_isRoom ns_X1_103 st_X7_isRoom ⟨Nat.le_of_ble_eq_true rfl, Nat.le_of_ble_eq_true rfl⟩ (m_X7_isRoom _ _ _) rfl rfl rfl (Nat.le_of_ble_eq_true rfl) dX1_passes_16) (n := 19) rfl (fun b1 => ?_)
  refine j_if_eq C dX1_passes_19 (tgt := 47) (n := 22) (by decide) rfl (fun q2 => ?_) (fun q2 => ?_)
  · refine j_iconst C dX1_passes_47 ic_0 (n := 48) rfl ?_
    exact j_retZ C (Or.inl rfl) dX1_passes_48
  · refine j_iload C dX1_passes_22 rfl (n := 24) rfl ?_
    refine j_iload_n C dX1_passes_24 rfl (n := 25) rfl ?_
    refine j_mmax C lm_X1_112 (Nat.le_of_ble_eq_true rfl) (Nat.le_of_ble_eq_true rfl) dX1_passes_25 (n := 28) rfl ?_
    refine j_iload C dX1_passes_28 rfl (n := 30) rfl ?_
    refine j_aload_n C dX1_passes_30 rfl (n := 31) rfl ?_
    refine gf_X1_42 C 1 (cX_1 g _) rfl dX1_passes_31 (n := 34) rfl ?_
    refine j_iadd C dX1_passes_34 (n := 35) rfl ?_
    refine j_iload C dX1_passes_35 rfl (n := 37) rfl ?_
    refine j_mmin C lm_X1_115 (Nat.le_of_ble_eq_true rfl) (Nat.le_of_ble_eq_true rfl) dX1_passes_37 (n := 40) rfl ?_
    refine j_icmp_ge C dX1_passes_40 (tgt := 47) (n := 43) (by decide) rfl (fun q3 => ?_) (fun q3 => ?_)
    · refine j_iconst C dX1_passes_47 ic_0 (n := 48) rfl ?_
      exact j_retZ C (Or.inl rfl) dX1_passes_48
    · refine j_iconst C dX1_passes_43 ic_1 (n := 44) rfl ?_
      refine j_goto C dX1_passes_44 (n := 48) (by decide) ?_
      exact j_retZ C (Or.inr rfl) dX1_passes_48
-- X1_spend
set_option maxRecDepth 20000 in
theorem j_X1_spend_12 {x : Fx} {g : Gl} (C : Ok x g RX1 cX1_spend 4 none) (fu : Nat) (k2 : Int32 → Int32 → Hp → Option (Hp)) (hk2 : ∀ (x1 : Int32) (x2 : Int32) (h : Hp), J x g cwX 4 3 (fun r : Hp => qV cwX r) 2 [some (rf g 1), some (.int x1), some (.int x2)] [] h (k2 x1 x2 h)) : ∀ (n : Nat) (x1 : Int32) (x2 : Int32) (x3 : Int32) (h : Hp), J x g cwX 4 3 (fun r : Hp => qV cwX r) 12 [some (rf g 1), some (.int x1), some (.int x2), some (.int x3)] [] h (X1_spend_12 fu k2 n x1 x2 x3 h) := by
  intro n
  induction n with
  | zero =>
    intro x1 x2 x3 h
    rw [X1_spend_12]
    exact j_none
  | succ n ih =>
    intro x1 x2 x3 h
    rw [X1_spend_12]
    refine j_iload_n C dX1_spend_12 rfl (n := 13) rfl ?_
    refine j_aload_n C dX1_spend_13 rfl (n := 14) rfl ?_
    refine gf_X1_61 C 1 (cX_1 g _) rfl dX1_spend_14 (n := 17) rfl ?_
    refine j_icmp_ge C dX1_spend_17 (tgt := 72) (n := 20) (by decide) rfl (fun q1 => ?_) (fun q1 => ?_)
    · refine j_iinc C dX1_spend_72 rfl ic_1 (Nat.le_of_ble_eq_true rfl) (n := 75) rfl ?_
      refine j_goto C dX1_spend_75 (n := 2) (by decide) ?_
      exact j_to (hk2 _ _ _) ⟨rfl, ⟨rfl, ⟨rfl, trivial⟩⟩⟩
    · refine j_aload_n C dX1_spend_20 rfl (n := 21) rfl ?_
      refine j_iload_n C dX1_spend_21 rfl (n := 22) rfl ?_
      refine j_aload_n C dX1_spend_22 rfl (n := 23) rfl ?_
      refine gf_X1_21 C 1 (cX_1 g _) rfl dX1_spend_23 (n := 26) rfl ?_
      refine j_iload_n C dX1_spend_26 rfl (n := 27) rfl ?_
      refine j_iald C 5 (cX_5 g _) dX1_spend_27 (n := 28) rfl ?_
      refine j_aload_n C dX1_spend_28 rfl (n := 29) rfl ?_
      refine gf_X1_67 C 1 (cX_1 g _) rfl dX1_spend_29 (n := 32) rfl ?_
      refine j_aload_n C dX1_spend_32 rfl (n := 33) rfl ?_
      refine gf_X1_67 C 1 (cX_1 g _) rfl dX1_spend_33 (n := 36) rfl ?_
      refine j_iload_n C dX1_spend_36 rfl (n := 37) rfl ?_
      refine j_iadd C dX1_spend_37 (n := 38) rfl ?_
      refine j_bnd (fun r3 q2 => ?_)
      refine j_cz C (run_V C mi_X1_passes lm_X1_118 iv_X1_passes ⟨Nat.le_of_ble_eq_true rfl, Nat.le_of_ble_eq_true rfl⟩ (m_X1_passes _ _ _ _ _ _ q2) (cX_1 g _) rfl rfl rfl rfl (Nat.le_of_ble_eq_true rfl) dX1_spend_38) (n := 41) rfl (fun b4 => ?_)
      refine j_if_eq C dX1_spend_41 (tgt := 66) (n := 44) (by decide) rfl (fun q5 => ?_) (fun q5 => ?_)
      · refine j_iinc C dX1_spend_66 rfl ic_1 (Nat.le_of_ble_eq_true rfl) (n := 69) rfl ?_
        refine j_goto C dX1_spend_69 (n := 12) (by decide) ?_
        exact j_to (ih _ _ _ _) ⟨rfl, ⟨rfl, ⟨rfl, ⟨rfl, trivial⟩⟩⟩⟩
      · refine j_aload_n C dX1_spend_44 rfl (n := 45) rfl ?_
        refine gf_X1_36 C 1 (cX_1 g _) rfl dX1_spend_45 (n := 48) rfl ?_
        refine j_iload_n C dX1_spend_48 rfl (n := 49) rfl ?_
        refine j_bipush C dX1_spend_49 bp_10 (n := 51) rfl ?_
        refine j_imul C dX1_spend_51 (n := 52) rfl ?_
        refine j_iload_n C dX1_spend_52 rfl (n := 53) rfl ?_
        refine j_iadd C dX1_spend_53 (n := 54) rfl ?_
        refine j_dup2 C dX1_spend_54 rfl rfl (n := 55) rfl ?_
        refine j_iald C 10 (cX_10 g _) dX1_spend_55 (n := 56) rfl ?_
        refine j_iconst C dX1_spend_56 ic_1 (n := 57) rfl ?_
        refine j_aload_n C dX1_spend_57 rfl (n := 58) rfl ?_
        refine gf_X1_21 C 1 (cX_1 g _) rfl dX1_spend_58 (n := 61) rfl ?_
        refine j_iload_n C dX1_spend_61 rfl (n := 62) rfl ?_
        refine j_iald C 5 (cX_5 g _) dX1_spend_62 (n := 63) rfl ?_
        refine j_ishl C dX1_spend_63 (n := 64) rfl ?_
        refine j_ior C dX1_spend_64 (n := 65) rfl ?_
        refine j_iast C 10 (cX_10 g _) (aX_10 g _ _ _) dX1_spend_65 (n := 66) rfl ?_
        refine j_iinc C dX1_spend_66 rfl ic_1 (Nat.le_of_ble_eq_true rfl) (n := 69) rfl ?_
        refine j_goto C dX1_spend_69 (n := 12) (by decide) ?_
        exact j_to (ih _ _ _ _) ⟨rfl, ⟨rfl, ⟨rfl, ⟨rfl, trivial⟩⟩⟩⟩
set_option maxRecDepth 20000 in
theorem j_X1_spend_2 {x : Fx} {g : Gl} (C : Ok x g RX1 cX1_spend 4 none) (fu : Nat) : ∀ (n : Nat) (x1 : Int32) (x2 : Int32) (h : Hp), J x g cwX 4 3 (fun r : Hp => qV cwX r) 2 [some (rf g 1), some (.int x1), some (.int x2)] [] h (X1_spend_2 fu n x1 x2 h) := by
  intro n
  induction n with
  | zero =>
    intro x1 x2 h
    rw [X1_spend_2]
    exact j_none
  | succ n ih =>
    intro x1 x2 h
    rw [X1_spend_2]
    refine j_iload_n C dX1_spend_2 rfl (n := 3) rfl ?_
    refine j_aload_n C dX1_spend_3 rfl (n := 4) rfl ?_
    refine gf_X1_64 C 1 (cX_1 g _) rfl dX1_spend_4 (n := 7) rfl ?_
    refine j_icmp_ge C dX1_spend_7 (tgt := 78) (n := 10) (by decide) rfl (fun q1 => ?_) (fun q1 => ?_)
    · refine j_aload_n C dX1_spend_78 rfl (n := 79) rfl ?_
      refine j_dup C dX1_spend_79 rfl (n := 80) rfl ?_
      refine gf_X1_67 C 1 (cX_1 g _) rfl dX1_spend_80 (n := 83) rfl ?_
      refine j_iload_n C dX1_spend_83 rfl (n := 84) rfl ?_
      refine j_iadd C dX1_spend_84 (n := 85) rfl ?_
      refine pf_X1_67 C 1 (cX_1 g _) (sX_1_12 g _ _) rfl dX1_spend_85 (n := 88) rfl ?_
      exact j_retV C dX1_spend_88
    · refine j_iconst C dX1_spend_10 ic_0 (n := 11) rfl ?_
      refine j_istore_n C dX1_spend_11 (Nat.le_of_ble_eq_true rfl) (n := 12) rfl ?_
      exact j_to (j_X1_spend_12 C _ _ ih _ _ _ _ _) ⟨rfl, ⟨rfl, ⟨rfl, ⟨rfl, trivial⟩⟩⟩⟩
set_option maxRecDepth 20000 in
theorem m_X1_spend (l : Launch) (fu : Nat) (x1 : Int32) (h : Hp) {r : Hp} (e : X1_spend fu x1 h = some r) : CT l yX1_spend cX1_spend 4 none 3 cwX (fun g => [rf g 1, .int x1]) h (qV cwX r) := by
  refine ct_of (QR := (fun r : Hp => qV cwX r)) (by decide +kernel) (fun g => ⟨rfl, Nat.le_of_ble_eq_true rfl⟩) e (fun x g hl C => ?_)
  unfold X1_spend
  refine j_iconst C dX1_spend_0 ic_0 (n := 1) rfl ?_
  refine j_istore_n C dX1_spend_1 (Nat.le_of_ble_eq_true rfl) (n := 2) rfl ?_
  exact j_to (j_X1_spend_2 C _ _ _ _ _) ⟨rfl, ⟨rfl, ⟨rfl, trivial⟩⟩⟩
-- X1_carry
set_option maxRecDepth 20000 in
theorem m_X1_carry (l : Launch) (fu : Nat) (x1 : Int32) (x2 : Int32) (h : Hp) {r : Hp} (e : X1_carry fu x1 x2 h = some r) : CT l yX1_carry cX1_carry 4 none 4 cwX (fun g => [rf g 1, .int x1, .int x2]) h (qV cwX r) := by
  refine ct_of (QR := (fun r : Hp => qV cwX r)) (by decide +kernel) (fun g => ⟨rfl, Nat.le_of_ble_eq_true rfl⟩) e (fun x g hl C => ?_)
  unfold X1_carry
  refine j_aload_n C dX1_carry_0 rfl (n := 1) rfl ?_
  refine j_iload_n C dX1_carry_1 rfl (n := 2) rfl ?_
  refine j_iload_n C dX1_carry_2 rfl (n := 3) rfl ?_
  refine j_bnd (fun r2 q1 => ?_)
  refine j_ci C (run_V C mi_X1_minutesTo lm_X1_122 iv_X1_minutesTo ⟨Nat.le_of_ble_eq_true rfl, Nat.le_of_ble_eq_true rfl⟩ (m_X1_minutesTo _ _ _ _ q1) (cX_1 g _) rfl rfl rfl rfl (Nat.le_of_ble_eq_true rfl) dX1_carry_3) (n := 6) rfl ?_
  refine j_istore_n C dX1_carry_6 (Nat.le_of_ble_eq_true rfl) (n := 7) rfl ?_
  refine j_aload_n C dX1_carry_7 rfl (n := 8) rfl ?_
  refine gf_X1_21 C 1 (cX_1 g _) rfl dX1_carry_8 (n := 11) rfl ?_
  refine j_iload_n C dX1_carry_11 rfl (n := 12) rfl ?_
  refine j_iconst C dX1_carry_12 ic_m1 (n := 13) rfl ?_
  refine j_iast C 5 (cX_5 g _) (aX_5 g _ _ _) dX1_carry_13 (n := 14) rfl ?_
  refine j_aload_n C dX1_carry_14 rfl (n := 15) rfl ?_
  refine j_iload_n C dX1_carry_15 rfl (n := 16) rfl ?_
  refine j_bnd (fun h5 q4 => ?_)
  refine j_cv C (run_V C mi_X1_spend lm_X1_125 iv_X1_spend ⟨Nat.le_of_ble_eq_true rfl, Nat.le_of_ble_eq_true rfl⟩ (m_X1_spend _ _ _ _ q4) (cX_1 g _) rfl rfl rfl rfl (Nat.le_of_ble_eq_true rfl) dX1_carry_16) (n := 19) rfl ?_
  refine j_aload_n C dX1_carry_19 rfl (n := 20) rfl ?_
  refine gf_X1_21 C 1 (cX_1 g _) rfl dX1_carry_20 (n := 23) rfl ?_
  refine j_iload_n C dX1_carry_23 rfl (n := 24) rfl ?_
  refine j_iload_n C dX1_carry_24 rfl (n := 25) rfl ?_
  refine j_iast C 5 (cX_5 g _) (aX_5 g _ _ _) dX1_carry_25 (n := 26) rfl ?_
  exact j_retV C dX1_carry_26
-- X7_move
set_option maxRecDepth 20000 in
theorem m_X7_move (l : Launch) (fu : Nat) (x1 : Int32) (x2 : Int32) (h : Hp) {r : Int32 × Hp} (e : X7_move fu x1 x2 h = some r) : CT l yX7_move cX7_move 3 (some .int) 5 cwX (fun g => [rf g 0, .int x1, .int x2]) h (qI cwX r.1 r.2) := by
  refine ct_of (QR := (fun r : Int32 × Hp => qI cwX r.1 r.2)) (by decide +kernel) (fun g => ⟨rfl, Nat.le_of_ble_eq_true rfl⟩) e (fun x g hl C => ?_)
  unfold X7_move
  refine j_aload_n C dX7_move_0 rfl (n := 1) rfl ?_
  refine gf_X7_12 C 0 (cX_0 g _) rfl dX7_move_1 (n := 4) rfl ?_
  refine j_iload_n C dX7_move_4 rfl (n := 5) rfl ?_
  refine j_cz C (run_V C mi_X1_hasPart lm_X7_85 iv_X1_hasPart ⟨Nat.le_of_ble_eq_true rfl, Nat.le_of_ble_eq_true rfl⟩ (m_X1_hasPart _ _ _) (cX_1 g _) rfl rfl rfl rfl (Nat.le_of_ble_eq_true rfl) dX7_move_5) (n := 8) rfl (fun b1 => ?_)
  refine j_if_eq C dX7_move_8 (tgt := 18) (n := 11) (by decide) rfl (fun q2 => ?_) (fun q2 => ?_)
  · refine j_aload_n C dX7_move_18 rfl (n := 19) rfl ?_
    refine j_ldc C dX7_move_19 kc_X7_67 (n := 21) rfl ?_
    refine j_bnd (fun r4 q3 => ?_)
    refine j_ci C (run_V C mi_X7_finding lm_X7_68 iv_X7_finding ⟨Nat.le_of_ble_eq_true rfl, Nat.le_of_ble_eq_true rfl⟩ (m_X7_finding _ _ _ q3) (cX_0 g _) rfl rfl rfl rfl (Nat.le_of_ble_eq_true rfl) dX7_move_21) (n := 24) rfl ?_
    exact j_retP C dX7_move_24
  · refine j_iload_n C dX7_move_11 rfl (n := 12) rfl ?_
    refine j_cz C (run_S C mi_X7_isPlace lm_X7_129 st_X7_isPlace ⟨Nat.le_of_ble_eq_true rfl, Nat.le_of_ble_eq_true rfl⟩ (m_X7_isPlace _ _ _) rfl rfl rfl (Nat.le_of_ble_eq_true rfl) dX7_move_12) (n := 15) rfl (fun b6 => ?_)
    refine j_if_ne C dX7_move_15 (tgt := 25) (n := 18) (by decide) rfl (fun q7 => ?_) (fun q7 => ?_)
    · refine j_aload_n C dX7_move_25 rfl (n := 26) rfl ?_
      refine gf_X7_12 C 0 (cX_0 g _) rfl dX7_move_26 (n := 29) rfl ?_
      refine gf_X7_132 C 1 (cX_1 g _) rfl dX7_move_29 (n := 32) rfl ?_
      refine j_iload_n C dX7_move_32 rfl (n := 33) rfl ?_
      refine j_iald C 5 (cX_5 g _) dX7_move_33 (n := 34) rfl ?_
      refine j_iload_n C dX7_move_34 rfl (n := 35) rfl ?_
      refine j_icmp_eq C dX7_move_35 (tgt := 61) (n := 38) (by decide) rfl (fun q8 => ?_) (fun q8 => ?_)
      · refine j_aload_n C dX7_move_61 rfl (n := 62) rfl ?_
        refine j_ldc C dX7_move_62 kc_X7_135 (n := 64) rfl ?_
        refine j_bnd (fun r10 q9 => ?_)
        refine j_ci C (run_V C mi_X7_finding lm_X7_68 iv_X7_finding ⟨Nat.le_of_ble_eq_true rfl, Nat.le_of_ble_eq_true rfl⟩ (m_X7_finding _ _ _ q9) (cX_0 g _) rfl rfl rfl rfl (Nat.le_of_ble_eq_true rfl) dX7_move_64) (n := 67) rfl ?_
        exact j_retP C dX7_move_67
      · refine j_aload_n C dX7_move_38 rfl (n := 39) rfl ?_
        refine gf_X7_12 C 0 (cX_0 g _) rfl dX7_move_39 (n := 42) rfl ?_
        refine gf_X7_155 C 1 (cX_1 g _) rfl dX7_move_42 (n := 45) rfl ?_
        refine j_aload_n C dX7_move_45 rfl (n := 46) rfl ?_
        refine gf_X7_12 C 0 (cX_0 g _) rfl dX7_move_46 (n := 49) rfl ?_
        refine j_iload_n C dX7_move_49 rfl (n := 50) rfl ?_
        refine j_iload_n C dX7_move_50 rfl (n := 51) rfl ?_
        refine j_bnd (fun r13 q12 => ?_)
        refine j_ci C (run_V C mi_X1_minutesTo lm_X7_136 iv_X1_minutesTo ⟨Nat.le_of_ble_eq_true rfl, Nat.le_of_ble_eq_true rfl⟩ (m_X1_minutesTo _ _ _ _ q12) (cX_1 g _) rfl rfl rfl rfl (Nat.le_of_ble_eq_true rfl) dX7_move_51) (n := 54) rfl ?_
        refine j_iadd C dX7_move_54 (n := 55) rfl ?_
        refine j_sipush C dX7_move_55 sp_9999 (n := 58) rfl ?_
        refine j_icmp_le C dX7_move_58 (tgt := 68) (n := 61) (by decide) rfl (fun q15 => ?_) (fun q15 => ?_)
        · refine j_aload_n C dX7_move_68 rfl (n := 69) rfl ?_
          refine gf_X7_12 C 0 (cX_0 g _) rfl dX7_move_69 (n := 72) rfl ?_
          refine j_iload_n C dX7_move_72 rfl (n := 73) rfl ?_
          refine j_iload_n C dX7_move_73 rfl (n := 74) rfl ?_
          refine j_bnd (fun h17 q16 => ?_)
          refine j_cv C (run_V C mi_X1_carry lm_X7_158 iv_X1_carry ⟨Nat.le_of_ble_eq_true rfl, Nat.le_of_ble_eq_true rfl⟩ (m_X1_carry _ _ _ _ _ q16) (cX_1 g _) rfl rfl rfl rfl (Nat.le_of_ble_eq_true rfl) dX7_move_74) (n := 77) rfl ?_
          refine j_aload_n C dX7_move_77 rfl (n := 78) rfl ?_
          refine gf_X7_12 C 0 (cX_0 g _) rfl dX7_move_78 (n := 81) rfl ?_
          refine gf_X7_155 C 1 (cX_1 g _) rfl dX7_move_81 (n := 84) rfl ?_
          exact j_retP C dX7_move_84
        · refine j_aload_n C dX7_move_61 rfl (n := 62) rfl ?_
          refine j_ldc C dX7_move_62 kc_X7_135 (n := 64) rfl ?_
          refine j_bnd (fun r19 q18 => ?_)
          refine j_ci C (run_V C mi_X7_finding lm_X7_68 iv_X7_finding ⟨Nat.le_of_ble_eq_true rfl, Nat.le_of_ble_eq_true rfl⟩ (m_X7_finding _ _ _ q18) (cX_0 g _) rfl rfl rfl rfl (Nat.le_of_ble_eq_true rfl) dX7_move_64) (n := 67) rfl ?_
          exact j_retP C dX7_move_67
    · refine j_aload_n C dX7_move_18 rfl (n := 19) rfl ?_
      refine j_ldc C dX7_move_19 kc_X7_67 (n := 21) rfl ?_
      refine j_bnd (fun r22 q21 => ?_)
      refine j_ci C (run_V C mi_X7_finding lm_X7_68 iv_X7_finding ⟨Nat.le_of_ble_eq_true rfl, Nat.le_of_ble_eq_true rfl⟩ (m_X7_finding _ _ _ q21) (cX_0 g _) rfl rfl rfl rfl (Nat.le_of_ble_eq_true rfl) dX7_move_21) (n := 24) rfl ?_
      exact j_retP C dX7_move_24
-- X1_sightedTwice
set_option maxRecDepth 20000 in
theorem j_X1_sightedTwice_4 {x : Fx} {g : Gl} (C : Ok x g RX1 cX1_sightedTwice 3 (some .int)) (fu : Nat) (h : Hp) : ∀ (n : Nat) (x1 : Int32) (x2 : Int32), J x g cwX 3 2 (fun r : Int32 => qI cwX r h) 4 [some (rf g 1), some (.int x1), some (.int x2)] [] h (X1_sightedTwice_4 fu h n x1 x2) := by
  intro n
  induction n with
  | zero =>
    intro x1 x2
    rw [X1_sightedTwice_4]
    exact j_none
  | succ n ih =>
    intro x1 x2
    rw [X1_sightedTwice_4]
    refine j_iload_n C dX1_sightedTwice_4 rfl (n := 5) rfl ?_
    refine j_aload_n C dX1_sightedTwice_5 rfl (n := 6) rfl ?_
    refine gf_X1_64 C 1 (cX_1 g _) rfl dX1_sightedTwice_6 (n := 9) rfl ?_
    refine j_icmp_ge C dX1_sightedTwice_9 (tgt := 27) (n := 12) (by decide) rfl (fun q1 => ?_) (fun q1 => ?_)
    · refine j_iload_n C dX1_sightedTwice_27 rfl (n := 28) rfl ?_
      exact j_ret C dX1_sightedTwice_28
    · refine j_iload_n C dX1_sightedTwice_12 rfl (n := 13) rfl ?_
      refine j_aload_n C dX1_sightedTwice_13 rfl (n := 14) rfl ?_
      refine j_iload_n C dX1_sightedTwice_14 rfl (n := 15) rfl ?_
      refine j_iconst C dX1_sightedTwice_15 ic_2 (n := 16) rfl ?_
      refine j_bnd (fun r3 q2 => ?_)
      refine j_ci C (run_V C mi_X1_sighted lm_X1_134 iv_X1_sighted ⟨Nat.le_of_ble_eq_true rfl, Nat.le_of_ble_eq_true rfl⟩ (m_X1_sighted _ _ _ _ _ q2) (cX_1 g _) rfl rfl rfl rfl (Nat.le_of_ble_eq_true rfl) dX1_sightedTwice_16) (n := 19) rfl ?_
      refine j_ior C dX1_sightedTwice_19 (n := 20) rfl ?_
      refine j_istore_n C dX1_sightedTwice_20 (Nat.le_of_ble_eq_true rfl) (n := 21) rfl ?_
      refine j_iinc C dX1_sightedTwice_21 rfl ic_1 (Nat.le_of_ble_eq_true rfl) (n := 24) rfl ?_
      refine j_goto C dX1_sightedTwice_24 (n := 4) (by decide) ?_
      exact j_to (ih _ _) ⟨rfl, ⟨rfl, ⟨rfl, trivial⟩⟩⟩
set_option maxRecDepth 20000 in
theorem m_X1_sightedTwice (l : Launch) (fu : Nat) (h : Hp) {r : Int32} (e : X1_sightedTwice fu h = some r) : CT l yX1_sightedTwice cX1_sightedTwice 3 (some .int) 2 cwX (fun g => [rf g 1]) h (qI cwX r h) := by
  refine ct_of (QR := (fun r : Int32 => qI cwX r h)) (by decide +kernel) (fun g => ⟨rfl, Nat.le_of_ble_eq_true rfl⟩) e (fun x g hl C => ?_)
  unfold X1_sightedTwice
  refine j_iconst C dX1_sightedTwice_0 ic_0 (n := 1) rfl ?_
  refine j_istore_n C dX1_sightedTwice_1 (Nat.le_of_ble_eq_true rfl) (n := 2) rfl ?_
  refine j_iconst C dX1_sightedTwice_2 ic_0 (n := 3) rfl ?_
  refine j_istore_n C dX1_sightedTwice_3 (Nat.le_of_ble_eq_true rfl) (n := 4) rfl ?_
  exact j_to (j_X1_sightedTwice_4 C _ _ _ _ _) ⟨rfl, ⟨rfl, ⟨rfl, trivial⟩⟩⟩
-- X7_waits
set_option maxRecDepth 20000 in
theorem m_X7_waits (l : Launch) (fu : Nat) (x1 : Int32) (h : Hp) {r : Int32 × Hp} (e : X7_waits fu x1 h = some r) : CT l yX7_waits cX7_waits 2 (some .int) 4 cwX (fun g => [rf g 0, .int x1]) h (qI cwX r.1 r.2) := by
  refine ct_of (QR := (fun r : Int32 × Hp => qI cwX r.1 r.2)) (by decide +kernel) (fun g => ⟨rfl, Nat.le_of_ble_eq_true rfl⟩) e (fun x g hl C => ?_)
  unfold X7_waits
  refine j_iload_n C dX7_waits_0 rfl (n := 1) rfl ?_
  refine j_iconst C dX7_waits_1 ic_1 (n := 2) rfl ?_
  refine j_bipush C dX7_waits_2 bp_60 (n := 4) rfl ?_
  refine j_cz C (run_S C mi_X7_within lm_X7_94 st_X7_within ⟨Nat.le_of_ble_eq_true rfl, Nat.le_of_ble_eq_true rfl⟩ (m_X7_within _ _ _ _ _) rfl rfl rfl (Nat.le_of_ble_eq_true rfl) dX7_waits_4) (n := 7) rfl (fun b1 => ?_)
  refine j_if_ne C dX7_waits_7 (tgt := 17) (n := 10) (by decide) rfl (fun q2 => ?_) (fun q2 => ?_)
  · refine j_aload_n C dX7_waits_17 rfl (n := 18) rfl ?_
    refine gf_X7_12 C 0 (cX_0 g _) rfl dX7_waits_18 (n := 21) rfl ?_
    refine gf_X7_155 C 1 (cX_1 g _) rfl dX7_waits_21 (n := 24) rfl ?_
    refine j_iload_n C dX7_waits_24 rfl (n := 25) rfl ?_
    refine j_iadd C dX7_waits_25 (n := 26) rfl ?_
    refine j_sipush C dX7_waits_26 sp_9999 (n := 29) rfl ?_
    refine j_icmp_le C dX7_waits_29 (tgt := 39) (n := 32) (by decide) rfl (fun q3 => ?_) (fun q3 => ?_)
    · refine j_aload_n C dX7_waits_39 rfl (n := 40) rfl ?_
      refine gf_X7_12 C 0 (cX_0 g _) rfl dX7_waits_40 (n := 43) rfl ?_
      refine j_iload_n C dX7_waits_43 rfl (n := 44) rfl ?_
      refine j_bnd (fun h5 q4 => ?_)
      refine j_cv C (run_V C mi_X1_spend lm_X7_162 iv_X1_spend ⟨Nat.le_of_ble_eq_true rfl, Nat.le_of_ble_eq_true rfl⟩ (m_X1_spend _ _ _ _ q4) (cX_1 g _) rfl rfl rfl rfl (Nat.le_of_ble_eq_true rfl) dX7_waits_44) (n := 47) rfl ?_
      refine j_aload_n C dX7_waits_47 rfl (n := 48) rfl ?_
      refine gf_X7_12 C 0 (cX_0 g _) rfl dX7_waits_48 (n := 51) rfl ?_
      refine j_bnd (fun r7 q6 => ?_)
      refine j_ci C (run_V C mi_X1_sightedTwice lm_X7_166 iv_X1_sightedTwice ⟨Nat.le_of_ble_eq_true rfl, Nat.le_of_ble_eq_true rfl⟩ (m_X1_sightedTwice _ _ _ q6) (cX_1 g _) rfl rfl rfl rfl (Nat.le_of_ble_eq_true rfl) dX7_waits_51) (n := 54) rfl ?_
      refine j_ci C (run_S C mi_J6_bitCount_0f7a4 lm_X7_169 st_J6_bitCount_0f7a4 ⟨Nat.le_of_ble_eq_true rfl, Nat.le_of_ble_eq_true rfl⟩ (m_J6_bitCount_0f7a4 _ _ _) rfl rfl rfl (Nat.le_of_ble_eq_true rfl) dX7_waits_54) (n := 57) rfl ?_
      exact j_retP C dX7_waits_57
    · refine j_aload_n C dX7_waits_32 rfl (n := 33) rfl ?_
      refine j_ldc C dX7_waits_33 kc_X7_135 (n := 35) rfl ?_
      refine j_bnd (fun r10 q9 => ?_)
      refine j_ci C (run_V C mi_X7_finding lm_X7_68 iv_X7_finding ⟨Nat.le_of_ble_eq_true rfl, Nat.le_of_ble_eq_true rfl⟩ (m_X7_finding _ _ _ q9) (cX_0 g _) rfl rfl rfl rfl (Nat.le_of_ble_eq_true rfl) dX7_waits_35) (n := 38) rfl ?_
      exact j_retP C dX7_waits_38
  · refine j_aload_n C dX7_waits_10 rfl (n := 11) rfl ?_
    refine j_ldc C dX7_waits_11 kc_X7_67 (n := 13) rfl ?_
    refine j_bnd (fun r13 q12 => ?_)
    refine j_ci C (run_V C mi_X7_finding lm_X7_68 iv_X7_finding ⟨Nat.le_of_ble_eq_true rfl, Nat.le_of_ble_eq_true rfl⟩ (m_X7_finding _ _ _ q12) (cX_0 g _) rfl rfl rfl rfl (Nat.le_of_ble_eq_true rfl) dX7_waits_13) (n := 16) rfl ?_
    exact j_retP C dX7_waits_16
-- X1_allLikeness
set_option maxRecDepth 20000 in
theorem j_X1_allLikeness_4 {x : Fx} {g : Gl} (C : Ok x g RX1 cX1_allLikeness 3 (some .int)) (fu : Nat) (h : Hp) : ∀ (n : Nat) (x1 : Int32) (x2 : Int32), J x g cwX 3 5 (fun r : Int32 => qI cwX r h) 4 [some (rf g 1), some (.int x1), some (.int x2)] [] h (X1_allLikeness_4 fu h n x1 x2) := by
  intro n
  induction n with
  | zero =>
    intro x1 x2
    rw [X1_allLikeness_4]
    exact j_none
  | succ n ih =>
    intro x1 x2
    rw [X1_allLikeness_4]
    refine j_iload_n C dX1_allLikeness_4 rfl (n := 5) rfl ?_
    refine j_bipush C dX1_allLikeness_5 bp_6 (n := 7) rfl ?_
    refine j_icmp_ge C dX1_allLikeness_7 (tgt := 24) (n := 10) (by decide) rfl (fun q1 => ?_) (fun q1 => ?_)
    · refine j_iload_n C dX1_allLikeness_24 rfl (n := 25) rfl ?_
      exact j_ret C dX1_allLikeness_25
    · refine j_iload_n C dX1_allLikeness_10 rfl (n := 11) rfl ?_
      refine j_aload_n C dX1_allLikeness_11 rfl (n := 12) rfl ?_
      refine j_iload_n C dX1_allLikeness_12 rfl (n := 13) rfl ?_
      refine j_bnd (fun r3 q2 => ?_)
      refine j_ci C (run_V C mi_X1_likeness lm_X1_101 iv_X1_likeness ⟨Nat.le_of_ble_eq_true rfl, Nat.le_of_ble_eq_true rfl⟩ (m_X1_likeness _ _ _ _ q2) (cX_1 g _) rfl rfl rfl rfl (Nat.le_of_ble_eq_true rfl) dX1_allLikeness_13) (n := 16) rfl ?_
      refine j_iadd C dX1_allLikeness_16 (n := 17) rfl ?_
      refine j_istore_n C dX1_allLikeness_17 (Nat.le_of_ble_eq_true rfl) (n := 18) rfl ?_
      refine j_iinc C dX1_allLikeness_18 rfl ic_1 (Nat.le_of_ble_eq_true rfl) (n := 21) rfl ?_
      refine j_goto C dX1_allLikeness_21 (n := 4) (by decide) ?_
      exact j_to (ih _ _) ⟨rfl, ⟨rfl, ⟨rfl, trivial⟩⟩⟩
set_option maxRecDepth 20000 in
theorem m_X1_allLikeness (l : Launch) (fu : Nat) (h : Hp) {r : Int32} (e : X1_allLikeness fu h = some r) : CT l yX1_allLikeness cX1_allLikeness 3 (some .int) 5 cwX (fun g => [rf g 1]) h (qI cwX r h) := by
  refine ct_of (QR := (fun r : Int32 => qI cwX r h)) (by decide +kernel) (fun g => ⟨rfl, Nat.le_of_ble_eq_true rfl⟩) e (fun x g hl C => ?_)
  unfold X1_allLikeness
  refine j_iconst C dX1_allLikeness_0 ic_0 (n := 1) rfl ?_
  refine j_istore_n C dX1_allLikeness_1 (Nat.le_of_ble_eq_true rfl) (n := 2) rfl ?_
  refine j_iconst C dX1_allLikeness_2 ic_0 (n := 3) rfl ?_
  refine j_istore_n C dX1_allLikeness_3 (Nat.le_of_ble_eq_true rfl) (n := 4) rfl ?_
  exact j_to (j_X1_allLikeness_4 C _ _ _ _ _) ⟨rfl, ⟨rfl, ⟨rfl, trivial⟩⟩⟩
-- X1_visitorsThere
set_option maxRecDepth 20000 in
theorem j_X1_visitorsThere_4 {x : Fx} {g : Gl} (C : Ok x g RX1 cX1_visitorsThere 3 (some .int)) (fu : Nat) (h : Hp) : ∀ (n : Nat) (x1 : Int32) (x2 : Int32), J x g cwX 3 4 (fun r : Int32 => qI cwX r h) 4 [some (rf g 1), some (.int x1), some (.int x2)] [] h (X1_visitorsThere_4 fu h n x1 x2) := by
  intro n
  induction n with
  | zero =>
    intro x1 x2
    rw [X1_visitorsThere_4]
    exact j_none
  | succ n ih =>
    intro x1 x2
    rw [X1_visitorsThere_4]
    refine j_iload_n C dX1_visitorsThere_4 rfl (n := 5) rfl ?_
    refine j_bipush C dX1_visitorsThere_5 bp_6 (n := 7) rfl ?_
    refine j_icmp_ge C dX1_visitorsThere_7 (tgt := 24) (n := 10) (by decide) rfl (fun q1 => ?_) (fun q1 => ?_)
    · refine j_iload_n C dX1_visitorsThere_24 rfl (n := 25) rfl ?_
      exact j_ret C dX1_visitorsThere_25
    · refine j_iload_n C dX1_visitorsThere_10 rfl (n := 11) rfl ?_
      refine j_aload_n C dX1_visitorsThere_11 rfl (n := 12) rfl ?_
      refine j_iload_n C dX1_visitorsThere_12 rfl (n := 13) rfl ?_
      refine j_bnd (fun r3 q2 => ?_)
      refine j_ci C (run_V C mi_X1_visitorsIn lm_X1_109 iv_X1_visitorsIn ⟨Nat.le_of_ble_eq_true rfl, Nat.le_of_ble_eq_true rfl⟩ (m_X1_visitorsIn _ _ _ _ q2) (cX_1 g _) rfl rfl rfl rfl (Nat.le_of_ble_eq_true rfl) dX1_visitorsThere_13) (n := 16) rfl ?_
      refine j_ior C dX1_visitorsThere_16 (n := 17) rfl ?_
      refine j_istore_n C dX1_visitorsThere_17 (Nat.le_of_ble_eq_true rfl) (n := 18) rfl ?_
      refine j_iinc C dX1_visitorsThere_18 rfl ic_1 (Nat.le_of_ble_eq_true rfl) (n := 21) rfl ?_
      refine j_goto C dX1_visitorsThere_21 (n := 4) (by decide) ?_
      exact j_to (ih _ _) ⟨rfl, ⟨rfl, ⟨rfl, trivial⟩⟩⟩
set_option maxRecDepth 20000 in
theorem m_X1_visitorsThere (l : Launch) (fu : Nat) (h : Hp) {r : Int32} (e : X1_visitorsThere fu h = some r) : CT l yX1_visitorsThere cX1_visitorsThere 3 (some .int) 4 cwX (fun g => [rf g 1]) h (qI cwX r h) := by
  refine ct_of (QR := (fun r : Int32 => qI cwX r h)) (by decide +kernel) (fun g => ⟨rfl, Nat.le_of_ble_eq_true rfl⟩) e (fun x g hl C => ?_)
  unfold X1_visitorsThere
  refine j_iconst C dX1_visitorsThere_0 ic_0 (n := 1) rfl ?_
  refine j_istore_n C dX1_visitorsThere_1 (Nat.le_of_ble_eq_true rfl) (n := 2) rfl ?_
  refine j_iconst C dX1_visitorsThere_2 ic_0 (n := 3) rfl ?_
  refine j_istore_n C dX1_visitorsThere_3 (Nat.le_of_ble_eq_true rfl) (n := 4) rfl ?_
  exact j_to (j_X1_visitorsThere_4 C _ _ _ _ _) ⟨rfl, ⟨rfl, ⟨rfl, trivial⟩⟩⟩
-- X7_now
set_option maxRecDepth 20000 in
theorem m_X7_now (l : Launch) (fu : Nat) (x1 : Int32) (h : Hp) {r : Int32 × Hp} (e : X7_now fu x1 h = some r) : CT l yX7_now cX7_now 2 (some .int) 6 cwX (fun g => [rf g 0, .int x1]) h (qI cwX r.1 r.2) := by
  refine ct_of (QR := (fun r : Int32 × Hp => qI cwX r.1 r.2)) (by decide +kernel) (fun g => ⟨rfl, Nat.le_of_ble_eq_true rfl⟩) e (fun x g hl C => ?_)
  unfold X7_now
  refine j_iload_n C dX7_now_0 rfl (n := 1) rfl ?_
  refine j_split (fun q1 => ?_) (fun q1 => ?_)
  · refine j_tabIn C dX7_now_1 q1 (off := 39) (by decide) (n := 40) (by decide) ?_
    refine j_aload_n C dX7_now_40 rfl (n := 41) rfl ?_
    refine gf_X7_12 C 0 (cX_0 g _) rfl dX7_now_41 (n := 44) rfl ?_
    refine gf_X7_155 C 1 (cX_1 g _) rfl dX7_now_44 (n := 47) rfl ?_
    exact j_retP C dX7_now_47
  · refine j_split (fun q2 => ?_) (fun q2 => ?_)
    · refine j_tabIn C dX7_now_1 q2 (off := 47) (by decide) (n := 48) (by decide) ?_
      refine j_aload_n C dX7_now_48 rfl (n := 49) rfl ?_
      refine gf_X7_12 C 0 (cX_0 g _) rfl dX7_now_49 (n := 52) rfl ?_
      refine gf_X7_113 C 1 (cX_1 g _) rfl dX7_now_52 (n := 55) rfl ?_
      exact j_retP C dX7_now_55
    · refine j_split (fun q3 => ?_) (fun q3 => ?_)
      · refine j_tabIn C dX7_now_1 q3 (off := 55) (by decide) (n := 56) (by decide) ?_
        refine j_aload_n C dX7_now_56 rfl (n := 57) rfl ?_
        refine gf_X7_12 C 0 (cX_0 g _) rfl dX7_now_57 (n := 60) rfl ?_
        refine j_bnd (fun r5 q4 => ?_)
        refine j_ci C (run_V C mi_X1_allLikeness lm_X7_174 iv_X1_allLikeness ⟨Nat.le_of_ble_eq_true rfl, Nat.le_of_ble_eq_true rfl⟩ (m_X1_allLikeness _ _ _ q4) (cX_1 g _) rfl rfl rfl rfl (Nat.le_of_ble_eq_true rfl) dX7_now_60) (n := 63) rfl ?_
        exact j_retP C dX7_now_63
      · refine j_split (fun q7 => ?_) (fun q7 => ?_)
        · refine j_tabIn C dX7_now_1 q7 (off := 63) (by decide) (n := 64) (by decide) ?_
          refine j_aload_n C dX7_now_64 rfl (n := 65) rfl ?_
          refine gf_X7_12 C 0 (cX_0 g _) rfl dX7_now_65 (n := 68) rfl ?_
          refine j_bnd (fun r9 q8 => ?_)
          refine j_ci C (run_V C mi_X1_visitorsThere lm_X7_177 iv_X1_visitorsThere ⟨Nat.le_of_ble_eq_true rfl, Nat.le_of_ble_eq_true rfl⟩ (m_X1_visitorsThere _ _ _ q8) (cX_1 g _) rfl rfl rfl rfl (Nat.le_of_ble_eq_true rfl) dX7_now_68) (n := 71) rfl ?_
          exact j_retP C dX7_now_71
        · refine j_split (fun q11 => ?_) (fun q11 => ?_)
          · refine j_tabIn C dX7_now_1 q11 (off := 71) (by decide) (n := 72) (by decide) ?_
            refine j_aload_n C dX7_now_72 rfl (n := 73) rfl ?_
            refine gf_X7_12 C 0 (cX_0 g _) rfl dX7_now_73 (n := 76) rfl ?_
            refine j_iconst C dX7_now_76 ic_m1 (n := 77) rfl ?_
            refine j_bnd (fun r13 q12 => ?_)
            refine j_ci C (run_V C mi_X1_partsAt lm_X7_116 iv_X1_partsAt ⟨Nat.le_of_ble_eq_true rfl, Nat.le_of_ble_eq_true rfl⟩ (m_X1_partsAt _ _ _ _ q12) (cX_1 g _) rfl rfl rfl rfl (Nat.le_of_ble_eq_true rfl) dX7_now_77) (n := 80) rfl ?_
            exact j_retP C dX7_now_80
          · refine j_split (fun q15 => ?_) (fun q15 => ?_)
            · refine j_tabIn C dX7_now_1 q15 (off := 80) (by decide) (n := 81) (by decide) ?_
              refine j_aload_n C dX7_now_81 rfl (n := 82) rfl ?_
              refine gf_X7_12 C 0 (cX_0 g _) rfl dX7_now_82 (n := 85) rfl ?_
              refine j_bnd (fun r17 q16 => ?_)
              refine j_ci C (run_V C mi_X1_sightedTwice lm_X7_166 iv_X1_sightedTwice ⟨Nat.le_of_ble_eq_true rfl, Nat.le_of_ble_eq_true rfl⟩ (m_X1_sightedTwice _ _ _ q16) (cX_1 g _) rfl rfl rfl rfl (Nat.le_of_ble_eq_true rfl) dX7_now_85) (n := 88) rfl ?_
              exact j_retP C dX7_now_88
            · refine j_tabOut C dX7_now_1 (tabout_0_5 q1 q2 q3 q7 q11 q15) (n := 89) (by decide) ?_
              refine j_aload_n C dX7_now_89 rfl (n := 90) rfl ?_
              refine j_ldc C dX7_now_90 kc_X7_67 (n := 92) rfl ?_
              refine j_bnd (fun r20 q19 => ?_)
              refine j_ci C (run_V C mi_X7_finding lm_X7_68 iv_X7_finding ⟨Nat.le_of_ble_eq_true rfl, Nat.le_of_ble_eq_true rfl⟩ (m_X7_finding _ _ _ q19) (cX_0 g _) rfl rfl rfl rfl (Nat.le_of_ble_eq_true rfl) dX7_now_92) (n := 95) rfl ?_
              exact j_retP C dX7_now_95
-- X1_roomsShown
set_option maxRecDepth 20000 in
theorem j_X1_roomsShown_4 {x : Fx} {g : Gl} (C : Ok x g RX1 cX1_roomsShown 3 (some .int)) (fu : Nat) (h : Hp) : ∀ (n : Nat) (x1 : Int32) (x2 : Int32), J x g cwX 3 2 (fun r : Int32 => qI cwX r h) 4 [some (rf g 1), some (.int x1), some (.int x2)] [] h (X1_roomsShown_4 fu h n x1 x2) := by
  intro n
  induction n with
  | zero =>
    intro x1 x2
    rw [X1_roomsShown_4]
    exact j_none
  | succ n ih =>
    intro x1 x2
    rw [X1_roomsShown_4]
    refine j_iload_n C dX1_roomsShown_4 rfl (n := 5) rfl ?_
    refine j_bipush C dX1_roomsShown_5 bp_6 (n := 7) rfl ?_
    refine j_icmp_ge C dX1_roomsShown_7 (tgt := 34) (n := 10) (by decide) rfl (fun q1 => ?_) (fun q1 => ?_)
    · refine j_iload_n C dX1_roomsShown_34 rfl (n := 35) rfl ?_
      exact j_ret C dX1_roomsShown_35
    · refine j_aload_n C dX1_roomsShown_10 rfl (n := 11) rfl ?_
      refine gf_X1_30 C 1 (cX_1 g _) rfl dX1_roomsShown_11 (n := 14) rfl ?_
      refine j_iload_n C dX1_roomsShown_14 rfl (n := 15) rfl ?_
      refine j_iald C 8 (cX_8 g _) dX1_roomsShown_15 (n := 16) rfl ?_
      refine j_cz C (run_SN C mi_X7_isFace ns_X1_93 st_X7_isFace ⟨Nat.le_of_ble_eq_true rfl, Nat.le_of_ble_eq_true rfl⟩ (m_X7_isFace _ _ _) rfl rfl rfl (Nat.le_of_ble_eq_true rfl) dX1_roomsShown_16) (n := 19) rfl (fun b2 => ?_)
      refine j_if_eq C dX1_roomsShown_19 (tgt := 28) (n := 22) (by decide) rfl (fun q3 => ?_) (fun q3 => ?_)
      · refine j_iinc C dX1_roomsShown_28 rfl ic_1 (Nat.le_of_ble_eq_true rfl) (n := 31) rfl ?_
        refine j_goto C dX1_roomsShown_31 (n := 4) (by decide) ?_
        exact j_to (ih _ _) ⟨rfl, ⟨rfl, ⟨rfl, trivial⟩⟩⟩
      · refine j_iload_n C dX1_roomsShown_22 rfl (n := 23) rfl ?_
        refine j_iconst C dX1_roomsShown_23 ic_1 (n := 24) rfl ?_
        refine j_iload_n C dX1_roomsShown_24 rfl (n := 25) rfl ?_
        refine j_ishl C dX1_roomsShown_25 (n := 26) rfl ?_
        refine j_ior C dX1_roomsShown_26 (n := 27) rfl ?_
        refine j_istore_n C dX1_roomsShown_27 (Nat.le_of_ble_eq_true rfl) (n := 28) rfl ?_
        refine j_iinc C dX1_roomsShown_28 rfl ic_1 (Nat.le_of_ble_eq_true rfl) (n := 31) rfl ?_
        refine j_goto C dX1_roomsShown_31 (n := 4) (by decide) ?_
        exact j_to (ih _ _) ⟨rfl, ⟨rfl, ⟨rfl, trivial⟩⟩⟩
set_option maxRecDepth 20000 in
theorem m_X1_roomsShown (l : Launch) (fu : Nat) (h : Hp) {r : Int32} (e : X1_roomsShown fu h = some r) : CT l yX1_roomsShown cX1_roomsShown 3 (some .int) 2 cwX (fun g => [rf g 1]) h (qI cwX r h) := by
  refine ct_of (QR := (fun r : Int32 => qI cwX r h)) (by decide +kernel) (fun g => ⟨rfl, Nat.le_of_ble_eq_true rfl⟩) e (fun x g hl C => ?_)
  unfold X1_roomsShown
  refine j_iconst C dX1_roomsShown_0 ic_0 (n := 1) rfl ?_
  refine j_istore_n C dX1_roomsShown_1 (Nat.le_of_ble_eq_true rfl) (n := 2) rfl ?_
  refine j_iconst C dX1_roomsShown_2 ic_0 (n := 3) rfl ?_
  refine j_istore_n C dX1_roomsShown_3 (Nat.le_of_ble_eq_true rfl) (n := 4) rfl ?_
  exact j_to (j_X1_roomsShown_4 C _ _ _ _ _) ⟨rfl, ⟨rfl, ⟨rfl, trivial⟩⟩⟩
-- X2_isUnder
set_option maxRecDepth 20000 in
theorem j_X2_isUnder_4 {x : Fx} {g : Gl} (C : Ok x g RX2 cX2_isUnder 4 (some .boolean)) (fu : Nat) (h : Hp) : ∀ (n : Nat) (x1 : Int32) (x2 : Int32) (x3 : Int32), J x g cwX 4 0 (fun r : Int32 => qZ cwX r h) 4 [none, some (.int x1), some (.int x2), some (.int x3)] [] h (X2_isUnder_4 fu h n x1 x2 x3) := by
  intro n
  induction n with
  | zero =>
    intro x1 x2 x3
    rw [X2_isUnder_4]
    exact j_none
  | succ n ih =>
    intro x1 x2 x3
    rw [X2_isUnder_4]
    refine j_iload_n C dX2_isUnder_4 rfl (n := 5) rfl ?_
    refine j_bipush C dX2_isUnder_5 bp_6 (n := 7) rfl ?_
    refine j_icmp_gt C dX2_isUnder_7 (tgt := 41) (n := 10) (by decide) rfl (fun q1 => ?_) (fun q1 => ?_)
    · refine j_iconst C dX2_isUnder_41 ic_0 (n := 42) rfl ?_
      exact j_retZ C (Or.inl rfl) dX2_isUnder_42
    · refine j_iload_n C dX2_isUnder_10 rfl (n := 11) rfl ?_
      refine j_if_lt C dX2_isUnder_11 (tgt := 41) (n := 14) (by decide) rfl (fun q2 => ?_) (fun q2 => ?_)
      · refine j_iconst C dX2_isUnder_41 ic_0 (n := 42) rfl ?_
        exact j_retZ C (Or.inl rfl) dX2_isUnder_42
      · refine j_iload_n C dX2_isUnder_14 rfl (n := 15) rfl ?_
        refine j_gets C (sZ_2 g) fl_X2_11 dX2_isUnder_15 (n := 18) rfl ?_
        refine j_tlen C (sT_2 g) of_7 dX2_isUnder_18 (n := 19) rfl ?_
        refine j_icmp_ge C dX2_isUnder_19 (tgt := 41) (n := 22) (by decide) rfl (fun q3 => ?_) (fun q3 => ?_)
        · refine j_iconst C dX2_isUnder_41 ic_0 (n := 42) rfl ?_
          exact j_retZ C (Or.inl rfl) dX2_isUnder_42
        · refine j_iload_n C dX2_isUnder_22 rfl (n := 23) rfl ?_
          refine j_iload_n C dX2_isUnder_23 rfl (n := 24) rfl ?_
          refine j_icmp_ne C dX2_isUnder_24 (tgt := 29) (n := 27) (by decide) rfl (fun q4 => ?_) (fun q4 => ?_)
          · refine j_gets C (sZ_2 g) fl_X2_11 dX2_isUnder_29 (n := 32) rfl ?_
            refine j_iload_n C dX2_isUnder_32 rfl (n := 33) rfl ?_
            refine j_ti C (sT_2 g) dX2_isUnder_33 (n := 34) rfl ?_
            refine j_istore_n C dX2_isUnder_34 (Nat.le_of_ble_eq_true rfl) (n := 35) rfl ?_
            refine j_iinc C dX2_isUnder_35 rfl ic_1 (Nat.le_of_ble_eq_true rfl) (n := 38) rfl ?_
            refine j_goto C dX2_isUnder_38 (n := 4) (by decide) ?_
            exact j_to (ih _ _ _) ⟨rfl, ⟨rfl, ⟨rfl, trivial⟩⟩⟩
          · refine j_iconst C dX2_isUnder_27 ic_1 (n := 28) rfl ?_
            exact j_retZ C (Or.inr rfl) dX2_isUnder_28
set_option maxRecDepth 20000 in
theorem m_X2_isUnder (l : Launch) (fu : Nat) (x0 : Int32) (x1 : Int32) (h : Hp) {r : Int32} (e : X2_isUnder fu x0 x1 h = some r) : CT l yX2_isUnder cX2_isUnder 4 (some .boolean) 0 cwX (fun g => [.int x0, .int x1]) h (qZ cwX r h) := by
  refine ct_of (QR := (fun r : Int32 => qZ cwX r h)) (by decide +kernel) (fun g => ⟨rfl, Nat.le_of_ble_eq_true rfl⟩) e (fun x g hl C => ?_)
  unfold X2_isUnder
  refine j_iload_n C dX2_isUnder_0 rfl (n := 1) rfl ?_
  refine j_istore_n C dX2_isUnder_1 (Nat.le_of_ble_eq_true rfl) (n := 2) rfl ?_
  refine j_iconst C dX2_isUnder_2 ic_0 (n := 3) rfl ?_
  refine j_istore_n C dX2_isUnder_3 (Nat.le_of_ble_eq_true rfl) (n := 4) rfl ?_
  exact j_to (j_X2_isUnder_4 C _ _ _ _ _ _) ⟨rfl, ⟨rfl, ⟨rfl, trivial⟩⟩⟩
-- X1_isHead
set_option maxRecDepth 20000 in
theorem m_X1_isHead (l : Launch) (fu : Nat) (x1 : Int32) (h : Hp) {r : Int32} (e : X1_isHead fu x1 h = some r) : CT l yX1_isHead cX1_isHead 2 (some .boolean) 1 cwX (fun g => [rf g 1, .int x1]) h (qZ cwX r h) := by
  refine ct_of (QR := (fun r : Int32 => qZ cwX r h)) (by decide +kernel) (fun g => ⟨rfl, Nat.le_of_ble_eq_true rfl⟩) e (fun x g hl C => ?_)
  unfold X1_isHead
  refine j_aload_n C dX1_isHead_0 rfl (n := 1) rfl ?_
  refine gf_X1_9 C 1 (cX_1 g _) rfl dX1_isHead_1 (n := 4) rfl ?_
  refine j_iload_n C dX1_isHead_4 rfl (n := 5) rfl ?_
  refine j_iald C 2 (cX_2 g _) dX1_isHead_5 (n := 6) rfl ?_
  refine j_iconst C dX1_isHead_6 ic_1 (n := 7) rfl ?_
  refine j_bnd (fun r2 q1 => ?_)
  refine j_cz C (run_S C mi_X2_isUnder lm_X1_76 st_X2_isUnder ⟨Nat.le_of_ble_eq_true rfl, Nat.le_of_ble_eq_true rfl⟩ (m_X2_isUnder _ _ _ _ _ q1) rfl rfl rfl (Nat.le_of_ble_eq_true rfl) dX1_isHead_7) (n := 10) rfl (fun b3 => ?_)
  exact j_retZ C b3 dX1_isHead_10
