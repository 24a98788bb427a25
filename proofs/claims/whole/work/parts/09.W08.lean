-- X8_stand
set_option maxRecDepth 20000 in
theorem j_X8_stand_40 {x : Fx} {g : Gl} (C : Ok x g RX8 cX8_stand 5 (some .int)) (fu : Nat) : ∀ (n : Nat) (x1 : Int32) (x2 : Int32) (x3 : Int32) (x4 : Int32) (h : Hp), J x g cwM 5 4 (fun r : Int32 × Hp => qI cwM r.1 r.2) 40 [some (rf g 0), some (.int x1), some (.int x2), some (.int x3), some (.int x4)] [] h (X8_stand_40 fu n x1 x2 x3 x4 h) := by
  intro n
  induction n with
  | zero =>
    intro x1 x2 x3 x4 h
    rw [X8_stand_40]
    exact j_none
  | succ n ih =>
    intro x1 x2 x3 x4 h
    rw [X8_stand_40]
    refine j_iload C dX8_stand_40 rfl (n := 42) rfl ?_
    refine j_bipush C dX8_stand_42 bp_6 (n := 44) rfl ?_
    refine j_icmp_ge C dX8_stand_44 (tgt := 78) (n := 47) (by decide) rfl (fun q1 => ?_) (fun q1 => ?_)
    · refine j_iload_n C dX8_stand_78 rfl (n := 79) rfl ?_
      exact j_retP C dX8_stand_79
    · refine j_iload_n C dX8_stand_47 rfl (n := 48) rfl ?_
      refine j_aload_n C dX8_stand_48 rfl (n := 49) rfl ?_
      refine j_iload C dX8_stand_49 rfl (n := 51) rfl ?_
      refine j_iload_n C dX8_stand_51 rfl (n := 52) rfl ?_
      refine j_bnd (fun r3 q2 => ?_)
      refine j_ci C (run_V C mi_X8_headsLike lm_X8_244 iv_X8_headsLike ⟨Nat.le_of_ble_eq_true rfl, Nat.le_of_ble_eq_true rfl⟩ (m_X8_headsLike _ _ _ _ _ q2) (cM_0 g _) rfl rfl rfl rfl (Nat.le_of_ble_eq_true rfl) dX8_stand_52) (n := 55) rfl ?_
      refine j_iload_n C dX8_stand_55 rfl (n := 56) rfl ?_
      refine j_iconst C dX8_stand_56 ic_m1 (n := 57) rfl ?_
      refine j_ixor C dX8_stand_57 (n := 58) rfl ?_
      refine j_iand C dX8_stand_58 (n := 59) rfl ?_
      refine j_if_eq C dX8_stand_59 (tgt := 69) (n := 62) (by decide) rfl (fun q5 => ?_) (fun q5 => ?_)
      · refine j_iconst C dX8_stand_69 ic_0 (n := 70) rfl ?_
        refine j_ior C dX8_stand_70 (n := 71) rfl ?_
        refine j_istore_n C dX8_stand_71 (Nat.le_of_ble_eq_true rfl) (n := 72) rfl ?_
        refine j_iinc C dX8_stand_72 rfl ic_1 (Nat.le_of_ble_eq_true rfl) (n := 75) rfl ?_
        refine j_goto C dX8_stand_75 (n := 40) (by decide) ?_
        exact j_to (ih _ _ _ _ _) ⟨rfl, ⟨rfl, ⟨rfl, ⟨rfl, ⟨rfl, trivial⟩⟩⟩⟩⟩
      · refine j_iconst C dX8_stand_62 ic_1 (n := 63) rfl ?_
        refine j_iload C dX8_stand_63 rfl (n := 65) rfl ?_
        refine j_ishl C dX8_stand_65 (n := 66) rfl ?_
        refine j_goto C dX8_stand_66 (n := 70) (by decide) ?_
        refine j_ior C dX8_stand_70 (n := 71) rfl ?_
        refine j_istore_n C dX8_stand_71 (Nat.le_of_ble_eq_true rfl) (n := 72) rfl ?_
        refine j_iinc C dX8_stand_72 rfl ic_1 (Nat.le_of_ble_eq_true rfl) (n := 75) rfl ?_
        refine j_goto C dX8_stand_75 (n := 40) (by decide) ?_
        exact j_to (ih _ _ _ _ _) ⟨rfl, ⟨rfl, ⟨rfl, ⟨rfl, ⟨rfl, trivial⟩⟩⟩⟩⟩
set_option maxRecDepth 20000 in
theorem m_X8_stand (l : Launch) (fu : Nat) (x1 : Int32) (x2 : Int32) (h : Hp) {r : Int32 × Hp} (e : X8_stand fu x1 x2 h = some r) : CT l yX8_stand cX8_stand 5 (some .int) 4 cwM (fun g => [rf g 0, .int x1, .int x2]) h (qI cwM r.1 r.2) := by
  refine ct_of (QR := (fun r : Int32 × Hp => qI cwM r.1 r.2)) (by decide +kernel) (fun g => ⟨rfl, Nat.le_of_ble_eq_true rfl⟩) e (fun x g hl C => ?_)
  unfold X8_stand
  refine j_iload_n C dX8_stand_0 rfl (n := 1) rfl ?_
  refine j_iconst C dX8_stand_1 ic_0 (n := 2) rfl ?_
  refine j_iconst C dX8_stand_2 ic_1 (n := 3) rfl ?_
  refine j_aload_n C dX8_stand_3 rfl (n := 4) rfl ?_
  refine gf_X8_9 C 0 (cM_0 g _) rfl dX8_stand_4 (n := 7) rfl ?_
  refine j_iconst C dX8_stand_7 ic_2 (n := 8) rfl ?_
  refine j_ialdL C 1 (cM_1 g _) ir_2_117 dX8_stand_8 (n := 9) rfl ?_
  refine j_ishl C dX8_stand_9 (n := 10) rfl ?_
  refine j_iconst C dX8_stand_10 ic_1 (n := 11) rfl ?_
  refine j_isub C dX8_stand_11 (n := 12) rfl ?_
  refine j_cz C (run_S C mi_X8_within lm_X8_68 st_X8_within ⟨Nat.le_of_ble_eq_true rfl, Nat.le_of_ble_eq_true rfl⟩ (m_X8_within _ _ _ _ _) rfl rfl rfl (Nat.le_of_ble_eq_true rfl) dX8_stand_12) (n := 15) rfl (fun b1 => ?_)
  refine j_if_eq C dX8_stand_15 (tgt := 28) (n := 18) (by decide) rfl (fun q2 => ?_) (fun q2 => ?_)
  · refine j_aload_n C dX8_stand_28 rfl (n := 29) rfl ?_
    refine j_ldc C dX8_stand_29 kc_X8_63 (n := 31) rfl ?_
    refine j_bnd (fun r4 q3 => ?_)
    refine j_ci C (run_V C mi_X8_finding lm_X8_80 iv_X8_finding ⟨Nat.le_of_ble_eq_true rfl, Nat.le_of_ble_eq_true rfl⟩ (m_X8_finding _ _ _ q3) (cM_0 g _) rfl rfl rfl rfl (Nat.le_of_ble_eq_true rfl) dX8_stand_31) (n := 34) rfl ?_
    exact j_retP C dX8_stand_34
  · refine j_iload_n C dX8_stand_18 rfl (n := 19) rfl ?_
    refine j_iconst C dX8_stand_19 ic_0 (n := 20) rfl ?_
    refine j_bipush C dX8_stand_20 bp_99 (n := 22) rfl ?_
    refine j_cz C (run_S C mi_X8_within lm_X8_68 st_X8_within ⟨Nat.le_of_ble_eq_true rfl, Nat.le_of_ble_eq_true rfl⟩ (m_X8_within _ _ _ _ _) rfl rfl rfl (Nat.le_of_ble_eq_true rfl) dX8_stand_22) (n := 25) rfl (fun b6 => ?_)
    refine j_if_ne C dX8_stand_25 (tgt := 35) (n := 28) (by decide) rfl (fun q7 => ?_) (fun q7 => ?_)
    · refine j_iconst C dX8_stand_35 ic_0 (n := 36) rfl ?_
      refine j_istore_n C dX8_stand_36 (Nat.le_of_ble_eq_true rfl) (n := 37) rfl ?_
      refine j_iconst C dX8_stand_37 ic_0 (n := 38) rfl ?_
      refine j_istore C dX8_stand_38 (Nat.le_of_ble_eq_true rfl) (n := 40) rfl ?_
      exact j_to (j_X8_stand_40 C _ _ _ _ _ _ _) ⟨rfl, ⟨rfl, ⟨rfl, ⟨rfl, ⟨rfl, trivial⟩⟩⟩⟩⟩
    · refine j_aload_n C dX8_stand_28 rfl (n := 29) rfl ?_
      refine j_ldc C dX8_stand_29 kc_X8_63 (n := 31) rfl ?_
      refine j_bnd (fun r9 q8 => ?_)
      refine j_ci C (run_V C mi_X8_finding lm_X8_80 iv_X8_finding ⟨Nat.le_of_ble_eq_true rfl, Nat.le_of_ble_eq_true rfl⟩ (m_X8_finding _ _ _ q8) (cM_0 g _) rfl rfl rfl rfl (Nat.le_of_ble_eq_true rfl) dX8_stand_31) (n := 34) rfl ?_
      exact j_retP C dX8_stand_34
-- X8_fire
set_option maxRecDepth 20000 in
theorem m_X8_fire (l : Launch) (fu : Nat) (x1 : Int32) (x2 : Int32) (h : Hp) {r : Int32 × Hp} (e : X8_fire fu x1 x2 h = some r) : CT l yX8_fire cX8_fire 3 (some .int) 4 cwM (fun g => [rf g 0, .int x1, .int x2]) h (qI cwM r.1 r.2) := by
  refine ct_of (QR := (fun r : Int32 × Hp => qI cwM r.1 r.2)) (by decide +kernel) (fun g => ⟨rfl, Nat.le_of_ble_eq_true rfl⟩) e (fun x g hl C => ?_)
  unfold X8_fire
  refine j_iload_n C dX8_fire_0 rfl (n := 1) rfl ?_
  refine j_cz C (run_S C mi_X8_isFace lm_X8_111 st_X8_isFace ⟨Nat.le_of_ble_eq_true rfl, Nat.le_of_ble_eq_true rfl⟩ (m_X8_isFace _ _ _) rfl rfl rfl (Nat.le_of_ble_eq_true rfl) dX8_fire_1) (n := 4) rfl (fun b1 => ?_)
  refine j_if_eq C dX8_fire_4 (tgt := 26) (n := 7) (by decide) rfl (fun q2 => ?_) (fun q2 => ?_)
  · refine j_aload_n C dX8_fire_26 rfl (n := 27) rfl ?_
    refine j_ldc C dX8_fire_27 kc_X8_63 (n := 29) rfl ?_
    refine j_bnd (fun r4 q3 => ?_)
    refine j_ci C (run_V C mi_X8_finding lm_X8_80 iv_X8_finding ⟨Nat.le_of_ble_eq_true rfl, Nat.le_of_ble_eq_true rfl⟩ (m_X8_finding _ _ _ q3) (cM_0 g _) rfl rfl rfl rfl (Nat.le_of_ble_eq_true rfl) dX8_fire_29) (n := 32) rfl ?_
    exact j_retP C dX8_fire_32
  · refine j_iload_n C dX8_fire_7 rfl (n := 8) rfl ?_
    refine j_iconst C dX8_fire_8 ic_0 (n := 9) rfl ?_
    refine j_bipush C dX8_fire_9 bp_99 (n := 11) rfl ?_
    refine j_cz C (run_S C mi_X8_within lm_X8_68 st_X8_within ⟨Nat.le_of_ble_eq_true rfl, Nat.le_of_ble_eq_true rfl⟩ (m_X8_within _ _ _ _ _) rfl rfl rfl (Nat.le_of_ble_eq_true rfl) dX8_fire_11) (n := 14) rfl (fun b6 => ?_)
    refine j_if_eq C dX8_fire_14 (tgt := 26) (n := 17) (by decide) rfl (fun q7 => ?_) (fun q7 => ?_)
    · refine j_aload_n C dX8_fire_26 rfl (n := 27) rfl ?_
      refine j_ldc C dX8_fire_27 kc_X8_63 (n := 29) rfl ?_
      refine j_bnd (fun r9 q8 => ?_)
      refine j_ci C (run_V C mi_X8_finding lm_X8_80 iv_X8_finding ⟨Nat.le_of_ble_eq_true rfl, Nat.le_of_ble_eq_true rfl⟩ (m_X8_finding _ _ _ q8) (cM_0 g _) rfl rfl rfl rfl (Nat.le_of_ble_eq_true rfl) dX8_fire_29) (n := 32) rfl ?_
      exact j_retP C dX8_fire_32
    · refine j_aload_n C dX8_fire_17 rfl (n := 18) rfl ?_
      refine j_iload_n C dX8_fire_18 rfl (n := 19) rfl ?_
      refine j_iload_n C dX8_fire_19 rfl (n := 20) rfl ?_
      refine j_bnd (fun r12 q11 => ?_)
      refine j_ci C (run_V C mi_X8_headsLike lm_X8_244 iv_X8_headsLike ⟨Nat.le_of_ble_eq_true rfl, Nat.le_of_ble_eq_true rfl⟩ (m_X8_headsLike _ _ _ _ _ q11) (cM_0 g _) rfl rfl rfl rfl (Nat.le_of_ble_eq_true rfl) dX8_fire_20) (n := 23) rfl ?_
      refine j_goto C dX8_fire_23 (n := 32) (by decide) ?_
      exact j_retP C dX8_fire_32
-- X8_drawn
set_option maxRecDepth 20000 in
theorem m_X8_drawn (l : Launch) (x1 : Int32) (h : Hp) {r : Int32 × Hp} (e : X8_drawn x1 h = some r) : CT l yX8_drawn cX8_drawn 2 (some .int) 0 cwM (fun g => [rf g 0, .int x1]) h (qI cwM r.1 r.2) := by
  refine ct_of (QR := (fun r : Int32 × Hp => qI cwM r.1 r.2)) (by decide +kernel) (fun g => ⟨rfl, Nat.le_of_ble_eq_true rfl⟩) e (fun x g hl C => ?_)
  unfold X8_drawn
  refine j_aload_n C dX8_drawn_0 rfl (n := 1) rfl ?_
  refine gf_X8_9 C 0 (cM_0 g _) rfl dX8_drawn_1 (n := 4) rfl ?_
  refine j_iconst C dX8_drawn_4 ic_4 (n := 5) rfl ?_
  refine j_aload_n C dX8_drawn_5 rfl (n := 6) rfl ?_
  refine gf_X8_9 C 0 (cM_0 g _) rfl dX8_drawn_6 (n := 9) rfl ?_
  refine j_iconst C dX8_drawn_9 ic_4 (n := 10) rfl ?_
  refine j_ialdL C 1 (cM_1 g _) ir_4_117 dX8_drawn_10 (n := 11) rfl ?_
  refine j_ldc C dX8_drawn_11 kc_X8_247 (n := 13) rfl ?_
  refine j_imul C dX8_drawn_13 (n := 14) rfl ?_
  refine j_sipush C dX8_drawn_14 sp_12345 (n := 17) rfl ?_
  refine j_iadd C dX8_drawn_17 (n := 18) rfl ?_
  refine j_iastL C 1 (cM_1 g _) (aM_1 g _ _ _) ir_4_117 dX8_drawn_18 (n := 19) rfl ?_
  refine j_aload_n C dX8_drawn_19 rfl (n := 20) rfl ?_
  refine gf_X8_9 C 0 (cM_0 g _) rfl dX8_drawn_20 (n := 23) rfl ?_
  refine j_iconst C dX8_drawn_23 ic_4 (n := 24) rfl ?_
  refine j_ialdL C 1 (cM_1 g _) ir_4_117 dX8_drawn_24 (n := 25) rfl ?_
  refine j_bipush C dX8_drawn_25 bp_8 (n := 27) rfl ?_
  refine j_iushr C dX8_drawn_27 (n := 28) rfl ?_
  refine j_iload_n C dX8_drawn_28 rfl (n := 29) rfl ?_
  refine j_irem C dX8_drawn_29 (n := 30) rfl ?_
  exact j_retP C dX8_drawn_30
-- X8_papers
set_option maxRecDepth 20000 in
theorem j_X8_papers_19 {x : Fx} {g : Gl} (C : Ok x g RX8 cX8_papers 4 (some .int)) (fu : Nat) : ∀ (n : Nat) (x1 : Int32) (x2 : Int32) (h : Hp), J x g cwM 4 5 (fun r : Int32 × Hp => qI cwM r.1 r.2) 19 [some (rf g 0), some (.int x1), some (.int x2)] [] h (X8_papers_19 fu n x1 x2 h) := by
  intro n
  induction n with
  | zero =>
    intro x1 x2 h
    rw [X8_papers_19]
    exact j_none
  | succ n ih =>
    intro x1 x2 h
    rw [X8_papers_19]
    refine j_iload_n C dX8_papers_19 rfl (n := 20) rfl ?_
    refine j_iload_n C dX8_papers_20 rfl (n := 21) rfl ?_
    refine j_icmp_ge C dX8_papers_21 (tgt := 52) (n := 24) (by decide) rfl (fun q1 => ?_) (fun q1 => ?_)
    · refine j_aload_n C dX8_papers_52 rfl (n := 53) rfl ?_
      refine j_iconst C dX8_papers_53 ic_0 (n := 54) rfl ?_
      refine j_bnd (fun r3 q2 => ?_)
      refine j_ci C (run_V C mi_X8_findMost lm_X8_191 iv_X8_findMost ⟨Nat.le_of_ble_eq_true rfl, Nat.le_of_ble_eq_true rfl⟩ (m_X8_findMost _ _ _ _ q2) (cM_0 g _) rfl rfl rfl rfl (Nat.le_of_ble_eq_true rfl) dX8_papers_54) (n := 57) rfl ?_
      exact j_retP C dX8_papers_57
    · refine j_aload_n C dX8_papers_24 rfl (n := 25) rfl ?_
      refine j_bipush C dX8_papers_25 bp_6 (n := 27) rfl ?_
      refine j_bnd (fun r6 q5 => ?_)
      refine j_ci C (run_V C mi_X8_drawn lm_X8_248 iv_X8_drawn ⟨Nat.le_of_ble_eq_true rfl, Nat.le_of_ble_eq_true rfl⟩ (m_X8_drawn _ _ _ q5) (cM_0 g _) rfl rfl rfl rfl (Nat.le_of_ble_eq_true rfl) dX8_papers_27) (n := 30) rfl ?_
      refine j_istore_n C dX8_papers_30 (Nat.le_of_ble_eq_true rfl) (n := 31) rfl ?_
      refine j_aload_n C dX8_papers_31 rfl (n := 32) rfl ?_
      refine gf_X8_9 C 0 (cM_0 g _) rfl dX8_papers_32 (n := 35) rfl ?_
      refine j_bipush C dX8_papers_35 bp_27 (n := 37) rfl ?_
      refine j_iload_n C dX8_papers_37 rfl (n := 38) rfl ?_
      refine j_iadd C dX8_papers_38 (n := 39) rfl ?_
      refine j_aload_n C dX8_papers_39 rfl (n := 40) rfl ?_
      refine j_bipush C dX8_papers_40 bp_6 (n := 42) rfl ?_
      refine j_bnd (fun r9 q8 => ?_)
      refine j_ci C (run_V C mi_X8_drawn lm_X8_248 iv_X8_drawn ⟨Nat.le_of_ble_eq_true rfl, Nat.le_of_ble_eq_true rfl⟩ (m_X8_drawn _ _ _ q8) (cM_0 g _) rfl rfl rfl rfl (Nat.le_of_ble_eq_true rfl) dX8_papers_42) (n := 45) rfl ?_
      refine j_iast C 1 (cM_1 g _) (aM_1 g _ _ _) dX8_papers_45 (n := 46) rfl ?_
      refine j_iinc C dX8_papers_46 rfl ic_1 (Nat.le_of_ble_eq_true rfl) (n := 49) rfl ?_
      refine j_goto C dX8_papers_49 (n := 19) (by decide) ?_
      exact j_to (ih _ _ _) ⟨rfl, ⟨rfl, ⟨rfl, trivial⟩⟩⟩
set_option maxRecDepth 20000 in
theorem m_X8_papers (l : Launch) (fu : Nat) (x1 : Int32) (h : Hp) {r : Int32 × Hp} (e : X8_papers fu x1 h = some r) : CT l yX8_papers cX8_papers 4 (some .int) 5 cwM (fun g => [rf g 0, .int x1]) h (qI cwM r.1 r.2) := by
  refine ct_of (QR := (fun r : Int32 × Hp => qI cwM r.1 r.2)) (by decide +kernel) (fun g => ⟨rfl, Nat.le_of_ble_eq_true rfl⟩) e (fun x g hl C => ?_)
  unfold X8_papers
  refine j_iload_n C dX8_papers_0 rfl (n := 1) rfl ?_
  refine j_iconst C dX8_papers_1 ic_1 (n := 2) rfl ?_
  refine j_bipush C dX8_papers_2 bp_12 (n := 4) rfl ?_
  refine j_cz C (run_S C mi_X8_within lm_X8_68 st_X8_within ⟨Nat.le_of_ble_eq_true rfl, Nat.le_of_ble_eq_true rfl⟩ (m_X8_within _ _ _ _ _) rfl rfl rfl (Nat.le_of_ble_eq_true rfl) dX8_papers_4) (n := 7) rfl (fun b1 => ?_)
  refine j_if_ne C dX8_papers_7 (tgt := 17) (n := 10) (by decide) rfl (fun q2 => ?_) (fun q2 => ?_)
  · refine j_iconst C dX8_papers_17 ic_0 (n := 18) rfl ?_
    refine j_istore_n C dX8_papers_18 (Nat.le_of_ble_eq_true rfl) (n := 19) rfl ?_
    exact j_to (j_X8_papers_19 C _ _ _ _ _) ⟨rfl, ⟨rfl, ⟨rfl, trivial⟩⟩⟩
  · refine j_aload_n C dX8_papers_10 rfl (n := 11) rfl ?_
    refine j_ldc C dX8_papers_11 kc_X8_63 (n := 13) rfl ?_
    refine j_bnd (fun r4 q3 => ?_)
    refine j_ci C (run_V C mi_X8_finding lm_X8_80 iv_X8_finding ⟨Nat.le_of_ble_eq_true rfl, Nat.le_of_ble_eq_true rfl⟩ (m_X8_finding _ _ _ q3) (cM_0 g _) rfl rfl rfl rfl (Nat.le_of_ble_eq_true rfl) dX8_papers_13) (n := 16) rfl ?_
    exact j_retP C dX8_papers_16
-- X8_seed
set_option maxRecDepth 20000 in
theorem m_X8_seed (l : Launch) (x1 : Int32) (h : Hp) {r : Int32 × Hp} (e : X8_seed x1 h = some r) : CT l yX8_seed cX8_seed 2 (some .int) 1 cwM (fun g => [rf g 0, .int x1]) h (qI cwM r.1 r.2) := by
  refine ct_of (QR := (fun r : Int32 × Hp => qI cwM r.1 r.2)) (by decide +kernel) (fun g => ⟨rfl, Nat.le_of_ble_eq_true rfl⟩) e (fun x g hl C => ?_)
  unfold X8_seed
  refine j_aload_n C dX8_seed_0 rfl (n := 1) rfl ?_
  refine j_iconst C dX8_seed_1 ic_4 (n := 2) rfl ?_
  refine j_iload_n C dX8_seed_2 rfl (n := 3) rfl ?_
  refine j_bnd (fun r2 q1 => ?_)
  refine j_ci C (run_V C mi_X8_become lm_X8_108 iv_X8_become ⟨Nat.le_of_ble_eq_true rfl, Nat.le_of_ble_eq_true rfl⟩ (m_X8_become _ _ _ _ q1) (cM_0 g _) rfl rfl rfl rfl (Nat.le_of_ble_eq_true rfl) dX8_seed_3) (n := 6) rfl ?_
  exact j_retP C dX8_seed_6
-- X8_feed
set_option maxRecDepth 20000 in
theorem j_X8_feed_38 {x : Fx} {g : Gl} (C : Ok x g RX8 cX8_feed 4 (some .int)) (fu : Nat) : ∀ (n : Nat) (x1 : Int32) (x3 : Int32) (h : Hp), J x g cwM 4 1 (fun r : Int32 × Hp => qI cwM r.1 r.2) 38 [some (rf g 0), some (.int x1), none, some (.int x3)] [] h (X8_feed_38 fu n x1 x3 h) := by
  intro n
  induction n with
  | zero =>
    intro x1 x3 h
    rw [X8_feed_38]
    exact j_none
  | succ n ih =>
    intro x1 x3 h
    rw [X8_feed_38]
    refine j_iload_n C dX8_feed_38 rfl (n := 39) rfl ?_
    refine j_if_lt C dX8_feed_39 (tgt := 77) (n := 42) (by decide) rfl (fun q1 => ?_) (fun q1 => ?_)
    · refine j_aload_n C dX8_feed_77 rfl (n := 78) rfl ?_
      refine gf_X8_251 C 0 (cM_0 g _) rfl dX8_feed_78 (n := 81) rfl ?_
      exact j_retP C dX8_feed_81
    · refine j_aload_n C dX8_feed_42 rfl (n := 43) rfl ?_
      refine gf_X8_25 C 0 (cM_0 g _) rfl dX8_feed_43 (n := 46) rfl ?_
      refine j_aload_n C dX8_feed_46 rfl (n := 47) rfl ?_
      refine gf_X8_251 C 0 (cM_0 g _) rfl dX8_feed_47 (n := 50) rfl ?_
      refine j_iload_n C dX8_feed_50 rfl (n := 51) rfl ?_
      refine j_bipush C dX8_feed_51 bp_8 (n := 53) rfl ?_
      refine j_iload_n C dX8_feed_53 rfl (n := 54) rfl ?_
      refine j_imul C dX8_feed_54 (n := 55) rfl ?_
      refine j_ishr C dX8_feed_55 (n := 56) rfl ?_
      refine j_sipush C dX8_feed_56 sp_255 (n := 59) rfl ?_
      refine j_iand C dX8_feed_59 (n := 60) rfl ?_
      refine j_iast C 6 (cM_6 g _) (aM_6 g _ _ _) dX8_feed_60 (n := 61) rfl ?_
      refine j_aload_n C dX8_feed_61 rfl (n := 62) rfl ?_
      refine j_dup C dX8_feed_62 rfl (n := 63) rfl ?_
      refine gf_X8_251 C 0 (cM_0 g _) rfl dX8_feed_63 (n := 66) rfl ?_
      refine j_iconst C dX8_feed_66 ic_1 (n := 67) rfl ?_
      refine j_iadd C dX8_feed_67 (n := 68) rfl ?_
      refine pf_X8_251 C 0 (cM_0 g _) (sM_0_10 g _ _) rfl dX8_feed_68 (n := 71) rfl ?_
      refine j_iinc C dX8_feed_71 rfl ic_m1 (Nat.le_of_ble_eq_true rfl) (n := 74) rfl ?_
      refine j_goto C dX8_feed_74 (n := 38) (by decide) ?_
      exact j_to (ih _ _ _) ⟨rfl, ⟨rfl, ⟨rfl, trivial⟩⟩⟩
set_option maxRecDepth 20000 in
theorem m_X8_feed (l : Launch) (fu : Nat) (x1 : Int32) (x2 : Int32) (h : Hp) {r : Int32 × Hp} (e : X8_feed fu x1 x2 h = some r) : CT l yX8_feed cX8_feed 4 (some .int) 1 cwM (fun g => [rf g 0, .int x1, .int x2]) h (qI cwM r.1 r.2) := by
  refine ct_of (QR := (fun r : Int32 × Hp => qI cwM r.1 r.2)) (by decide +kernel) (fun g => ⟨rfl, Nat.le_of_ble_eq_true rfl⟩) e (fun x g hl C => ?_)
  unfold X8_feed
  refine j_iload_n C dX8_feed_0 rfl (n := 1) rfl ?_
  refine j_iconst C dX8_feed_1 ic_1 (n := 2) rfl ?_
  refine j_iconst C dX8_feed_2 ic_4 (n := 3) rfl ?_
  refine j_cz C (run_S C mi_X8_within lm_X8_68 st_X8_within ⟨Nat.le_of_ble_eq_true rfl, Nat.le_of_ble_eq_true rfl⟩ (m_X8_within _ _ _ _ _) rfl rfl rfl (Nat.le_of_ble_eq_true rfl) dX8_feed_3) (n := 6) rfl (fun b1 => ?_)
  refine j_if_ne C dX8_feed_6 (tgt := 16) (n := 9) (by decide) rfl (fun q2 => ?_) (fun q2 => ?_)
  · refine j_aload_n C dX8_feed_16 rfl (n := 17) rfl ?_
    refine gf_X8_251 C 0 (cM_0 g _) rfl dX8_feed_17 (n := 20) rfl ?_
    refine j_iload_n C dX8_feed_20 rfl (n := 21) rfl ?_
    refine j_iadd C dX8_feed_21 (n := 22) rfl ?_
    refine j_bipush C dX8_feed_22 bp_120 (n := 24) rfl ?_
    refine j_icmp_le C dX8_feed_24 (tgt := 34) (n := 27) (by decide) rfl (fun q3 => ?_) (fun q3 => ?_)
    · refine j_iload_n C dX8_feed_34 rfl (n := 35) rfl ?_
      refine j_iconst C dX8_feed_35 ic_1 (n := 36) rfl ?_
      refine j_isub C dX8_feed_36 (n := 37) rfl ?_
      refine j_istore_n C dX8_feed_37 (Nat.le_of_ble_eq_true rfl) (n := 38) rfl ?_
      exact j_to (j_X8_feed_38 C _ _ _ _ _) ⟨rfl, ⟨rfl, ⟨rfl, trivial⟩⟩⟩
    · refine j_aload_n C dX8_feed_27 rfl (n := 28) rfl ?_
      refine j_ldc C dX8_feed_28 kc_X8_84 (n := 30) rfl ?_
      refine j_bnd (fun r5 q4 => ?_)
      refine j_ci C (run_V C mi_X8_finding lm_X8_80 iv_X8_finding ⟨Nat.le_of_ble_eq_true rfl, Nat.le_of_ble_eq_true rfl⟩ (m_X8_finding _ _ _ q4) (cM_0 g _) rfl rfl rfl rfl (Nat.le_of_ble_eq_true rfl) dX8_feed_30) (n := 33) rfl ?_
      exact j_retP C dX8_feed_33
  · refine j_aload_n C dX8_feed_9 rfl (n := 10) rfl ?_
    refine j_ldc C dX8_feed_10 kc_X8_63 (n := 12) rfl ?_
    refine j_bnd (fun r8 q7 => ?_)
    refine j_ci C (run_V C mi_X8_finding lm_X8_80 iv_X8_finding ⟨Nat.le_of_ble_eq_true rfl, Nat.le_of_ble_eq_true rfl⟩ (m_X8_finding _ _ _ q7) (cM_0 g _) rfl rfl rfl rfl (Nat.le_of_ble_eq_true rfl) dX8_feed_12) (n := 15) rfl ?_
    exact j_retP C dX8_feed_15
-- X8_wipe
set_option maxRecDepth 20000 in
theorem m_X8_wipe (l : Launch) (h : Hp) {r : Int32 × Hp} (e : X8_wipe h = some r) : CT l yX8_wipe cX8_wipe 2 (some .int) 0 cwM (fun g => [rf g 0]) h (qI cwM r.1 r.2) := by
  refine ct_of (QR := (fun r : Int32 × Hp => qI cwM r.1 r.2)) (by decide +kernel) (fun g => ⟨rfl, Nat.le_of_ble_eq_true rfl⟩) e (fun x g hl C => ?_)
  unfold X8_wipe
  refine j_aload_n C dX8_wipe_0 rfl (n := 1) rfl ?_
  refine gf_X8_251 C 0 (cM_0 g _) rfl dX8_wipe_1 (n := 4) rfl ?_
  refine j_istore_n C dX8_wipe_4 (Nat.le_of_ble_eq_true rfl) (n := 5) rfl ?_
  refine j_aload_n C dX8_wipe_5 rfl (n := 6) rfl ?_
  refine j_iconst C dX8_wipe_6 ic_0 (n := 7) rfl ?_
  refine pf_X8_251 C 0 (cM_0 g _) (sM_0_10 g _ _) rfl dX8_wipe_7 (n := 10) rfl ?_
  refine j_iload_n C dX8_wipe_10 rfl (n := 11) rfl ?_
  exact j_retP C dX8_wipe_11
-- X8_byteAt
set_option maxRecDepth 20000 in
theorem m_X8_byteAt (l : Launch) (x1 : Int32) (h : Hp) {r : Int32} (e : X8_byteAt x1 h = some r) : CT l yX8_byteAt cX8_byteAt 2 (some .int) 0 cwM (fun g => [rf g 0, .int x1]) h (qI cwM r h) := by
  refine ct_of (QR := (fun r : Int32 => qI cwM r h)) (by decide +kernel) (fun g => ⟨rfl, Nat.le_of_ble_eq_true rfl⟩) e (fun x g hl C => ?_)
  unfold X8_byteAt
  refine j_iload_n C dX8_byteAt_0 rfl (n := 1) rfl ?_
  refine j_aload_n C dX8_byteAt_1 rfl (n := 2) rfl ?_
  refine gf_X8_251 C 0 (cM_0 g _) rfl dX8_byteAt_2 (n := 5) rfl ?_
  refine j_icmp_ge C dX8_byteAt_5 (tgt := 17) (n := 8) (by decide) rfl (fun q1 => ?_) (fun q1 => ?_)
  · refine j_iconst C dX8_byteAt_17 ic_m1 (n := 18) rfl ?_
    exact j_ret C dX8_byteAt_18
  · refine j_aload_n C dX8_byteAt_8 rfl (n := 9) rfl ?_
    refine gf_X8_25 C 0 (cM_0 g _) rfl dX8_byteAt_9 (n := 12) rfl ?_
    refine j_iload_n C dX8_byteAt_12 rfl (n := 13) rfl ?_
    refine j_iald C 6 (cM_6 g _) dX8_byteAt_13 (n := 14) rfl ?_
    refine j_goto C dX8_byteAt_14 (n := 18) (by decide) ?_
    exact j_ret C dX8_byteAt_18
-- X8_next0
set_option maxRecDepth 20000 in
theorem j_X8_next0_84 {x : Fx} {g : Gl} (C : Ok x g RX8 cX8_next0 2 none) (fu : Nat) : ∀ (n : Nat) (h : Hp), J x g cwM 2 1 (fun r : Hp => qV cwM r) 84 [some (rf g 0)] [] h (X8_next0_84 fu n h) := by
  intro n
  induction n with
  | zero =>
    intro h
    rw [X8_next0_84]
    exact j_none
  | succ n ih =>
    intro h
    rw [X8_next0_84]
    refine j_aload_n C dX8_next0_84 rfl (n := 85) rfl ?_
    refine j_aload_n C dX8_next0_85 rfl (n := 86) rfl ?_
    refine gf_X8_254 C 0 (cM_0 g _) rfl dX8_next0_86 (n := 89) rfl ?_
    refine j_bnd (fun r2 q1 => ?_)
    refine j_ci C (run_V C mi_X8_byteAt lm_X8_260 iv_X8_byteAt ⟨Nat.le_of_ble_eq_true rfl, Nat.le_of_ble_eq_true rfl⟩ (m_X8_byteAt _ _ _ q1) (cM_0 g _) rfl rfl rfl rfl (Nat.le_of_ble_eq_true rfl) dX8_next0_89) (n := 92) rfl ?_
    refine j_bipush C dX8_next0_92 bp_97 (n := 94) rfl ?_
    refine j_bipush C dX8_next0_94 bp_122 (n := 96) rfl ?_
    refine j_cz C (run_S C mi_X8_within lm_X8_68 st_X8_within ⟨Nat.le_of_ble_eq_true rfl, Nat.le_of_ble_eq_true rfl⟩ (m_X8_within _ _ _ _ _) rfl rfl rfl (Nat.le_of_ble_eq_true rfl) dX8_next0_96) (n := 99) rfl (fun b4 => ?_)
    refine j_if_eq C dX8_next0_99 (tgt := 206) (n := 102) (by decide) rfl (fun q5 => ?_) (fun q5 => ?_)
    · exact j_retV C dX8_next0_206
    · refine j_aload_n C dX8_next0_102 rfl (n := 103) rfl ?_
      refine j_dup C dX8_next0_103 rfl (n := 104) rfl ?_
      refine gf_X8_254 C 0 (cM_0 g _) rfl dX8_next0_104 (n := 107) rfl ?_
      refine j_iconst C dX8_next0_107 ic_1 (n := 108) rfl ?_
      refine j_iadd C dX8_next0_108 (n := 109) rfl ?_
      refine pf_X8_254 C 0 (cM_0 g _) (sM_0_12 g _ _) rfl dX8_next0_109 (n := 112) rfl ?_
      refine j_goto C dX8_next0_112 (n := 84) (by decide) ?_
      exact j_to (ih _) ⟨rfl, trivial⟩
set_option maxRecDepth 20000 in
theorem j_X8_next0_131 {x : Fx} {g : Gl} (C : Ok x g RX8 cX8_next0 2 none) (fu : Nat) : ∀ (n : Nat) (h : Hp), J x g cwM 2 1 (fun r : Hp => qV cwM r) 131 [some (rf g 0)] [] h (X8_next0_131 fu n h) := by
  intro n
  induction n with
  | zero =>
    intro h
    rw [X8_next0_131]
    exact j_none
  | succ n ih =>
    intro h
    rw [X8_next0_131]
    refine j_aload_n C dX8_next0_131 rfl (n := 132) rfl ?_
    refine j_aload_n C dX8_next0_132 rfl (n := 133) rfl ?_
    refine gf_X8_254 C 0 (cM_0 g _) rfl dX8_next0_133 (n := 136) rfl ?_
    refine j_bnd (fun r2 q1 => ?_)
    refine j_ci C (run_V C mi_X8_byteAt lm_X8_260 iv_X8_byteAt ⟨Nat.le_of_ble_eq_true rfl, Nat.le_of_ble_eq_true rfl⟩ (m_X8_byteAt _ _ _ q1) (cM_0 g _) rfl rfl rfl rfl (Nat.le_of_ble_eq_true rfl) dX8_next0_136) (n := 139) rfl ?_
    refine j_bipush C dX8_next0_139 bp_48 (n := 141) rfl ?_
    refine j_bipush C dX8_next0_141 bp_57 (n := 143) rfl ?_
    refine j_cz C (run_S C mi_X8_within lm_X8_68 st_X8_within ⟨Nat.le_of_ble_eq_true rfl, Nat.le_of_ble_eq_true rfl⟩ (m_X8_within _ _ _ _ _) rfl rfl rfl (Nat.le_of_ble_eq_true rfl) dX8_next0_143) (n := 146) rfl (fun b4 => ?_)
    refine j_if_eq C dX8_next0_146 (tgt := 206) (n := 149) (by decide) rfl (fun q5 => ?_) (fun q5 => ?_)
    · exact j_retV C dX8_next0_206
    · refine j_aload_n C dX8_next0_149 rfl (n := 150) rfl ?_
      refine j_sipush C dX8_next0_150 sp_1000 (n := 153) rfl ?_
      refine j_bipush C dX8_next0_153 bp_10 (n := 155) rfl ?_
      refine j_aload_n C dX8_next0_155 rfl (n := 156) rfl ?_
      refine gf_X8_263 C 0 (cM_0 g _) rfl dX8_next0_156 (n := 159) rfl ?_
      refine j_imul C dX8_next0_159 (n := 160) rfl ?_
      refine j_aload_n C dX8_next0_160 rfl (n := 161) rfl ?_
      refine j_aload_n C dX8_next0_161 rfl (n := 162) rfl ?_
      refine gf_X8_254 C 0 (cM_0 g _) rfl dX8_next0_162 (n := 165) rfl ?_
      refine j_bnd (fun r7 q6 => ?_)
      refine j_ci C (run_V C mi_X8_byteAt lm_X8_260 iv_X8_byteAt ⟨Nat.le_of_ble_eq_true rfl, Nat.le_of_ble_eq_true rfl⟩ (m_X8_byteAt _ _ _ q6) (cM_0 g _) rfl rfl rfl rfl (Nat.le_of_ble_eq_true rfl) dX8_next0_165) (n := 168) rfl ?_
      refine j_iadd C dX8_next0_168 (n := 169) rfl ?_
      refine j_bipush C dX8_next0_169 bp_48 (n := 171) rfl ?_
      refine j_isub C dX8_next0_171 (n := 172) rfl ?_
      refine j_mmin C lm_X8_234 (Nat.le_of_ble_eq_true rfl) (Nat.le_of_ble_eq_true rfl) dX8_next0_172 (n := 175) rfl ?_
      refine pf_X8_263 C 0 (cM_0 g _) (sM_0_14 g _ _) rfl dX8_next0_175 (n := 178) rfl ?_
      refine j_aload_n C dX8_next0_178 rfl (n := 179) rfl ?_
      refine j_dup C dX8_next0_179 rfl (n := 180) rfl ?_
      refine gf_X8_254 C 0 (cM_0 g _) rfl dX8_next0_180 (n := 183) rfl ?_
      refine j_iconst C dX8_next0_183 ic_1 (n := 184) rfl ?_
      refine j_iadd C dX8_next0_184 (n := 185) rfl ?_
      refine pf_X8_254 C 0 (cM_0 g _) (sM_0_12 g _ _) rfl dX8_next0_185 (n := 188) rfl ?_
      refine j_goto C dX8_next0_188 (n := 131) (by decide) ?_
      exact j_to (ih _) ⟨rfl, trivial⟩
set_option maxRecDepth 20000 in
theorem j_X8_next0_8 {x : Fx} {g : Gl} (C : Ok x g RX8 cX8_next0 2 none) (fu : Nat) : ∀ (n : Nat) (h : Hp), J x g cwM 2 1 (fun r : Hp => qV cwM r) 8 [some (rf g 0)] [] h (X8_next0_8 fu n h) := by
  intro n
  induction n with
  | zero =>
    intro h
    rw [X8_next0_8]
    exact j_none
  | succ n ih =>
    intro h
    rw [X8_next0_8]
    refine j_aload_n C dX8_next0_8 rfl (n := 9) rfl ?_
    refine j_aload_n C dX8_next0_9 rfl (n := 10) rfl ?_
    refine gf_X8_257 C 0 (cM_0 g _) rfl dX8_next0_10 (n := 13) rfl ?_
    refine j_bnd (fun r2 q1 => ?_)
    refine j_ci C (run_V C mi_X8_byteAt lm_X8_260 iv_X8_byteAt ⟨Nat.le_of_ble_eq_true rfl, Nat.le_of_ble_eq_true rfl⟩ (m_X8_byteAt _ _ _ q1) (cM_0 g _) rfl rfl rfl rfl (Nat.le_of_ble_eq_true rfl) dX8_next0_13) (n := 16) rfl ?_
    refine j_bipush C dX8_next0_16 bp_32 (n := 18) rfl ?_
    refine j_icmp_ne C dX8_next0_18 (tgt := 34) (n := 21) (by decide) rfl (fun q4 => ?_) (fun q4 => ?_)
    · refine j_aload_n C dX8_next0_34 rfl (n := 35) rfl ?_
      refine j_aload_n C dX8_next0_35 rfl (n := 36) rfl ?_
      refine gf_X8_257 C 0 (cM_0 g _) rfl dX8_next0_36 (n := 39) rfl ?_
      refine j_bnd (fun r6 q5 => ?_)
      refine j_ci C (run_V C mi_X8_byteAt lm_X8_260 iv_X8_byteAt ⟨Nat.le_of_ble_eq_true rfl, Nat.le_of_ble_eq_true rfl⟩ (m_X8_byteAt _ _ _ q5) (cM_0 g _) rfl rfl rfl rfl (Nat.le_of_ble_eq_true rfl) dX8_next0_39) (n := 42) rfl ?_
      refine j_istore_n C dX8_next0_42 (Nat.le_of_ble_eq_true rfl) (n := 43) rfl ?_
      refine j_aload_n C dX8_next0_43 rfl (n := 44) rfl ?_
      refine j_aload_n C dX8_next0_44 rfl (n := 45) rfl ?_
      refine gf_X8_257 C 0 (cM_0 g _) rfl dX8_next0_45 (n := 48) rfl ?_
      refine pf_X8_254 C 0 (cM_0 g _) (sM_0_12 g _ _) rfl dX8_next0_48 (n := 51) rfl ?_
      refine j_aload_n C dX8_next0_51 rfl (n := 52) rfl ?_
      refine j_iconst C dX8_next0_52 ic_0 (n := 53) rfl ?_
      refine pf_X8_263 C 0 (cM_0 g _) (sM_0_14 g _ _) rfl dX8_next0_53 (n := 56) rfl ?_
      refine j_iload_n C dX8_next0_56 rfl (n := 57) rfl ?_
      refine j_if_ge C dX8_next0_57 (tgt := 68) (n := 60) (by decide) rfl (fun q8 => ?_) (fun q8 => ?_)
      · refine j_iload_n C dX8_next0_68 rfl (n := 69) rfl ?_
        refine j_bipush C dX8_next0_69 bp_97 (n := 71) rfl ?_
        refine j_bipush C dX8_next0_71 bp_122 (n := 73) rfl ?_
        refine j_cz C (run_S C mi_X8_within lm_X8_68 st_X8_within ⟨Nat.le_of_ble_eq_true rfl, Nat.le_of_ble_eq_true rfl⟩ (m_X8_within _ _ _ _ _) rfl rfl rfl (Nat.le_of_ble_eq_true rfl) dX8_next0_73) (n := 76) rfl (fun b9 => ?_)
        refine j_if_eq C dX8_next0_76 (tgt := 115) (n := 79) (by decide) rfl (fun q10 => ?_) (fun q10 => ?_)
        · refine j_iload_n C dX8_next0_115 rfl (n := 116) rfl ?_
          refine j_bipush C dX8_next0_116 bp_48 (n := 118) rfl ?_
          refine j_bipush C dX8_next0_118 bp_57 (n := 120) rfl ?_
          refine j_cz C (run_S C mi_X8_within lm_X8_68 st_X8_within ⟨Nat.le_of_ble_eq_true rfl, Nat.le_of_ble_eq_true rfl⟩ (m_X8_within _ _ _ _ _) rfl rfl rfl (Nat.le_of_ble_eq_true rfl) dX8_next0_120) (n := 123) rfl (fun b11 => ?_)
          refine j_if_eq C dX8_next0_123 (tgt := 191) (n := 126) (by decide) rfl (fun q12 => ?_) (fun q12 => ?_)
          · refine j_aload_n C dX8_next0_191 rfl (n := 192) rfl ?_
            refine j_iconst C dX8_next0_192 ic_3 (n := 193) rfl ?_
            refine pf_X8_266 C 0 (cM_0 g _) (sM_0_13 g _ _) rfl dX8_next0_193 (n := 196) rfl ?_
            refine j_aload_n C dX8_next0_196 rfl (n := 197) rfl ?_
            refine j_dup C dX8_next0_197 rfl (n := 198) rfl ?_
            refine gf_X8_254 C 0 (cM_0 g _) rfl dX8_next0_198 (n := 201) rfl ?_
            refine j_iconst C dX8_next0_201 ic_1 (n := 202) rfl ?_
            refine j_iadd C dX8_next0_202 (n := 203) rfl ?_
            refine pf_X8_254 C 0 (cM_0 g _) (sM_0_12 g _ _) rfl dX8_next0_203 (n := 206) rfl ?_
            exact j_retV C dX8_next0_206
          · refine j_aload_n C dX8_next0_126 rfl (n := 127) rfl ?_
            refine j_iconst C dX8_next0_127 ic_2 (n := 128) rfl ?_
            refine pf_X8_266 C 0 (cM_0 g _) (sM_0_13 g _ _) rfl dX8_next0_128 (n := 131) rfl ?_
            exact j_to (j_X8_next0_131 C _ _ _) ⟨rfl, trivial⟩
        · refine j_aload_n C dX8_next0_79 rfl (n := 80) rfl ?_
          refine j_iconst C dX8_next0_80 ic_1 (n := 81) rfl ?_
          refine pf_X8_266 C 0 (cM_0 g _) (sM_0_13 g _ _) rfl dX8_next0_81 (n := 84) rfl ?_
          exact j_to (j_X8_next0_84 C _ _ _) ⟨rfl, trivial⟩
      · refine j_aload_n C dX8_next0_60 rfl (n := 61) rfl ?_
        refine j_iconst C dX8_next0_61 ic_0 (n := 62) rfl ?_
        refine pf_X8_266 C 0 (cM_0 g _) (sM_0_13 g _ _) rfl dX8_next0_62 (n := 65) rfl ?_
        refine j_goto C dX8_next0_65 (n := 206) (by decide) ?_
        exact j_retV C dX8_next0_206
    · refine j_aload_n C dX8_next0_21 rfl (n := 22) rfl ?_
      refine j_dup C dX8_next0_22 rfl (n := 23) rfl ?_
      refine gf_X8_257 C 0 (cM_0 g _) rfl dX8_next0_23 (n := 26) rfl ?_
      refine j_iconst C dX8_next0_26 ic_1 (n := 27) rfl ?_
      refine j_iadd C dX8_next0_27 (n := 28) rfl ?_
      refine pf_X8_257 C 0 (cM_0 g _) (sM_0_11 g _ _) rfl dX8_next0_28 (n := 31) rfl ?_
      refine j_goto C dX8_next0_31 (n := 8) (by decide) ?_
      exact j_to (ih _) ⟨rfl, trivial⟩
set_option maxRecDepth 20000 in
theorem m_X8_next0 (l : Launch) (fu : Nat) (h : Hp) {r : Hp} (e : X8_next0 fu h = some r) : CT l yX8_next0 cX8_next0 2 none 1 cwM (fun g => [rf g 0]) h (qV cwM r) := by
  refine ct_of (QR := (fun r : Hp => qV cwM r)) (by decide +kernel) (fun g => ⟨rfl, Nat.le_of_ble_eq_true rfl⟩) e (fun x g hl C => ?_)
  unfold X8_next0
  refine j_aload_n C dX8_next0_0 rfl (n := 1) rfl ?_
  refine j_aload_n C dX8_next0_1 rfl (n := 2) rfl ?_
  refine gf_X8_254 C 0 (cM_0 g _) rfl dX8_next0_2 (n := 5) rfl ?_
  refine pf_X8_257 C 0 (cM_0 g _) (sM_0_11 g _ _) rfl dX8_next0_5 (n := 8) rfl ?_
  exact j_to (j_X8_next0_8 C _ _ _) ⟨rfl, trivial⟩
-- X8_isWord
set_option maxRecDepth 20000 in
theorem j_X8_isWord_32_13 {x : Fx} {g : Gl} (C : Ok x g RX8 cX8_isWord 4 (some .boolean)) (fu : Nat) (h : Hp) : ∀ (n : Nat) (x2 : Int32) (x3 : Int32) (bx2 : x2 = 0 ∨ x2 = 1), J x g cwM 4 4 (fun r : Int32 => qZ cwM r h) 32 [some (rf g 0), some (.ref (g.2.2.2.2.1 13)), some (.int x2), some (.int x3)] [] h (X8_isWord_32 fu 13 h n x2 x3) := by
  intro n
  induction n with
  | zero =>
    intro x2 x3 bx2
    rw [X8_isWord_32]
    exact j_none
  | succ n ih =>
    intro x2 x3 bx2
    rw [X8_isWord_32]
    refine j_iload_n C dX8_isWord_32 rfl (n := 33) rfl ?_
    refine j_aload_n C dX8_isWord_33 rfl (n := 34) rfl ?_
    refine j_ci C (run_len C lm_X8_269 (Nat.le_of_ble_eq_true rfl) (w := 13) (Nat.le_of_ble_eq_true rfl) rfl (Nat.le_of_ble_eq_true rfl) dX8_isWord_34) (n := 37) rfl ?_
    refine j_icmp_ge C dX8_isWord_37 (tgt := 75) (n := 40) (by decide) rfl (fun q1 => ?_) (fun q1 => ?_)
    · refine j_iload_n C dX8_isWord_75 rfl (n := 76) rfl ?_
      exact j_retZ C bx2 dX8_isWord_76
    · refine j_iload_n C dX8_isWord_40 rfl (n := 41) rfl ?_
      refine j_if_eq C dX8_isWord_41 (tgt := 75) (n := 44) (by decide) rfl (fun q2 => ?_) (fun q2 => ?_)
      · refine j_iload_n C dX8_isWord_75 rfl (n := 76) rfl ?_
        exact j_retZ C bx2 dX8_isWord_76
      · refine j_aload_n C dX8_isWord_44 rfl (n := 45) rfl ?_
        refine gf_X8_25 C 0 (cM_0 g _) rfl dX8_isWord_45 (n := 48) rfl ?_
        refine j_aload_n C dX8_isWord_48 rfl (n := 49) rfl ?_
        refine gf_X8_257 C 0 (cM_0 g _) rfl dX8_isWord_49 (n := 52) rfl ?_
        refine j_iload_n C dX8_isWord_52 rfl (n := 53) rfl ?_
        refine j_iadd C dX8_isWord_53 (n := 54) rfl ?_
        refine j_iald C 6 (cM_6 g _) dX8_isWord_54 (n := 55) rfl ?_
        refine j_aload_n C dX8_isWord_55 rfl (n := 56) rfl ?_
        refine j_iload_n C dX8_isWord_56 rfl (n := 57) rfl ?_
        refine j_chk (fun q3 => ?_)
        refine j_ci C (run_chr C lm_X8_272 (Nat.le_of_ble_eq_true rfl) (w := 13) (Nat.le_of_ble_eq_true rfl) q3 rfl (Nat.le_of_ble_eq_true rfl) dX8_isWord_57) (n := 60) rfl ?_
        refine j_icmp_ne C dX8_isWord_60 (tgt := 67) (n := 63) (by decide) rfl (fun q4 => ?_) (fun q4 => ?_)
        · refine j_iconst C dX8_isWord_67 ic_0 (n := 68) rfl ?_
          refine j_istore_n C dX8_isWord_68 (Nat.le_of_ble_eq_true rfl) (n := 69) rfl ?_
          refine j_iinc C dX8_isWord_69 rfl ic_1 (Nat.le_of_ble_eq_true rfl) (n := 72) rfl ?_
          refine j_goto C dX8_isWord_72 (n := 32) (by decide) ?_
          exact j_to (ih _ _ (Or.inl rfl)) ⟨rfl, ⟨rfl, ⟨rfl, ⟨rfl, trivial⟩⟩⟩⟩
        · refine j_iconst C dX8_isWord_63 ic_1 (n := 64) rfl ?_
          refine j_goto C dX8_isWord_64 (n := 68) (by decide) ?_
          refine j_istore_n C dX8_isWord_68 (Nat.le_of_ble_eq_true rfl) (n := 69) rfl ?_
          refine j_iinc C dX8_isWord_69 rfl ic_1 (Nat.le_of_ble_eq_true rfl) (n := 72) rfl ?_
          refine j_goto C dX8_isWord_72 (n := 32) (by decide) ?_
          exact j_to (ih _ _ (Or.inr rfl)) ⟨rfl, ⟨rfl, ⟨rfl, ⟨rfl, trivial⟩⟩⟩⟩
set_option maxRecDepth 20000 in
theorem m_X8_isWord_13 (l : Launch) (fu : Nat) (h : Hp) {r : Int32} (e : X8_isWord fu 13 h = some r) : CT l yX8_isWord cX8_isWord 4 (some .boolean) 4 cwM (fun g => [rf g 0, .ref (g.2.2.2.2.1 13)]) h (qZ cwM r h) := by
  refine ct_of (QR := (fun r : Int32 => qZ cwM r h)) (by decide +kernel) (fun g => ⟨rfl, Nat.le_of_ble_eq_true rfl⟩) e (fun x g hl C => ?_)
  unfold X8_isWord
  refine j_aload_n C dX8_isWord_0 rfl (n := 1) rfl ?_
  refine gf_X8_266 C 0 (cM_0 g _) rfl dX8_isWord_1 (n := 4) rfl ?_
  refine j_iconst C dX8_isWord_4 ic_1 (n := 5) rfl ?_
  refine j_icmp_ne C dX8_isWord_5 (tgt := 28) (n := 8) (by decide) rfl (fun q1 => ?_) (fun q1 => ?_)
  · refine j_iconst C dX8_isWord_28 ic_0 (n := 29) rfl ?_
    refine j_istore_n C dX8_isWord_29 (Nat.le_of_ble_eq_true rfl) (n := 30) rfl ?_
    refine j_iconst C dX8_isWord_30 ic_0 (n := 31) rfl ?_
    refine j_istore_n C dX8_isWord_31 (Nat.le_of_ble_eq_true rfl) (n := 32) rfl ?_
    exact j_to (j_X8_isWord_32_13 C _ _ _ _ _ (Or.inl rfl)) ⟨rfl, ⟨rfl, ⟨rfl, ⟨rfl, trivial⟩⟩⟩⟩
  · refine j_aload_n C dX8_isWord_8 rfl (n := 9) rfl ?_
    refine gf_X8_254 C 0 (cM_0 g _) rfl dX8_isWord_9 (n := 12) rfl ?_
    refine j_aload_n C dX8_isWord_12 rfl (n := 13) rfl ?_
    refine gf_X8_257 C 0 (cM_0 g _) rfl dX8_isWord_13 (n := 16) rfl ?_
    refine j_isub C dX8_isWord_16 (n := 17) rfl ?_
    refine j_aload_n C dX8_isWord_17 rfl (n := 18) rfl ?_
    refine j_ci C (run_len C lm_X8_269 (Nat.le_of_ble_eq_true rfl) (w := 13) (Nat.le_of_ble_eq_true rfl) rfl (Nat.le_of_ble_eq_true rfl) dX8_isWord_18) (n := 21) rfl ?_
    refine j_icmp_ne C dX8_isWord_21 (tgt := 28) (n := 24) (by decide) rfl (fun q2 => ?_) (fun q2 => ?_)
    · refine j_iconst C dX8_isWord_28 ic_0 (n := 29) rfl ?_
      refine j_istore_n C dX8_isWord_29 (Nat.le_of_ble_eq_true rfl) (n := 30) rfl ?_
      refine j_iconst C dX8_isWord_30 ic_0 (n := 31) rfl ?_
      refine j_istore_n C dX8_isWord_31 (Nat.le_of_ble_eq_true rfl) (n := 32) rfl ?_
      exact j_to (j_X8_isWord_32_13 C _ _ _ _ _ (Or.inl rfl)) ⟨rfl, ⟨rfl, ⟨rfl, ⟨rfl, trivial⟩⟩⟩⟩
    · refine j_iconst C dX8_isWord_24 ic_1 (n := 25) rfl ?_
      refine j_goto C dX8_isWord_25 (n := 29) (by decide) ?_
      refine j_istore_n C dX8_isWord_29 (Nat.le_of_ble_eq_true rfl) (n := 30) rfl ?_
      refine j_iconst C dX8_isWord_30 ic_0 (n := 31) rfl ?_
      refine j_istore_n C dX8_isWord_31 (Nat.le_of_ble_eq_true rfl) (n := 32) rfl ?_
      exact j_to (j_X8_isWord_32_13 C _ _ _ _ _ (Or.inr rfl)) ⟨rfl, ⟨rfl, ⟨rfl, ⟨rfl, trivial⟩⟩⟩⟩
-- X8_isWord
set_option maxRecDepth 20000 in
theorem j_X8_isWord_32_7 {x : Fx} {g : Gl} (C : Ok x g RX8 cX8_isWord 4 (some .boolean)) (fu : Nat) (h : Hp) : ∀ (n : Nat) (x2 : Int32) (x3 : Int32) (bx2 : x2 = 0 ∨ x2 = 1), J x g cwM 4 4 (fun r : Int32 => qZ cwM r h) 32 [some (rf g 0), some (.ref (g.2.2.2.2.1 7)), some (.int x2), some (.int x3)] [] h (X8_isWord_32 fu 7 h n x2 x3) := by
  intro n
  induction n with
  | zero =>
    intro x2 x3 bx2
    rw [X8_isWord_32]
    exact j_none
  | succ n ih =>
    intro x2 x3 bx2
    rw [X8_isWord_32]
    refine j_iload_n C dX8_isWord_32 rfl (n := 33) rfl ?_
    refine j_aload_n C dX8_isWord_33 rfl (n := 34) rfl ?_
    refine j_ci C (run_len C lm_X8_269 (Nat.le_of_ble_eq_true rfl) (w := 7) (Nat.le_of_ble_eq_true rfl) rfl (Nat.le_of_ble_eq_true rfl) dX8_isWord_34) (n := 37) rfl ?_
    refine j_icmp_ge C dX8_isWord_37 (tgt := 75) (n := 40) (by decide) rfl (fun q1 => ?_) (fun q1 => ?_)
    · refine j_iload_n C dX8_isWord_75 rfl (n := 76) rfl ?_
      exact j_retZ C bx2 dX8_isWord_76
    · refine j_iload_n C dX8_isWord_40 rfl (n := 41) rfl ?_
      refine j_if_eq C dX8_isWord_41 (tgt := 75) (n := 44) (by decide) rfl (fun q2 => ?_) (fun q2 => ?_)
      · refine j_iload_n C dX8_isWord_75 rfl (n := 76) rfl ?_
        exact j_retZ C bx2 dX8_isWord_76
      · refine j_aload_n C dX8_isWord_44 rfl (n := 45) rfl ?_
        refine gf_X8_25 C 0 (cM_0 g _) rfl dX8_isWord_45 (n := 48) rfl ?_
        refine j_aload_n C dX8_isWord_48 rfl (n := 49) rfl ?_
        refine gf_X8_257 C 0 (cM_0 g _) rfl dX8_isWord_49 (n := 52) rfl ?_
        refine j_iload_n C dX8_isWord_52 rfl (n := 53) rfl ?_
        refine j_iadd C dX8_isWord_53 (n := 54) rfl ?_
        refine j_iald C 6 (cM_6 g _) dX8_isWord_54 (n := 55) rfl ?_
        refine j_aload_n C dX8_isWord_55 rfl (n := 56) rfl ?_
        refine j_iload_n C dX8_isWord_56 rfl (n := 57) rfl ?_
        refine j_chk (fun q3 => ?_)
        refine j_ci C (run_chr C lm_X8_272 (Nat.le_of_ble_eq_true rfl) (w := 7) (Nat.le_of_ble_eq_true rfl) q3 rfl (Nat.le_of_ble_eq_true rfl) dX8_isWord_57) (n := 60) rfl ?_
        refine j_icmp_ne C dX8_isWord_60 (tgt := 67) (n := 63) (by decide) rfl (fun q4 => ?_) (fun q4 => ?_)
        · refine j_iconst C dX8_isWord_67 ic_0 (n := 68) rfl ?_
          refine j_istore_n C dX8_isWord_68 (Nat.le_of_ble_eq_true rfl) (n := 69) rfl ?_
          refine j_iinc C dX8_isWord_69 rfl ic_1 (Nat.le_of_ble_eq_true rfl) (n := 72) rfl ?_
          refine j_goto C dX8_isWord_72 (n := 32) (by decide) ?_
          exact j_to (ih _ _ (Or.inl rfl)) ⟨rfl, ⟨rfl, ⟨rfl, ⟨rfl, trivial⟩⟩⟩⟩
        · refine j_iconst C dX8_isWord_63 ic_1 (n := 64) rfl ?_
          refine j_goto C dX8_isWord_64 (n := 68) (by decide) ?_
          refine j_istore_n C dX8_isWord_68 (Nat.le_of_ble_eq_true rfl) (n := 69) rfl ?_
          refine j_iinc C dX8_isWord_69 rfl ic_1 (Nat.le_of_ble_eq_true rfl) (n := 72) rfl ?_
          refine j_goto C dX8_isWord_72 (n := 32) (by decide) ?_
          exact j_to (ih _ _ (Or.inr rfl)) ⟨rfl, ⟨rfl, ⟨rfl, ⟨rfl, trivial⟩⟩⟩⟩
set_option maxRecDepth 20000 in
theorem m_X8_isWord_7 (l : Launch) (fu : Nat) (h : Hp) {r : Int32} (e : X8_isWord fu 7 h = some r) : CT l yX8_isWord cX8_isWord 4 (some .boolean) 4 cwM (fun g => [rf g 0, .ref (g.2.2.2.2.1 7)]) h (qZ cwM r h) := by
  refine ct_of (QR := (fun r : Int32 => qZ cwM r h)) (by decide +kernel) (fun g => ⟨rfl, Nat.le_of_ble_eq_true rfl⟩) e (fun x g hl C => ?_)
  unfold X8_isWord
  refine j_aload_n C dX8_isWord_0 rfl (n := 1) rfl ?_
  refine gf_X8_266 C 0 (cM_0 g _) rfl dX8_isWord_1 (n := 4) rfl ?_
  refine j_iconst C dX8_isWord_4 ic_1 (n := 5) rfl ?_
  refine j_icmp_ne C dX8_isWord_5 (tgt := 28) (n := 8) (by decide) rfl (fun q1 => ?_) (fun q1 => ?_)
  · refine j_iconst C dX8_isWord_28 ic_0 (n := 29) rfl ?_
    refine j_istore_n C dX8_isWord_29 (Nat.le_of_ble_eq_true rfl) (n := 30) rfl ?_
    refine j_iconst C dX8_isWord_30 ic_0 (n := 31) rfl ?_
    refine j_istore_n C dX8_isWord_31 (Nat.le_of_ble_eq_true rfl) (n := 32) rfl ?_
    exact j_to (j_X8_isWord_32_7 C _ _ _ _ _ (Or.inl rfl)) ⟨rfl, ⟨rfl, ⟨rfl, ⟨rfl, trivial⟩⟩⟩⟩
  · refine j_aload_n C dX8_isWord_8 rfl (n := 9) rfl ?_
    refine gf_X8_254 C 0 (cM_0 g _) rfl dX8_isWord_9 (n := 12) rfl ?_
    refine j_aload_n C dX8_isWord_12 rfl (n := 13) rfl ?_
    refine gf_X8_257 C 0 (cM_0 g _) rfl dX8_isWord_13 (n := 16) rfl ?_
    refine j_isub C dX8_isWord_16 (n := 17) rfl ?_
    refine j_aload_n C dX8_isWord_17 rfl (n := 18) rfl ?_
    refine j_ci C (run_len C lm_X8_269 (Nat.le_of_ble_eq_true rfl) (w := 7) (Nat.le_of_ble_eq_true rfl) rfl (Nat.le_of_ble_eq_true rfl) dX8_isWord_18) (n := 21) rfl ?_
    refine j_icmp_ne C dX8_isWord_21 (tgt := 28) (n := 24) (by decide) rfl (fun q2 => ?_) (fun q2 => ?_)
    · refine j_iconst C dX8_isWord_28 ic_0 (n := 29) rfl ?_
      refine j_istore_n C dX8_isWord_29 (Nat.le_of_ble_eq_true rfl) (n := 30) rfl ?_
      refine j_iconst C dX8_isWord_30 ic_0 (n := 31) rfl ?_
      refine j_istore_n C dX8_isWord_31 (Nat.le_of_ble_eq_true rfl) (n := 32) rfl ?_
      exact j_to (j_X8_isWord_32_7 C _ _ _ _ _ (Or.inl rfl)) ⟨rfl, ⟨rfl, ⟨rfl, ⟨rfl, trivial⟩⟩⟩⟩
    · refine j_iconst C dX8_isWord_24 ic_1 (n := 25) rfl ?_
      refine j_goto C dX8_isWord_25 (n := 29) (by decide) ?_
      refine j_istore_n C dX8_isWord_29 (Nat.le_of_ble_eq_true rfl) (n := 30) rfl ?_
      refine j_iconst C dX8_isWord_30 ic_0 (n := 31) rfl ?_
      refine j_istore_n C dX8_isWord_31 (Nat.le_of_ble_eq_true rfl) (n := 32) rfl ?_
      exact j_to (j_X8_isWord_32_7 C _ _ _ _ _ (Or.inr rfl)) ⟨rfl, ⟨rfl, ⟨rfl, ⟨rfl, trivial⟩⟩⟩⟩
-- X8_isWord
set_option maxRecDepth 20000 in
theorem j_X8_isWord_32_0 {x : Fx} {g : Gl} (C : Ok x g RX8 cX8_isWord 4 (some .boolean)) (fu : Nat) (h : Hp) : ∀ (n : Nat) (x2 : Int32) (x3 : Int32) (bx2 : x2 = 0 ∨ x2 = 1), J x g cwM 4 4 (fun r : Int32 => qZ cwM r h) 32 [some (rf g 0), some (.ref (g.2.2.2.2.1 0)), some (.int x2), some (.int x3)] [] h (X8_isWord_32 fu 0 h n x2 x3) := by
  intro n
  induction n with
  | zero =>
    intro x2 x3 bx2
    rw [X8_isWord_32]
    exact j_none
  | succ n ih =>
    intro x2 x3 bx2
    rw [X8_isWord_32]
    refine j_iload_n C dX8_isWord_32 rfl (n := 33) rfl ?_
    refine j_aload_n C dX8_isWord_33 rfl (n := 34) rfl ?_
    refine j_ci C (run_len C lm_X8_269 (Nat.le_of_ble_eq_true rfl) (w := 0) (Nat.le_of_ble_eq_true rfl) rfl (Nat.le_of_ble_eq_true rfl) dX8_isWord_34) (n := 37) rfl ?_
    refine j_icmp_ge C dX8_isWord_37 (tgt := 75) (n := 40) (by decide) rfl (fun q1 => ?_) (fun q1 => ?_)
    · refine j_iload_n C dX8_isWord_75 rfl (n := 76) rfl ?_
      exact j_retZ C bx2 dX8_isWord_76
    · refine j_iload_n C dX8_isWord_40 rfl (n := 41) rfl ?_
      refine j_if_eq C dX8_isWord_41 (tgt := 75) (n := 44) (by decide) rfl (fun q2 => ?_) (fun q2 => ?_)
      · refine j_iload_n C dX8_isWord_75 rfl (n := 76) rfl ?_
        exact j_retZ C bx2 dX8_isWord_76
      · refine j_aload_n C dX8_isWord_44 rfl (n := 45) rfl ?_
        refine gf_X8_25 C 0 (cM_0 g _) rfl dX8_isWord_45 (n := 48) rfl ?_
        refine j_aload_n C dX8_isWord_48 rfl (n := 49) rfl ?_
        refine gf_X8_257 C 0 (cM_0 g _) rfl dX8_isWord_49 (n := 52) rfl ?_
        refine j_iload_n C dX8_isWord_52 rfl (n := 53) rfl ?_
        refine j_iadd C dX8_isWord_53 (n := 54) rfl ?_
        refine j_iald C 6 (cM_6 g _) dX8_isWord_54 (n := 55) rfl ?_
        refine j_aload_n C dX8_isWord_55 rfl (n := 56) rfl ?_
        refine j_iload_n C dX8_isWord_56 rfl (n := 57) rfl ?_
        refine j_chk (fun q3 => ?_)
        refine j_ci C (run_chr C lm_X8_272 (Nat.le_of_ble_eq_true rfl) (w := 0) (Nat.le_of_ble_eq_true rfl) q3 rfl (Nat.le_of_ble_eq_true rfl) dX8_isWord_57) (n := 60) rfl ?_
        refine j_icmp_ne C dX8_isWord_60 (tgt := 67) (n := 63) (by decide) rfl (fun q4 => ?_) (fun q4 => ?_)
        · refine j_iconst C dX8_isWord_67 ic_0 (n := 68) rfl ?_
          refine j_istore_n C dX8_isWord_68 (Nat.le_of_ble_eq_true rfl) (n := 69) rfl ?_
          refine j_iinc C dX8_isWord_69 rfl ic_1 (Nat.le_of_ble_eq_true rfl) (n := 72) rfl ?_
          refine j_goto C dX8_isWord_72 (n := 32) (by decide) ?_
          exact j_to (ih _ _ (Or.inl rfl)) ⟨rfl, ⟨rfl, ⟨rfl, ⟨rfl, trivial⟩⟩⟩⟩
        · refine j_iconst C dX8_isWord_63 ic_1 (n := 64) rfl ?_
          refine j_goto C dX8_isWord_64 (n := 68) (by decide) ?_
          refine j_istore_n C dX8_isWord_68 (Nat.le_of_ble_eq_true rfl) (n := 69) rfl ?_
          refine j_iinc C dX8_isWord_69 rfl ic_1 (Nat.le_of_ble_eq_true rfl) (n := 72) rfl ?_
          refine j_goto C dX8_isWord_72 (n := 32) (by decide) ?_
          exact j_to (ih _ _ (Or.inr rfl)) ⟨rfl, ⟨rfl, ⟨rfl, ⟨rfl, trivial⟩⟩⟩⟩
set_option maxRecDepth 20000 in
theorem m_X8_isWord_0 (l : Launch) (fu : Nat) (h : Hp) {r : Int32} (e : X8_isWord fu 0 h = some r) : CT l yX8_isWord cX8_isWord 4 (some .boolean) 4 cwM (fun g => [rf g 0, .ref (g.2.2.2.2.1 0)]) h (qZ cwM r h) := by
  refine ct_of (QR := (fun r : Int32 => qZ cwM r h)) (by decide +kernel) (fun g => ⟨rfl, Nat.le_of_ble_eq_true rfl⟩) e (fun x g hl C => ?_)
  unfold X8_isWord
  refine j_aload_n C dX8_isWord_0 rfl (n := 1) rfl ?_
  refine gf_X8_266 C 0 (cM_0 g _) rfl dX8_isWord_1 (n := 4) rfl ?_
  refine j_iconst C dX8_isWord_4 ic_1 (n := 5) rfl ?_
  refine j_icmp_ne C dX8_isWord_5 (tgt := 28) (n := 8) (by decide) rfl (fun q1 => ?_) (fun q1 => ?_)
  · refine j_iconst C dX8_isWord_28 ic_0 (n := 29) rfl ?_
    refine j_istore_n C dX8_isWord_29 (Nat.le_of_ble_eq_true rfl) (n := 30) rfl ?_
    refine j_iconst C dX8_isWord_30 ic_0 (n := 31) rfl ?_
    refine j_istore_n C dX8_isWord_31 (Nat.le_of_ble_eq_true rfl) (n := 32) rfl ?_
    exact j_to (j_X8_isWord_32_0 C _ _ _ _ _ (Or.inl rfl)) ⟨rfl, ⟨rfl, ⟨rfl, ⟨rfl, trivial⟩⟩⟩⟩
  · refine j_aload_n C dX8_isWord_8 rfl (n := 9) rfl ?_
    refine gf_X8_254 C 0 (cM_0 g _) rfl dX8_isWord_9 (n := 12) rfl ?_
    refine j_aload_n C dX8_isWord_12 rfl (n := 13) rfl ?_
    refine gf_X8_257 C 0 (cM_0 g _) rfl dX8_isWord_13 (n := 16) rfl ?_
    refine j_isub C dX8_isWord_16 (n := 17) rfl ?_
    refine j_aload_n C dX8_isWord_17 rfl (n := 18) rfl ?_
    refine j_ci C (run_len C lm_X8_269 (Nat.le_of_ble_eq_true rfl) (w := 0) (Nat.le_of_ble_eq_true rfl) rfl (Nat.le_of_ble_eq_true rfl) dX8_isWord_18) (n := 21) rfl ?_
    refine j_icmp_ne C dX8_isWord_21 (tgt := 28) (n := 24) (by decide) rfl (fun q2 => ?_) (fun q2 => ?_)
    · refine j_iconst C dX8_isWord_28 ic_0 (n := 29) rfl ?_
      refine j_istore_n C dX8_isWord_29 (Nat.le_of_ble_eq_true rfl) (n := 30) rfl ?_
      refine j_iconst C dX8_isWord_30 ic_0 (n := 31) rfl ?_
      refine j_istore_n C dX8_isWord_31 (Nat.le_of_ble_eq_true rfl) (n := 32) rfl ?_
      exact j_to (j_X8_isWord_32_0 C _ _ _ _ _ (Or.inl rfl)) ⟨rfl, ⟨rfl, ⟨rfl, ⟨rfl, trivial⟩⟩⟩⟩
    · refine j_iconst C dX8_isWord_24 ic_1 (n := 25) rfl ?_
      refine j_goto C dX8_isWord_25 (n := 29) (by decide) ?_
      refine j_istore_n C dX8_isWord_29 (Nat.le_of_ble_eq_true rfl) (n := 30) rfl ?_
      refine j_iconst C dX8_isWord_30 ic_0 (n := 31) rfl ?_
      refine j_istore_n C dX8_isWord_31 (Nat.le_of_ble_eq_true rfl) (n := 32) rfl ?_
      exact j_to (j_X8_isWord_32_0 C _ _ _ _ _ (Or.inr rfl)) ⟨rfl, ⟨rfl, ⟨rfl, ⟨rfl, trivial⟩⟩⟩⟩
-- X8_isWord
set_option maxRecDepth 20000 in
theorem j_X8_isWord_32_1 {x : Fx} {g : Gl} (C : Ok x g RX8 cX8_isWord 4 (some .boolean)) (fu : Nat) (h : Hp) : ∀ (n : Nat) (x2 : Int32) (x3 : Int32) (bx2 : x2 = 0 ∨ x2 = 1), J x g cwM 4 4 (fun r : Int32 => qZ cwM r h) 32 [some (rf g 0), some (.ref (g.2.2.2.2.1 1)), some (.int x2), some (.int x3)] [] h (X8_isWord_32 fu 1 h n x2 x3) := by
  intro n
  induction n with
  | zero =>
    intro x2 x3 bx2
    rw [X8_isWord_32]
    exact j_none
  | succ n ih =>
    intro x2 x3 bx2
    rw [X8_isWord_32]
    refine j_iload_n C dX8_isWord_32 rfl (n := 33) rfl ?_
    refine j_aload_n C dX8_isWord_33 rfl (n := 34) rfl ?_
    refine j_ci C (run_len C lm_X8_269 (Nat.le_of_ble_eq_true rfl) (w := 1) (Nat.le_of_ble_eq_true rfl) rfl (Nat.le_of_ble_eq_true rfl) dX8_isWord_34) (n := 37) rfl ?_
    refine j_icmp_ge C dX8_isWord_37 (tgt := 75) (n := 40) (by decide) rfl (fun q1 => ?_) (fun q1 => ?_)
    · refine j_iload_n C dX8_isWord_75 rfl (n := 76) rfl ?_
      exact j_retZ C bx2 dX8_isWord_76
    · refine j_iload_n C dX8_isWord_40 rfl (n := 41) rfl ?_
      refine j_if_eq C dX8_isWord_41 (tgt := 75) (n := 44) (by decide) rfl (fun q2 => ?_) (fun q2 => ?_)
      · refine j_iload_n C dX8_isWord_75 rfl (n := 76) rfl ?_
        exact j_retZ C bx2 dX8_isWord_76
      · refine j_aload_n C dX8_isWord_44 rfl (n := 45) rfl ?_
        refine gf_X8_25 C 0 (cM_0 g _) rfl dX8_isWord_45 (n := 48) rfl ?_
        refine j_aload_n C dX8_isWord_48 rfl (n := 49) rfl ?_
        refine gf_X8_257 C 0 (cM_0 g _) rfl dX8_isWord_49 (n := 52) rfl ?_
        refine j_iload_n C dX8_isWord_52 rfl (n := 53) rfl ?_
        refine j_iadd C dX8_isWord_53 (n := 54) rfl ?_
        refine j_iald C 6 (cM_6 g _) dX8_isWord_54 (n := 55) rfl ?_
        refine j_aload_n C dX8_isWord_55 rfl (n := 56) rfl ?_
        refine j_iload_n C dX8_isWord_56 rfl (n := 57) rfl ?_
        refine j_chk (fun q3 => ?_)
        refine j_ci C (run_chr C lm_X8_272 (Nat.le_of_ble_eq_true rfl) (w := 1) (Nat.le_of_ble_eq_true rfl) q3 rfl (Nat.le_of_ble_eq_true rfl) dX8_isWord_57) (n := 60) rfl ?_
        refine j_icmp_ne C dX8_isWord_60 (tgt := 67) (n := 63) (by decide) rfl (fun q4 => ?_) (fun q4 => ?_)
        · refine j_iconst C dX8_isWord_67 ic_0 (n := 68) rfl ?_
          refine j_istore_n C dX8_isWord_68 (Nat.le_of_ble_eq_true rfl) (n := 69) rfl ?_
          refine j_iinc C dX8_isWord_69 rfl ic_1 (Nat.le_of_ble_eq_true rfl) (n := 72) rfl ?_
          refine j_goto C dX8_isWord_72 (n := 32) (by decide) ?_
          exact j_to (ih _ _ (Or.inl rfl)) ⟨rfl, ⟨rfl, ⟨rfl, ⟨rfl, trivial⟩⟩⟩⟩
        · refine j_iconst C dX8_isWord_63 ic_1 (n := 64) rfl ?_
          refine j_goto C dX8_isWord_64 (n := 68) (by decide) ?_
          refine j_istore_n C dX8_isWord_68 (Nat.le_of_ble_eq_true rfl) (n := 69) rfl ?_
          refine j_iinc C dX8_isWord_69 rfl ic_1 (Nat.le_of_ble_eq_true rfl) (n := 72) rfl ?_
          refine j_goto C dX8_isWord_72 (n := 32) (by decide) ?_
          exact j_to (ih _ _ (Or.inr rfl)) ⟨rfl, ⟨rfl, ⟨rfl, ⟨rfl, trivial⟩⟩⟩⟩
set_option maxRecDepth 20000 in
theorem m_X8_isWord_1 (l : Launch) (fu : Nat) (h : Hp) {r : Int32} (e : X8_isWord fu 1 h = some r) : CT l yX8_isWord cX8_isWord 4 (some .boolean) 4 cwM (fun g => [rf g 0, .ref (g.2.2.2.2.1 1)]) h (qZ cwM r h) := by
  refine ct_of (QR := (fun r : Int32 => qZ cwM r h)) (by decide +kernel) (fun g => ⟨rfl, Nat.le_of_ble_eq_true rfl⟩) e (fun x g hl C => ?_)
  unfold X8_isWord
  refine j_aload_n C dX8_isWord_0 rfl (n := 1) rfl ?_
  refine gf_X8_266 C 0 (cM_0 g _) rfl dX8_isWord_1 (n := 4) rfl ?_
  refine j_iconst C dX8_isWord_4 ic_1 (n := 5) rfl ?_
  refine j_icmp_ne C dX8_isWord_5 (tgt := 28) (n := 8) (by decide) rfl (fun q1 => ?_) (fun q1 => ?_)
  · refine j_iconst C dX8_isWord_28 ic_0 (n := 29) rfl ?_
    refine j_istore_n C dX8_isWord_29 (Nat.le_of_ble_eq_true rfl) (n := 30) rfl ?_
    refine j_iconst C dX8_isWord_30 ic_0 (n := 31) rfl ?_
    refine j_istore_n C dX8_isWord_31 (Nat.le_of_ble_eq_true rfl) (n := 32) rfl ?_
    exact j_to (j_X8_isWord_32_1 C _ _ _ _ _ (Or.inl rfl)) ⟨rfl, ⟨rfl, ⟨rfl, ⟨rfl, trivial⟩⟩⟩⟩
  · refine j_aload_n C dX8_isWord_8 rfl (n := 9) rfl ?_
    refine gf_X8_254 C 0 (cM_0 g _) rfl dX8_isWord_9 (n := 12) rfl ?_
    refine j_aload_n C dX8_isWord_12 rfl (n := 13) rfl ?_
    refine gf_X8_257 C 0 (cM_0 g _) rfl dX8_isWord_13 (n := 16) rfl ?_
    refine j_isub C dX8_isWord_16 (n := 17) rfl ?_
    refine j_aload_n C dX8_isWord_17 rfl (n := 18) rfl ?_
    refine j_ci C (run_len C lm_X8_269 (Nat.le_of_ble_eq_true rfl) (w := 1) (Nat.le_of_ble_eq_true rfl) rfl (Nat.le_of_ble_eq_true rfl) dX8_isWord_18) (n := 21) rfl ?_
    refine j_icmp_ne C dX8_isWord_21 (tgt := 28) (n := 24) (by decide) rfl (fun q2 => ?_) (fun q2 => ?_)
    · refine j_iconst C dX8_isWord_28 ic_0 (n := 29) rfl ?_
      refine j_istore_n C dX8_isWord_29 (Nat.le_of_ble_eq_true rfl) (n := 30) rfl ?_
      refine j_iconst C dX8_isWord_30 ic_0 (n := 31) rfl ?_
      refine j_istore_n C dX8_isWord_31 (Nat.le_of_ble_eq_true rfl) (n := 32) rfl ?_
      exact j_to (j_X8_isWord_32_1 C _ _ _ _ _ (Or.inl rfl)) ⟨rfl, ⟨rfl, ⟨rfl, ⟨rfl, trivial⟩⟩⟩⟩
    · refine j_iconst C dX8_isWord_24 ic_1 (n := 25) rfl ?_
      refine j_goto C dX8_isWord_25 (n := 29) (by decide) ?_
      refine j_istore_n C dX8_isWord_29 (Nat.le_of_ble_eq_true rfl) (n := 30) rfl ?_
      refine j_iconst C dX8_isWord_30 ic_0 (n := 31) rfl ?_
      refine j_istore_n C dX8_isWord_31 (Nat.le_of_ble_eq_true rfl) (n := 32) rfl ?_
      exact j_to (j_X8_isWord_32_1 C _ _ _ _ _ (Or.inr rfl)) ⟨rfl, ⟨rfl, ⟨rfl, ⟨rfl, trivial⟩⟩⟩⟩
-- X8_isWord
set_option maxRecDepth 20000 in
theorem j_X8_isWord_32_2 {x : Fx} {g : Gl} (C : Ok x g RX8 cX8_isWord 4 (some .boolean)) (fu : Nat) (h : Hp) : ∀ (n : Nat) (x2 : Int32) (x3 : Int32) (bx2 : x2 = 0 ∨ x2 = 1), J x g cwM 4 4 (fun r : Int32 => qZ cwM r h) 32 [some (rf g 0), some (.ref (g.2.2.2.2.1 2)), some (.int x2), some (.int x3)] [] h (X8_isWord_32 fu 2 h n x2 x3) := by
  intro n
  induction n with
  | zero =>
    intro x2 x3 bx2
    rw [X8_isWord_32]
    exact j_none
  | succ n ih =>
    intro x2 x3 bx2
    rw [X8_isWord_32]
    refine j_iload_n C dX8_isWord_32 rfl (n := 33) rfl ?_
    refine j_aload_n C dX8_isWord_33 rfl (n := 34) rfl ?_
    refine j_ci C (run_len C lm_X8_269 (Nat.le_of_ble_eq_true rfl) (w := 2) (Nat.le_of_ble_eq_true rfl) rfl (Nat.le_of_ble_eq_true rfl) dX8_isWord_34) (n := 37) rfl ?_
    refine j_icmp_ge C dX8_isWord_37 (tgt := 75) (n := 40) (by decide) rfl (fun q1 => ?_) (fun q1 => ?_)
    · refine j_iload_n C dX8_isWord_75 rfl (n := 76) rfl ?_
      exact j_retZ C bx2 dX8_isWord_76
    · refine j_iload_n C dX8_isWord_40 rfl (n := 41) rfl ?_
      refine j_if_eq C dX8_isWord_41 (tgt := 75) (n := 44) (by decide) rfl (fun q2 => ?_) (fun q2 => ?_)
      · refine j_iload_n C dX8_isWord_75 rfl (n := 76) rfl ?_
        exact j_retZ C bx2 dX8_isWord_76
      · refine j_aload_n C dX8_isWord_44 rfl (n := 45) rfl ?_
        refine gf_X8_25 C 0 (cM_0 g _) rfl dX8_isWord_45 (n := 48) rfl ?_
        refine j_aload_n C dX8_isWord_48 rfl (n := 49) rfl ?_
        refine gf_X8_257 C 0 (cM_0 g _) rfl dX8_isWord_49 (n := 52) rfl ?_
        refine j_iload_n C dX8_isWord_52 rfl (n := 53) rfl ?_
        refine j_iadd C dX8_isWord_53 (n := 54) rfl ?_
        refine j_iald C 6 (cM_6 g _) dX8_isWord_54 (n := 55) rfl ?_
        refine j_aload_n C dX8_isWord_55 rfl (n := 56) rfl ?_
        refine j_iload_n C dX8_isWord_56 rfl (n := 57) rfl ?_
        refine j_chk (fun q3 => ?_)
        refine j_ci C (run_chr C lm_X8_272 (Nat.le_of_ble_eq_true rfl) (w := 2) (Nat.le_of_ble_eq_true rfl) q3 rfl (Nat.le_of_ble_eq_true rfl) dX8_isWord_57) (n := 60) rfl ?_
        refine j_icmp_ne C dX8_isWord_60 (tgt := 67) (n := 63) (by decide) rfl (fun q4 => ?_) (fun q4 => ?_)
        · refine j_iconst C dX8_isWord_67 ic_0 (n := 68) rfl ?_
          refine j_istore_n C dX8_isWord_68 (Nat.le_of_ble_eq_true rfl) (n := 69) rfl ?_
          refine j_iinc C dX8_isWord_69 rfl ic_1 (Nat.le_of_ble_eq_true rfl) (n := 72) rfl ?_
          refine j_goto C dX8_isWord_72 (n := 32) (by decide) ?_
          exact j_to (ih _ _ (Or.inl rfl)) ⟨rfl, ⟨rfl, ⟨rfl, ⟨rfl, trivial⟩⟩⟩⟩
        · refine j_iconst C dX8_isWord_63 ic_1 (n := 64) rfl ?_
          refine j_goto C dX8_isWord_64 (n := 68) (by decide) ?_
          refine j_istore_n C dX8_isWord_68 (Nat.le_of_ble_eq_true rfl) (n := 69) rfl ?_
          refine j_iinc C dX8_isWord_69 rfl ic_1 (Nat.le_of_ble_eq_true rfl) (n := 72) rfl ?_
          refine j_goto C dX8_isWord_72 (n := 32) (by decide) ?_
          exact j_to (ih _ _ (Or.inr rfl)) ⟨rfl, ⟨rfl, ⟨rfl, ⟨rfl, trivial⟩⟩⟩⟩
set_option maxRecDepth 20000 in
theorem m_X8_isWord_2 (l : Launch) (fu : Nat) (h : Hp) {r : Int32} (e : X8_isWord fu 2 h = some r) : CT l yX8_isWord cX8_isWord 4 (some .boolean) 4 cwM (fun g => [rf g 0, .ref (g.2.2.2.2.1 2)]) h (qZ cwM r h) := by
  refine ct_of (QR := (fun r : Int32 => qZ cwM r h)) (by decide +kernel) (fun g => ⟨rfl, Nat.le_of_ble_eq_true rfl⟩) e (fun x g hl C => ?_)
  unfold X8_isWord
  refine j_aload_n C dX8_isWord_0 rfl (n := 1) rfl ?_
  refine gf_X8_266 C 0 (cM_0 g _) rfl dX8_isWord_1 (n := 4) rfl ?_
  refine j_iconst C dX8_isWord_4 ic_1 (n := 5) rfl ?_
  refine j_icmp_ne C dX8_isWord_5 (tgt := 28) (n := 8) (by decide) rfl (fun q1 => ?_) (fun q1 => ?_)
  · refine j_iconst C dX8_isWord_28 ic_0 (n := 29) rfl ?_
    refine j_istore_n C dX8_isWord_29 (Nat.le_of_ble_eq_true rfl) (n := 30) rfl ?_
    refine j_iconst C dX8_isWord_30 ic_0 (n := 31) rfl ?_
    refine j_istore_n C dX8_isWord_31 (Nat.le_of_ble_eq_true rfl) (n := 32) rfl ?_
    exact j_to (j_X8_isWord_32_2 C _ _ _ _ _ (Or.inl rfl)) ⟨rfl, ⟨rfl, ⟨rfl, ⟨rfl, trivial⟩⟩⟩⟩
  · refine j_aload_n C dX8_isWord_8 rfl (n := 9) rfl ?_
    refine gf_X8_254 C 0 (cM_0 g _) rfl dX8_isWord_9 (n := 12) rfl ?_
    refine j_aload_n C dX8_isWord_12 rfl (n := 13) rfl ?_
    refine gf_X8_257 C 0 (cM_0 g _) rfl dX8_isWord_13 (n := 16) rfl ?_
    refine j_isub C dX8_isWord_16 (n := 17) rfl ?_
    refine j_aload_n C dX8_isWord_17 rfl (n := 18) rfl ?_
    refine j_ci C (run_len C lm_X8_269 (Nat.le_of_ble_eq_true rfl) (w := 2) (Nat.le_of_ble_eq_true rfl) rfl (Nat.le_of_ble_eq_true rfl) dX8_isWord_18) (n := 21) rfl ?_
    refine j_icmp_ne C dX8_isWord_21 (tgt := 28) (n := 24) (by decide) rfl (fun q2 => ?_) (fun q2 => ?_)
    · refine j_iconst C dX8_isWord_28 ic_0 (n := 29) rfl ?_
      refine j_istore_n C dX8_isWord_29 (Nat.le_of_ble_eq_true rfl) (n := 30) rfl ?_
      refine j_iconst C dX8_isWord_30 ic_0 (n := 31) rfl ?_
      refine j_istore_n C dX8_isWord_31 (Nat.le_of_ble_eq_true rfl) (n := 32) rfl ?_
      exact j_to (j_X8_isWord_32_2 C _ _ _ _ _ (Or.inl rfl)) ⟨rfl, ⟨rfl, ⟨rfl, ⟨rfl, trivial⟩⟩⟩⟩
    · refine j_iconst C dX8_isWord_24 ic_1 (n := 25) rfl ?_
      refine j_goto C dX8_isWord_25 (n := 29) (by decide) ?_
      refine j_istore_n C dX8_isWord_29 (Nat.le_of_ble_eq_true rfl) (n := 30) rfl ?_
      refine j_iconst C dX8_isWord_30 ic_0 (n := 31) rfl ?_
      refine j_istore_n C dX8_isWord_31 (Nat.le_of_ble_eq_true rfl) (n := 32) rfl ?_
      exact j_to (j_X8_isWord_32_2 C _ _ _ _ _ (Or.inr rfl)) ⟨rfl, ⟨rfl, ⟨rfl, ⟨rfl, trivial⟩⟩⟩⟩
-- X8_isWord
set_option maxRecDepth 20000 in
theorem j_X8_isWord_32_3 {x : Fx} {g : Gl} (C : Ok x g RX8 cX8_isWord 4 (some .boolean)) (fu : Nat) (h : Hp) : ∀ (n : Nat) (x2 : Int32) (x3 : Int32) (bx2 : x2 = 0 ∨ x2 = 1), J x g cwM 4 4 (fun r : Int32 => qZ cwM r h) 32 [some (rf g 0), some (.ref (g.2.2.2.2.1 3)), some (.int x2), some (.int x3)] [] h (X8_isWord_32 fu 3 h n x2 x3) := by
  intro n
  induction n with
  | zero =>
    intro x2 x3 bx2
    rw [X8_isWord_32]
    exact j_none
  | succ n ih =>
    intro x2 x3 bx2
    rw [X8_isWord_32]
    refine j_iload_n C dX8_isWord_32 rfl (n := 33) rfl ?_
    refine j_aload_n C dX8_isWord_33 rfl (n := 34) rfl ?_
    refine j_ci C (run_len C lm_X8_269 (Nat.le_of_ble_eq_true rfl) (w := 3) (Nat.le_of_ble_eq_true rfl) rfl (Nat.le_of_ble_eq_true rfl) dX8_isWord_34) (n := 37) rfl ?_
    refine j_icmp_ge C dX8_isWord_37 (tgt := 75) (n := 40) (by decide) rfl (fun q1 => ?_) (fun q1 => ?_)
    · refine j_iload_n C dX8_isWord_75 rfl (n := 76) rfl ?_
      exact j_retZ C bx2 dX8_isWord_76
    · refine j_iload_n C dX8_isWord_40 rfl (n := 41) rfl ?_
      refine j_if_eq C dX8_isWord_41 (tgt := 75) (n := 44) (by decide) rfl (fun q2 => ?_) (fun q2 => ?_)
      · refine j_iload_n C dX8_isWord_75 rfl (n := 76) rfl ?_
        exact j_retZ C bx2 dX8_isWord_76
      · refine j_aload_n C dX8_isWord_44 rfl (n := 45) rfl ?_
        refine gf_X8_25 C 0 (cM_0 g _) rfl dX8_isWord_45 (n := 48) rfl ?_
        refine j_aload_n C dX8_isWord_48 rfl (n := 49) rfl ?_
        refine gf_X8_257 C 0 (cM_0 g _) rfl dX8_isWord_49 (n := 52) rfl ?_
        refine j_iload_n C dX8_isWord_52 rfl (n := 53) rfl ?_
        refine j_iadd C dX8_isWord_53 (n := 54) rfl ?_
        refine j_iald C 6 (cM_6 g _) dX8_isWord_54 (n := 55) rfl ?_
        refine j_aload_n C dX8_isWord_55 rfl (n := 56) rfl ?_
        refine j_iload_n C dX8_isWord_56 rfl (n := 57) rfl ?_
        refine j_chk (fun q3 => ?_)
        refine j_ci C (run_chr C lm_X8_272 (Nat.le_of_ble_eq_true rfl) (w := 3) (Nat.le_of_ble_eq_true rfl) q3 rfl (Nat.le_of_ble_eq_true rfl) dX8_isWord_57) (n := 60) rfl ?_
        refine j_icmp_ne C dX8_isWord_60 (tgt := 67) (n := 63) (by decide) rfl (fun q4 => ?_) (fun q4 => ?_)
        · refine j_iconst C dX8_isWord_67 ic_0 (n := 68) rfl ?_
          refine j_istore_n C dX8_isWord_68 (Nat.le_of_ble_eq_true rfl) (n := 69) rfl ?_
          refine j_iinc C dX8_isWord_69 rfl ic_1 (Nat.le_of_ble_eq_true rfl) (n := 72) rfl ?_
          refine j_goto C dX8_isWord_72 (n := 32) (by decide) ?_
          exact j_to (ih _ _ (Or.inl rfl)) ⟨rfl, ⟨rfl, ⟨rfl, ⟨rfl, trivial⟩⟩⟩⟩
        · refine j_iconst C dX8_isWord_63 ic_1 (n := 64) rfl ?_
          refine j_goto C dX8_isWord_64 (n := 68) (by decide) ?_
          refine j_istore_n C dX8_isWord_68 (Nat.le_of_ble_eq_true rfl) (n := 69) rfl ?_
          refine j_iinc C dX8_isWord_69 rfl ic_1 (Nat.le_of_ble_eq_true rfl) (n := 72) rfl ?_
          refine j_goto C dX8_isWord_72 (n := 32) (by decide) ?_
          exact j_to (ih _ _ (Or.inr rfl)) ⟨rfl, ⟨rfl, ⟨rfl, ⟨rfl, trivial⟩⟩⟩⟩
set_option maxRecDepth 20000 in
theorem m_X8_isWord_3 (l : Launch) (fu : Nat) (h : Hp) {r : Int32} (e : X8_isWord fu 3 h = some r) : CT l yX8_isWord cX8_isWord 4 (some .boolean) 4 cwM (fun g => [rf g 0, .ref (g.2.2.2.2.1 3)]) h (qZ cwM r h) := by
  refine ct_of (QR := (fun r : Int32 => qZ cwM r h)) (by decide +kernel) (fun g => ⟨rfl, Nat.le_of_ble_eq_true rfl⟩) e (fun x g hl C => ?_)
  unfold X8_isWord
  refine j_aload_n C dX8_isWord_0 rfl (n := 1) rfl ?_
  refine gf_X8_266 C 0 (cM_0 g _) rfl dX8_isWord_1 (n := 4) rfl ?_
  refine j_iconst C dX8_isWord_4 ic_1 (n := 5) rfl ?_
  refine j_icmp_ne C dX8_isWord_5 (tgt := 28) (n := 8) (by decide) rfl (fun q1 => ?_) (fun q1 => ?_)
  · refine j_iconst C dX8_isWord_28 ic_0 (n := 29) rfl ?_
    refine j_istore_n C dX8_isWord_29 (Nat.le_of_ble_eq_true rfl) (n := 30) rfl ?_
    refine j_iconst C dX8_isWord_30 ic_0 (n := 31) rfl ?_
    refine j_istore_n C dX8_isWord_31 (Nat.le_of_ble_eq_true rfl) (n := 32) rfl ?_
    exact j_to (j_X8_isWord_32_3 C _ _ _ _ _ (Or.inl rfl)) ⟨rfl, ⟨rfl, ⟨rfl, ⟨rfl, trivial⟩⟩⟩⟩
  · refine j_aload_n C dX8_isWord_8 rfl (n := 9) rfl ?_
    refine gf_X8_254 C 0 (cM_0 g _) rfl dX8_isWord_9 (n := 12) rfl ?_
    refine j_aload_n C dX8_isWord_12 rfl (n := 13) rfl ?_
    refine gf_X8_257 C 0 (cM_0 g _) rfl dX8_isWord_13 (n := 16) rfl ?_
    refine j_isub C dX8_isWord_16 (n := 17) rfl ?_
    refine j_aload_n C dX8_isWord_17 rfl (n := 18) rfl ?_
    refine j_ci C (run_len C lm_X8_269 (Nat.le_of_ble_eq_true rfl) (w := 3) (Nat.le_of_ble_eq_true rfl) rfl (Nat.le_of_ble_eq_true rfl) dX8_isWord_18) (n := 21) rfl ?_
    refine j_icmp_ne C dX8_isWord_21 (tgt := 28) (n := 24) (by decide) rfl (fun q2 => ?_) (fun q2 => ?_)
    · refine j_iconst C dX8_isWord_28 ic_0 (n := 29) rfl ?_
      refine j_istore_n C dX8_isWord_29 (Nat.le_of_ble_eq_true rfl) (n := 30) rfl ?_
      refine j_iconst C dX8_isWord_30 ic_0 (n := 31) rfl ?_
      refine j_istore_n C dX8_isWord_31 (Nat.le_of_ble_eq_true rfl) (n := 32) rfl ?_
      exact j_to (j_X8_isWord_32_3 C _ _ _ _ _ (Or.inl rfl)) ⟨rfl, ⟨rfl, ⟨rfl, ⟨rfl, trivial⟩⟩⟩⟩
    · refine j_iconst C dX8_isWord_24 ic_1 (n := 25) rfl ?_
      refine j_goto C dX8_isWord_25 (n := 29) (by decide) ?_
      refine j_istore_n C dX8_isWord_29 (Nat.le_of_ble_eq_true rfl) (n := 30) rfl ?_
      refine j_iconst C dX8_isWord_30 ic_0 (n := 31) rfl ?_
      refine j_istore_n C dX8_isWord_31 (Nat.le_of_ble_eq_true rfl) (n := 32) rfl ?_
      exact j_to (j_X8_isWord_32_3 C _ _ _ _ _ (Or.inr rfl)) ⟨rfl, ⟨rfl, ⟨rfl, ⟨rfl, trivial⟩⟩⟩⟩
-- X8_isWord
set_option maxRecDepth 20000 in
theorem j_X8_isWord_32_4 {x : Fx} {g : Gl} (C : Ok x g RX8 cX8_isWord 4 (some .boolean)) (fu : Nat) (h : Hp) : ∀ (n : Nat) (x2 : Int32) (x3 : Int32) (bx2 : x2 = 0 ∨ x2 = 1), J x g cwM 4 4 (fun r : Int32 => qZ cwM r h) 32 [some (rf g 0), some (.ref (g.2.2.2.2.1 4)), some (.int x2), some (.int x3)] [] h (X8_isWord_32 fu 4 h n x2 x3) := by
  intro n
  induction n with
  | zero =>
    intro x2 x3 bx2
    rw [X8_isWord_32]
    exact j_none
  | succ n ih =>
    intro x2 x3 bx2
    rw [X8_isWord_32]
    refine j_iload_n C dX8_isWord_32 rfl (n := 33) rfl ?_
    refine j_aload_n C dX8_isWord_33 rfl (n := 34) rfl ?_
    refine j_ci C (run_len C lm_X8_269 (Nat.le_of_ble_eq_true rfl) (w := 4) (Nat.le_of_ble_eq_true rfl) rfl (Nat.le_of_ble_eq_true rfl) dX8_isWord_34) (n := 37) rfl ?_
    refine j_icmp_ge C dX8_isWord_37 (tgt := 75) (n := 40) (by decide) rfl (fun q1 => ?_) (fun q1 => ?_)
    · refine j_iload_n C dX8_isWord_75 rfl (n := 76) rfl ?_
      exact j_retZ C bx2 dX8_isWord_76
    · refine j_iload_n C dX8_isWord_40 rfl (n := 41) rfl ?_
      refine j_if_eq C dX8_isWord_41 (tgt := 75) (n := 44) (by decide) rfl (fun q2 => ?_) (fun q2 => ?_)
      · refine j_iload_n C dX8_isWord_75 rfl (n := 76) rfl ?_
        exact j_retZ C bx2 dX8_isWord_76
      · refine j_aload_n C dX8_isWord_44 rfl (n := 45) rfl ?_
        refine gf_X8_25 C 0 (cM_0 g _) rfl dX8_isWord_45 (n := 48) rfl ?_
        refine j_aload_n C dX8_isWord_48 rfl (n := 49) rfl ?_
        refine gf_X8_257 C 0 (cM_0 g _) rfl dX8_isWord_49 (n := 52) rfl ?_
        refine j_iload_n C dX8_isWord_52 rfl (n := 53) rfl ?_
        refine j_iadd C dX8_isWord_53 (n := 54) rfl ?_
        refine j_iald C 6 (cM_6 g _) dX8_isWord_54 (n := 55) rfl ?_
        refine j_aload_n C dX8_isWord_55 rfl (n := 56) rfl ?_
        refine j_iload_n C dX8_isWord_56 rfl (n := 57) rfl ?_
        refine j_chk (fun q3 => ?_)
        refine j_ci C (run_chr C lm_X8_272 (Nat.le_of_ble_eq_true rfl) (w := 4) (Nat.le_of_ble_eq_true rfl) q3 rfl (Nat.le_of_ble_eq_true rfl) dX8_isWord_57) (n := 60) rfl ?_
        refine j_icmp_ne C dX8_isWord_60 (tgt := 67) (n := 63) (by decide) rfl (fun q4 => ?_) (fun q4 => ?_)
        · refine j_iconst C dX8_isWord_67 ic_0 (n := 68) rfl ?_
          refine j_istore_n C dX8_isWord_68 (Nat.le_of_ble_eq_true rfl) (n := 69) rfl ?_
          refine j_iinc C dX8_isWord_69 rfl ic_1 (Nat.le_of_ble_eq_true rfl) (n := 72) rfl ?_
          refine j_goto C dX8_isWord_72 (n := 32) (by decide) ?_
          exact j_to (ih _ _ (Or.inl rfl)) ⟨rfl, ⟨rfl, ⟨rfl, ⟨rfl, trivial⟩⟩⟩⟩
        · refine j_iconst C dX8_isWord_63 ic_1 (n := 64) rfl ?_
          refine j_goto C dX8_isWord_64 (n := 68) (by decide) ?_
          refine j_istore_n C dX8_isWord_68 (Nat.le_of_ble_eq_true rfl) (n := 69) rfl ?_
          refine j_iinc C dX8_isWord_69 rfl ic_1 (Nat.le_of_ble_eq_true rfl) (n := 72) rfl ?_
          refine j_goto C dX8_isWord_72 (n := 32) (by decide) ?_
          exact j_to (ih _ _ (Or.inr rfl)) ⟨rfl, ⟨rfl, ⟨rfl, ⟨rfl, trivial⟩⟩⟩⟩
set_option maxRecDepth 20000 in
theorem m_X8_isWord_4 (l : Launch) (fu : Nat) (h : Hp) {r : Int32} (e : X8_isWord fu 4 h = some r) : CT l yX8_isWord cX8_isWord 4 (some .boolean) 4 cwM (fun g => [rf g 0, .ref (g.2.2.2.2.1 4)]) h (qZ cwM r h) := by
  refine ct_of (QR := (fun r : Int32 => qZ cwM r h)) (by decide +kernel) (fun g => ⟨rfl, Nat.le_of_ble_eq_true rfl⟩) e (fun x g hl C => ?_)
  unfold X8_isWord
  refine j_aload_n C dX8_isWord_0 rfl (n := 1) rfl ?_
  refine gf_X8_266 C 0 (cM_0 g _) rfl dX8_isWord_1 (n := 4) rfl ?_
  refine j_iconst C dX8_isWord_4 ic_1 (n := 5) rfl ?_
  refine j_icmp_ne C dX8_isWord_5 (tgt := 28) (n := 8) (by decide) rfl (fun q1 => ?_) (fun q1 => ?_)
  · refine j_iconst C dX8_isWord_28 ic_0 (n := 29) rfl ?_
    refine j_istore_n C dX8_isWord_29 (Nat.le_of_ble_eq_true rfl) (n := 30) rfl ?_
    refine j_iconst C dX8_isWord_30 ic_0 (n := 31) rfl ?_
    refine j_istore_n C dX8_isWord_31 (Nat.le_of_ble_eq_true rfl) (n := 32) rfl ?_
    exact j_to (j_X8_isWord_32_4 C _ _ _ _ _ (Or.inl rfl)) ⟨rfl, ⟨rfl, ⟨rfl, ⟨rfl, trivial⟩⟩⟩⟩
  · refine j_aload_n C dX8_isWord_8 rfl (n := 9) rfl ?_
    refine gf_X8_254 C 0 (cM_0 g _) rfl dX8_isWord_9 (n := 12) rfl ?_
    refine j_aload_n C dX8_isWord_12 rfl (n := 13) rfl ?_
    refine gf_X8_257 C 0 (cM_0 g _) rfl dX8_isWord_13 (n := 16) rfl ?_
    refine j_isub C dX8_isWord_16 (n := 17) rfl ?_
    refine j_aload_n C dX8_isWord_17 rfl (n := 18) rfl ?_
    refine j_ci C (run_len C lm_X8_269 (Nat.le_of_ble_eq_true rfl) (w := 4) (Nat.le_of_ble_eq_true rfl) rfl (Nat.le_of_ble_eq_true rfl) dX8_isWord_18) (n := 21) rfl ?_
    refine j_icmp_ne C dX8_isWord_21 (tgt := 28) (n := 24) (by decide) rfl (fun q2 => ?_) (fun q2 => ?_)
    · refine j_iconst C dX8_isWord_28 ic_0 (n := 29) rfl ?_
      refine j_istore_n C dX8_isWord_29 (Nat.le_of_ble_eq_true rfl) (n := 30) rfl ?_
      refine j_iconst C dX8_isWord_30 ic_0 (n := 31) rfl ?_
      refine j_istore_n C dX8_isWord_31 (Nat.le_of_ble_eq_true rfl) (n := 32) rfl ?_
      exact j_to (j_X8_isWord_32_4 C _ _ _ _ _ (Or.inl rfl)) ⟨rfl, ⟨rfl, ⟨rfl, ⟨rfl, trivial⟩⟩⟩⟩
    · refine j_iconst C dX8_isWord_24 ic_1 (n := 25) rfl ?_
      refine j_goto C dX8_isWord_25 (n := 29) (by decide) ?_
      refine j_istore_n C dX8_isWord_29 (Nat.le_of_ble_eq_true rfl) (n := 30) rfl ?_
      refine j_iconst C dX8_isWord_30 ic_0 (n := 31) rfl ?_
      refine j_istore_n C dX8_isWord_31 (Nat.le_of_ble_eq_true rfl) (n := 32) rfl ?_
      exact j_to (j_X8_isWord_32_4 C _ _ _ _ _ (Or.inr rfl)) ⟨rfl, ⟨rfl, ⟨rfl, ⟨rfl, trivial⟩⟩⟩⟩
-- X8_isWord
set_option maxRecDepth 20000 in
theorem j_X8_isWord_32_5 {x : Fx} {g : Gl} (C : Ok x g RX8 cX8_isWord 4 (some .boolean)) (fu : Nat) (h : Hp) : ∀ (n : Nat) (x2 : Int32) (x3 : Int32) (bx2 : x2 = 0 ∨ x2 = 1), J x g cwM 4 4 (fun r : Int32 => qZ cwM r h) 32 [some (rf g 0), some (.ref (g.2.2.2.2.1 5)), some (.int x2), some (.int x3)] [] h (X8_isWord_32 fu 5 h n x2 x3) := by
  intro n
  induction n with
  | zero =>
    intro x2 x3 bx2
    rw [X8_isWord_32]
    exact j_none
  | succ n ih =>
    intro x2 x3 bx2
    rw [X8_isWord_32]
    refine j_iload_n C dX8_isWord_32 rfl (n := 33) rfl ?_
    refine j_aload_n C dX8_isWord_33 rfl (n := 34) rfl ?_
    refine j_ci C (run_len C lm_X8_269 (Nat.le_of_ble_eq_true rfl) (w := 5) (Nat.le_of_ble_eq_true rfl) rfl (Nat.le_of_ble_eq_true rfl) dX8_isWord_34) (n := 37) rfl ?_
    refine j_icmp_ge C dX8_isWord_37 (tgt := 75) (n := 40) (by decide) rfl (fun q1 => ?_) (fun q1 => ?_)
    · refine j_iload_n C dX8_isWord_75 rfl (n := 76) rfl ?_
      exact j_retZ C bx2 dX8_isWord_76
    · refine j_iload_n C dX8_isWord_40 rfl (n := 41) rfl ?_
      refine j_if_eq C dX8_isWord_41 (tgt := 75) (n := 44) (by decide) rfl (fun q2 => ?_) (fun q2 => ?_)
      · refine j_iload_n C dX8_isWord_75 rfl (n := 76) rfl ?_
        exact j_retZ C bx2 dX8_isWord_76
      · refine j_aload_n C dX8_isWord_44 rfl (n := 45) rfl ?_
        refine gf_X8_25 C 0 (cM_0 g _) rfl dX8_isWord_45 (n := 48) rfl ?_
        refine j_aload_n C dX8_isWord_48 rfl (n := 49) rfl ?_
        refine gf_X8_257 C 0 (cM_0 g _) rfl dX8_isWord_49 (n := 52) rfl ?_
        refine j_iload_n C dX8_isWord_52 rfl (n := 53) rfl ?_
        refine j_iadd C dX8_isWord_53 (n := 54) rfl ?_
        refine j_iald C 6 (cM_6 g _) dX8_isWord_54 (n := 55) rfl ?_
        refine j_aload_n C dX8_isWord_55 rfl (n := 56) rfl ?_
        refine j_iload_n C dX8_isWord_56 rfl (n := 57) rfl ?_
        refine j_chk (fun q3 => ?_)
        refine j_ci C (run_chr C lm_X8_272 (Nat.le_of_ble_eq_true rfl) (w := 5) (Nat.le_of_ble_eq_true rfl) q3 rfl (Nat.le_of_ble_eq_true rfl) dX8_isWord_57) (n := 60) rfl ?_
        refine j_icmp_ne C dX8_isWord_60 (tgt := 67) (n := 63) (by decide) rfl (fun q4 => ?_) (fun q4 => ?_)
        · refine j_iconst C dX8_isWord_67 ic_0 (n := 68) rfl ?_
          refine j_istore_n C dX8_isWord_68 (Nat.le_of_ble_eq_true rfl) (n := 69) rfl ?_
          refine j_iinc C dX8_isWord_69 rfl ic_1 (Nat.le_of_ble_eq_true rfl) (n := 72) rfl ?_
          refine j_goto C dX8_isWord_72 (n := 32) (by decide) ?_
          exact j_to (ih _ _ (Or.inl rfl)) ⟨rfl, ⟨rfl, ⟨rfl, ⟨rfl, trivial⟩⟩⟩⟩
        · refine j_iconst C dX8_isWord_63 ic_1 (n := 64) rfl ?_
          refine j_goto C dX8_isWord_64 (n := 68) (by decide) ?_
          refine j_istore_n C dX8_isWord_68 (Nat.le_of_ble_eq_true rfl) (n := 69) rfl ?_
          refine j_iinc C dX8_isWord_69 rfl ic_1 (Nat.le_of_ble_eq_true rfl) (n := 72) rfl ?_
          refine j_goto C dX8_isWord_72 (n := 32) (by decide) ?_
          exact j_to (ih _ _ (Or.inr rfl)) ⟨rfl, ⟨rfl, ⟨rfl, ⟨rfl, trivial⟩⟩⟩⟩
set_option maxRecDepth 20000 in
theorem m_X8_isWord_5 (l : Launch) (fu : Nat) (h : Hp) {r : Int32} (e : X8_isWord fu 5 h = some r) : CT l yX8_isWord cX8_isWord 4 (some .boolean) 4 cwM (fun g => [rf g 0, .ref (g.2.2.2.2.1 5)]) h (qZ cwM r h) := by
  refine ct_of (QR := (fun r : Int32 => qZ cwM r h)) (by decide +kernel) (fun g => ⟨rfl, Nat.le_of_ble_eq_true rfl⟩) e (fun x g hl C => ?_)
  unfold X8_isWord
  refine j_aload_n C dX8_isWord_0 rfl (n := 1) rfl ?_
  refine gf_X8_266 C 0 (cM_0 g _) rfl dX8_isWord_1 (n := 4) rfl ?_
  refine j_iconst C dX8_isWord_4 ic_1 (n := 5) rfl ?_
  refine j_icmp_ne C dX8_isWord_5 (tgt := 28) (n := 8) (by decide) rfl (fun q1 => ?_) (fun q1 => ?_)
  · refine j_iconst C dX8_isWord_28 ic_0 (n := 29) rfl ?_
    refine j_istore_n C dX8_isWord_29 (Nat.le_of_ble_eq_true rfl) (n := 30) rfl ?_
    refine j_iconst C dX8_isWord_30 ic_0 (n := 31) rfl ?_
    refine j_istore_n C dX8_isWord_31 (Nat.le_of_ble_eq_true rfl) (n := 32) rfl ?_
    exact j_to (j_X8_isWord_32_5 C _ _ _ _ _ (Or.inl rfl)) ⟨rfl, ⟨rfl, ⟨rfl, ⟨rfl, trivial⟩⟩⟩⟩
  · refine j_aload_n C dX8_isWord_8 rfl (n := 9) rfl ?_
    refine gf_X8_254 C 0 (cM_0 g _) rfl dX8_isWord_9 (n := 12) rfl ?_
    refine j_aload_n C dX8_isWord_12 rfl (n := 13) rfl ?_
    refine gf_X8_257 C 0 (cM_0 g _) rfl dX8_isWord_13 (n := 16) rfl ?_
    refine j_isub C dX8_isWord_16 (n := 17) rfl ?_
    refine j_aload_n C dX8_isWord_17 rfl (n := 18) rfl ?_
    refine j_ci C (run_len C lm_X8_269 (Nat.le_of_ble_eq_true rfl) (w := 5) (Nat.le_of_ble_eq_true rfl) rfl (Nat.le_of_ble_eq_true rfl) dX8_isWord_18) (n := 21) rfl ?_
    refine j_icmp_ne C dX8_isWord_21 (tgt := 28) (n := 24) (by decide) rfl (fun q2 => ?_) (fun q2 => ?_)
    · refine j_iconst C dX8_isWord_28 ic_0 (n := 29) rfl ?_
      refine j_istore_n C dX8_isWord_29 (Nat.le_of_ble_eq_true rfl) (n := 30) rfl ?_
      refine j_iconst C dX8_isWord_30 ic_0 (n := 31) rfl ?_
      refine j_istore_n C dX8_isWord_31 (Nat.le_of_ble_eq_true rfl) (n := 32) rfl ?_
      exact j_to (j_X8_isWord_32_5 C _ _ _ _ _ (Or.inl rfl)) ⟨rfl, ⟨rfl, ⟨rfl, ⟨rfl, trivial⟩⟩⟩⟩
    · refine j_iconst C dX8_isWord_24 ic_1 (n := 25) rfl ?_
      refine j_goto C dX8_isWord_25 (n := 29) (by decide) ?_
      refine j_istore_n C dX8_isWord_29 (Nat.le_of_ble_eq_true rfl) (n := 30) rfl ?_
      refine j_iconst C dX8_isWord_30 ic_0 (n := 31) rfl ?_
      refine j_istore_n C dX8_isWord_31 (Nat.le_of_ble_eq_true rfl) (n := 32) rfl ?_
      exact j_to (j_X8_isWord_32_5 C _ _ _ _ _ (Or.inr rfl)) ⟨rfl, ⟨rfl, ⟨rfl, ⟨rfl, trivial⟩⟩⟩⟩
-- X8_isWord
set_option maxRecDepth 20000 in
theorem j_X8_isWord_32_6 {x : Fx} {g : Gl} (C : Ok x g RX8 cX8_isWord 4 (some .boolean)) (fu : Nat) (h : Hp) : ∀ (n : Nat) (x2 : Int32) (x3 : Int32) (bx2 : x2 = 0 ∨ x2 = 1), J x g cwM 4 4 (fun r : Int32 => qZ cwM r h) 32 [some (rf g 0), some (.ref (g.2.2.2.2.1 6)), some (.int x2), some (.int x3)] [] h (X8_isWord_32 fu 6 h n x2 x3) := by
  intro n
  induction n with
  | zero =>
    intro x2 x3 bx2
    rw [X8_isWord_32]
    exact j_none
  | succ n ih =>
    intro x2 x3 bx2
    rw [X8_isWord_32]
    refine j_iload_n C dX8_isWord_32 rfl (n := 33) rfl ?_
    refine j_aload_n C dX8_isWord_33 rfl (n := 34) rfl ?_
    refine j_ci C (run_len C lm_X8_269 (Nat.le_of_ble_eq_true rfl) (w := 6) (Nat.le_of_ble_eq_true rfl) rfl (Nat.le_of_ble_eq_true rfl) dX8_isWord_34) (n := 37) rfl ?_
    refine j_icmp_ge C dX8_isWord_37 (tgt := 75) (n := 40) (by decide) rfl (fun q1 => ?_) (fun q1 => ?_)
    · refine j_iload_n C dX8_isWord_75 rfl (n := 76) rfl ?_
      exact j_retZ C bx2 dX8_isWord_76
    · refine j_iload_n C dX8_isWord_40 rfl (n := 41) rfl ?_
      refine j_if_eq C dX8_isWord_41 (tgt := 75) (n := 44) (by decide) rfl (fun q2 => ?_) (fun q2 => ?_)
      · refine j_iload_n C dX8_isWord_75 rfl (n := 76) rfl ?_
        exact j_retZ C bx2 dX8_isWord_76
      · refine j_aload_n C dX8_isWord_44 rfl (n := 45) rfl ?_
        refine gf_X8_25 C 0 (cM_0 g _) rfl dX8_isWord_45 (n := 48) rfl ?_
        refine j_aload_n C dX8_isWord_48 rfl (n := 49) rfl ?_
        refine gf_X8_257 C 0 (cM_0 g _) rfl dX8_isWord_49 (n := 52) rfl ?_
        refine j_iload_n C dX8_isWord_52 rfl (n := 53) rfl ?_
        refine j_iadd C dX8_isWord_53 (n := 54) rfl ?_
        refine j_iald C 6 (cM_6 g _) dX8_isWord_54 (n := 55) rfl ?_
        refine j_aload_n C dX8_isWord_55 rfl (n := 56) rfl ?_
        refine j_iload_n C dX8_isWord_56 rfl (n := 57) rfl ?_
        refine j_chk (fun q3 => ?_)
        refine j_ci C (run_chr C lm_X8_272 (Nat.le_of_ble_eq_true rfl) (w := 6) (Nat.le_of_ble_eq_true rfl) q3 rfl (Nat.le_of_ble_eq_true rfl) dX8_isWord_57) (n := 60) rfl ?_
        refine j_icmp_ne C dX8_isWord_60 (tgt := 67) (n := 63) (by decide) rfl (fun q4 => ?_) (fun q4 => ?_)
        · refine j_iconst C dX8_isWord_67 ic_0 (n := 68) rfl ?_
          refine j_istore_n C dX8_isWord_68 (Nat.le_of_ble_eq_true rfl) (n := 69) rfl ?_
          refine j_iinc C dX8_isWord_69 rfl ic_1 (Nat.le_of_ble_eq_true rfl) (n := 72) rfl ?_
          refine j_goto C dX8_isWord_72 (n := 32) (by decide) ?_
          exact j_to (ih _ _ (Or.inl rfl)) ⟨rfl, ⟨rfl, ⟨rfl, ⟨rfl, trivial⟩⟩⟩⟩
        · refine j_iconst C dX8_isWord_63 ic_1 (n := 64) rfl ?_
          refine j_goto C dX8_isWord_64 (n := 68) (by decide) ?_
          refine j_istore_n C dX8_isWord_68 (Nat.le_of_ble_eq_true rfl) (n := 69) rfl ?_
          refine j_iinc C dX8_isWord_69 rfl ic_1 (Nat.le_of_ble_eq_true rfl) (n := 72) rfl ?_
          refine j_goto C dX8_isWord_72 (n := 32) (by decide) ?_
          exact j_to (ih _ _ (Or.inr rfl)) ⟨rfl, ⟨rfl, ⟨rfl, ⟨rfl, trivial⟩⟩⟩⟩
set_option maxRecDepth 20000 in
theorem m_X8_isWord_6 (l : Launch) (fu : Nat) (h : Hp) {r : Int32} (e : X8_isWord fu 6 h = some r) : CT l yX8_isWord cX8_isWord 4 (some .boolean) 4 cwM (fun g => [rf g 0, .ref (g.2.2.2.2.1 6)]) h (qZ cwM r h) := by
  refine ct_of (QR := (fun r : Int32 => qZ cwM r h)) (by decide +kernel) (fun g => ⟨rfl, Nat.le_of_ble_eq_true rfl⟩) e (fun x g hl C => ?_)
  unfold X8_isWord
  refine j_aload_n C dX8_isWord_0 rfl (n := 1) rfl ?_
  refine gf_X8_266 C 0 (cM_0 g _) rfl dX8_isWord_1 (n := 4) rfl ?_
  refine j_iconst C dX8_isWord_4 ic_1 (n := 5) rfl ?_
  refine j_icmp_ne C dX8_isWord_5 (tgt := 28) (n := 8) (by decide) rfl (fun q1 => ?_) (fun q1 => ?_)
  · refine j_iconst C dX8_isWord_28 ic_0 (n := 29) rfl ?_
    refine j_istore_n C dX8_isWord_29 (Nat.le_of_ble_eq_true rfl) (n := 30) rfl ?_
    refine j_iconst C dX8_isWord_30 ic_0 (n := 31) rfl ?_
    refine j_istore_n C dX8_isWord_31 (Nat.le_of_ble_eq_true rfl) (n := 32) rfl ?_
    exact j_to (j_X8_isWord_32_6 C _ _ _ _ _ (Or.inl rfl)) ⟨rfl, ⟨rfl, ⟨rfl, ⟨rfl, trivial⟩⟩⟩⟩
  · refine j_aload_n C dX8_isWord_8 rfl (n := 9) rfl ?_
    refine gf_X8_254 C 0 (cM_0 g _) rfl dX8_isWord_9 (n := 12) rfl ?_
    refine j_aload_n C dX8_isWord_12 rfl (n := 13) rfl ?_
    refine gf_X8_257 C 0 (cM_0 g _) rfl dX8_isWord_13 (n := 16) rfl ?_
    refine j_isub C dX8_isWord_16 (n := 17) rfl ?_
    refine j_aload_n C dX8_isWord_17 rfl (n := 18) rfl ?_
    refine j_ci C (run_len C lm_X8_269 (Nat.le_of_ble_eq_true rfl) (w := 6) (Nat.le_of_ble_eq_true rfl) rfl (Nat.le_of_ble_eq_true rfl) dX8_isWord_18) (n := 21) rfl ?_
    refine j_icmp_ne C dX8_isWord_21 (tgt := 28) (n := 24) (by decide) rfl (fun q2 => ?_) (fun q2 => ?_)
    · refine j_iconst C dX8_isWord_28 ic_0 (n := 29) rfl ?_
      refine j_istore_n C dX8_isWord_29 (Nat.le_of_ble_eq_true rfl) (n := 30) rfl ?_
      refine j_iconst C dX8_isWord_30 ic_0 (n := 31) rfl ?_
      refine j_istore_n C dX8_isWord_31 (Nat.le_of_ble_eq_true rfl) (n := 32) rfl ?_
      exact j_to (j_X8_isWord_32_6 C _ _ _ _ _ (Or.inl rfl)) ⟨rfl, ⟨rfl, ⟨rfl, ⟨rfl, trivial⟩⟩⟩⟩
    · refine j_iconst C dX8_isWord_24 ic_1 (n := 25) rfl ?_
      refine j_goto C dX8_isWord_25 (n := 29) (by decide) ?_
      refine j_istore_n C dX8_isWord_29 (Nat.le_of_ble_eq_true rfl) (n := 30) rfl ?_
      refine j_iconst C dX8_isWord_30 ic_0 (n := 31) rfl ?_
      refine j_istore_n C dX8_isWord_31 (Nat.le_of_ble_eq_true rfl) (n := 32) rfl ?_
      exact j_to (j_X8_isWord_32_6 C _ _ _ _ _ (Or.inr rfl)) ⟨rfl, ⟨rfl, ⟨rfl, ⟨rfl, trivial⟩⟩⟩⟩
-- X8_isWord
set_option maxRecDepth 20000 in
theorem j_X8_isWord_32_10 {x : Fx} {g : Gl} (C : Ok x g RX8 cX8_isWord 4 (some .boolean)) (fu : Nat) (h : Hp) : ∀ (n : Nat) (x2 : Int32) (x3 : Int32) (bx2 : x2 = 0 ∨ x2 = 1), J x g cwM 4 4 (fun r : Int32 => qZ cwM r h) 32 [some (rf g 0), some (.ref (g.2.2.2.2.1 10)), some (.int x2), some (.int x3)] [] h (X8_isWord_32 fu 10 h n x2 x3) := by
  intro n
  induction n with
  | zero =>
    intro x2 x3 bx2
    rw [X8_isWord_32]
    exact j_none
  | succ n ih =>
    intro x2 x3 bx2
    rw [X8_isWord_32]
    refine j_iload_n C dX8_isWord_32 rfl (n := 33) rfl ?_
    refine j_aload_n C dX8_isWord_33 rfl (n := 34) rfl ?_
    refine j_ci C (run_len C lm_X8_269 (Nat.le_of_ble_eq_true rfl) (w := 10) (Nat.le_of_ble_eq_true rfl) rfl (Nat.le_of_ble_eq_true rfl) dX8_isWord_34) (n := 37) rfl ?_
    refine j_icmp_ge C dX8_isWord_37 (tgt := 75) (n := 40) (by decide) rfl (fun q1 => ?_) (fun q1 => ?_)
    · refine j_iload_n C dX8_isWord_75 rfl (n := 76) rfl ?_
      exact j_retZ C bx2 dX8_isWord_76
    · refine j_iload_n C dX8_isWord_40 rfl (n := 41) rfl ?_
      refine j_if_eq C dX8_isWord_41 (tgt := 75) (n := 44) (by decide) rfl (fun q2 => ?_) (fun q2 => ?_)
      · refine j_iload_n C dX8_isWord_75 rfl (n := 76) rfl ?_
        exact j_retZ C bx2 dX8_isWord_76
      · refine j_aload_n C dX8_isWord_44 rfl (n := 45) rfl ?_
        refine gf_X8_25 C 0 (cM_0 g _) rfl dX8_isWord_45 (n := 48) rfl ?_
        refine j_aload_n C dX8_isWord_48 rfl (n := 49) rfl ?_
        refine gf_X8_257 C 0 (cM_0 g _) rfl dX8_isWord_49 (n := 52) rfl ?_
        refine j_iload_n C dX8_isWord_52 rfl (n := 53) rfl ?_
        refine j_iadd C dX8_isWord_53 (n := 54) rfl ?_
        refine j_iald C 6 (cM_6 g _) dX8_isWord_54 (n := 55) rfl ?_
        refine j_aload_n C dX8_isWord_55 rfl (n := 56) rfl ?_
        refine j_iload_n C dX8_isWord_56 rfl (n := 57) rfl ?_
        refine j_chk (fun q3 => ?_)
        refine j_ci C (run_chr C lm_X8_272 (Nat.le_of_ble_eq_true rfl) (w := 10) (Nat.le_of_ble_eq_true rfl) q3 rfl (Nat.le_of_ble_eq_true rfl) dX8_isWord_57) (n := 60) rfl ?_
        refine j_icmp_ne C dX8_isWord_60 (tgt := 67) (n := 63) (by decide) rfl (fun q4 => ?_) (fun q4 => ?_)
        · refine j_iconst C dX8_isWord_67 ic_0 (n := 68) rfl ?_
          refine j_istore_n C dX8_isWord_68 (Nat.le_of_ble_eq_true rfl) (n := 69) rfl ?_
          refine j_iinc C dX8_isWord_69 rfl ic_1 (Nat.le_of_ble_eq_true rfl) (n := 72) rfl ?_
          refine j_goto C dX8_isWord_72 (n := 32) (by decide) ?_
          exact j_to (ih _ _ (Or.inl rfl)) ⟨rfl, ⟨rfl, ⟨rfl, ⟨rfl, trivial⟩⟩⟩⟩
        · refine j_iconst C dX8_isWord_63 ic_1 (n := 64) rfl ?_
          refine j_goto C dX8_isWord_64 (n := 68) (by decide) ?_
          refine j_istore_n C dX8_isWord_68 (Nat.le_of_ble_eq_true rfl) (n := 69) rfl ?_
          refine j_iinc C dX8_isWord_69 rfl ic_1 (Nat.le_of_ble_eq_true rfl) (n := 72) rfl ?_
          refine j_goto C dX8_isWord_72 (n := 32) (by decide) ?_
          exact j_to (ih _ _ (Or.inr rfl)) ⟨rfl, ⟨rfl, ⟨rfl, ⟨rfl, trivial⟩⟩⟩⟩
set_option maxRecDepth 20000 in
theorem m_X8_isWord_10 (l : Launch) (fu : Nat) (h : Hp) {r : Int32} (e : X8_isWord fu 10 h = some r) : CT l yX8_isWord cX8_isWord 4 (some .boolean) 4 cwM (fun g => [rf g 0, .ref (g.2.2.2.2.1 10)]) h (qZ cwM r h) := by
  refine ct_of (QR := (fun r : Int32 => qZ cwM r h)) (by decide +kernel) (fun g => ⟨rfl, Nat.le_of_ble_eq_true rfl⟩) e (fun x g hl C => ?_)
  unfold X8_isWord
  refine j_aload_n C dX8_isWord_0 rfl (n := 1) rfl ?_
  refine gf_X8_266 C 0 (cM_0 g _) rfl dX8_isWord_1 (n := 4) rfl ?_
  refine j_iconst C dX8_isWord_4 ic_1 (n := 5) rfl ?_
  refine j_icmp_ne C dX8_isWord_5 (tgt := 28) (n := 8) (by decide) rfl (fun q1 => ?_) (fun q1 => ?_)
  · refine j_iconst C dX8_isWord_28 ic_0 (n := 29) rfl ?_
    refine j_istore_n C dX8_isWord_29 (Nat.le_of_ble_eq_true rfl) (n := 30) rfl ?_
    refine j_iconst C dX8_isWord_30 ic_0 (n := 31) rfl ?_
    refine j_istore_n C dX8_isWord_31 (Nat.le_of_ble_eq_true rfl) (n := 32) rfl ?_
    exact j_to (j_X8_isWord_32_10 C _ _ _ _ _ (Or.inl rfl)) ⟨rfl, ⟨rfl, ⟨rfl, ⟨rfl, trivial⟩⟩⟩⟩
  · refine j_aload_n C dX8_isWord_8 rfl (n := 9) rfl ?_
    refine gf_X8_254 C 0 (cM_0 g _) rfl dX8_isWord_9 (n := 12) rfl ?_
    refine j_aload_n C dX8_isWord_12 rfl (n := 13) rfl ?_
    refine gf_X8_257 C 0 (cM_0 g _) rfl dX8_isWord_13 (n := 16) rfl ?_
    refine j_isub C dX8_isWord_16 (n := 17) rfl ?_
    refine j_aload_n C dX8_isWord_17 rfl (n := 18) rfl ?_
    refine j_ci C (run_len C lm_X8_269 (Nat.le_of_ble_eq_true rfl) (w := 10) (Nat.le_of_ble_eq_true rfl) rfl (Nat.le_of_ble_eq_true rfl) dX8_isWord_18) (n := 21) rfl ?_
    refine j_icmp_ne C dX8_isWord_21 (tgt := 28) (n := 24) (by decide) rfl (fun q2 => ?_) (fun q2 => ?_)
    · refine j_iconst C dX8_isWord_28 ic_0 (n := 29) rfl ?_
      refine j_istore_n C dX8_isWord_29 (Nat.le_of_ble_eq_true rfl) (n := 30) rfl ?_
      refine j_iconst C dX8_isWord_30 ic_0 (n := 31) rfl ?_
      refine j_istore_n C dX8_isWord_31 (Nat.le_of_ble_eq_true rfl) (n := 32) rfl ?_
      exact j_to (j_X8_isWord_32_10 C _ _ _ _ _ (Or.inl rfl)) ⟨rfl, ⟨rfl, ⟨rfl, ⟨rfl, trivial⟩⟩⟩⟩
    · refine j_iconst C dX8_isWord_24 ic_1 (n := 25) rfl ?_
      refine j_goto C dX8_isWord_25 (n := 29) (by decide) ?_
      refine j_istore_n C dX8_isWord_29 (Nat.le_of_ble_eq_true rfl) (n := 30) rfl ?_
      refine j_iconst C dX8_isWord_30 ic_0 (n := 31) rfl ?_
      refine j_istore_n C dX8_isWord_31 (Nat.le_of_ble_eq_true rfl) (n := 32) rfl ?_
      exact j_to (j_X8_isWord_32_10 C _ _ _ _ _ (Or.inr rfl)) ⟨rfl, ⟨rfl, ⟨rfl, ⟨rfl, trivial⟩⟩⟩⟩
-- X8_isWord
set_option maxRecDepth 20000 in
theorem j_X8_isWord_32_12 {x : Fx} {g : Gl} (C : Ok x g RX8 cX8_isWord 4 (some .boolean)) (fu : Nat) (h : Hp) : ∀ (n : Nat) (x2 : Int32) (x3 : Int32) (bx2 : x2 = 0 ∨ x2 = 1), J x g cwM 4 4 (fun r : Int32 => qZ cwM r h) 32 [some (rf g 0), some (.ref (g.2.2.2.2.1 12)), some (.int x2), some (.int x3)] [] h (X8_isWord_32 fu 12 h n x2 x3) := by
  intro n
  induction n with
  | zero =>
    intro x2 x3 bx2
    rw [X8_isWord_32]
    exact j_none
  | succ n ih =>
    intro x2 x3 bx2
    rw [X8_isWord_32]
    refine j_iload_n C dX8_isWord_32 rfl (n := 33) rfl ?_
    refine j_aload_n C dX8_isWord_33 rfl (n := 34) rfl ?_
    refine j_ci C (run_len C lm_X8_269 (Nat.le_of_ble_eq_true rfl) (w := 12) (Nat.le_of_ble_eq_true rfl) rfl (Nat.le_of_ble_eq_true rfl) dX8_isWord_34) (n := 37) rfl ?_
    refine j_icmp_ge C dX8_isWord_37 (tgt := 75) (n := 40) (by decide) rfl (fun q1 => ?_) (fun q1 => ?_)
    · refine j_iload_n C dX8_isWord_75 rfl (n := 76) rfl ?_
      exact j_retZ C bx2 dX8_isWord_76
    · refine j_iload_n C dX8_isWord_40 rfl (n := 41) rfl ?_
      refine j_if_eq C dX8_isWord_41 (tgt := 75) (n := 44) (by decide) rfl (fun q2 => ?_) (fun q2 => ?_)
      · refine j_iload_n C dX8_isWord_75 rfl (n := 76) rfl ?_
        exact j_retZ C bx2 dX8_isWord_76
      · refine j_aload_n C dX8_isWord_44 rfl (n := 45) rfl ?_
        refine gf_X8_25 C 0 (cM_0 g _) rfl dX8_isWord_45 (n := 48) rfl ?_
        refine j_aload_n C dX8_isWord_48 rfl (n := 49) rfl ?_
        refine gf_X8_257 C 0 (cM_0 g _) rfl dX8_isWord_49 (n := 52) rfl ?_
        refine j_iload_n C dX8_isWord_52 rfl (n := 53) rfl ?_
        refine j_iadd C dX8_isWord_53 (n := 54) rfl ?_
        refine j_iald C 6 (cM_6 g _) dX8_isWord_54 (n := 55) rfl ?_
        refine j_aload_n C dX8_isWord_55 rfl (n := 56) rfl ?_
        refine j_iload_n C dX8_isWord_56 rfl (n := 57) rfl ?_
        refine j_chk (fun q3 => ?_)
        refine j_ci C (run_chr C lm_X8_272 (Nat.le_of_ble_eq_true rfl) (w := 12) (Nat.le_of_ble_eq_true rfl) q3 rfl (Nat.le_of_ble_eq_true rfl) dX8_isWord_57) (n := 60) rfl ?_
        refine j_icmp_ne C dX8_isWord_60 (tgt := 67) (n := 63) (by decide) rfl (fun q4 => ?_) (fun q4 => ?_)
        · refine j_iconst C dX8_isWord_67 ic_0 (n := 68) rfl ?_
          refine j_istore_n C dX8_isWord_68 (Nat.le_of_ble_eq_true rfl) (n := 69) rfl ?_
          refine j_iinc C dX8_isWord_69 rfl ic_1 (Nat.le_of_ble_eq_true rfl) (n := 72) rfl ?_
          refine j_goto C dX8_isWord_72 (n := 32) (by decide) ?_
          exact j_to (ih _ _ (Or.inl rfl)) ⟨rfl, ⟨rfl, ⟨rfl, ⟨rfl, trivial⟩⟩⟩⟩
        · refine j_iconst C dX8_isWord_63 ic_1 (n := 64) rfl ?_
          refine j_goto C dX8_isWord_64 (n := 68) (by decide) ?_
          refine j_istore_n C dX8_isWord_68 (Nat.le_of_ble_eq_true rfl) (n := 69) rfl ?_
          refine j_iinc C dX8_isWord_69 rfl ic_1 (Nat.le_of_ble_eq_true rfl) (n := 72) rfl ?_
          refine j_goto C dX8_isWord_72 (n := 32) (by decide) ?_
          exact j_to (ih _ _ (Or.inr rfl)) ⟨rfl, ⟨rfl, ⟨rfl, ⟨rfl, trivial⟩⟩⟩⟩
set_option maxRecDepth 20000 in
theorem m_X8_isWord_12 (l : Launch) (fu : Nat) (h : Hp) {r : Int32} (e : X8_isWord fu 12 h = some r) : CT l yX8_isWord cX8_isWord 4 (some .boolean) 4 cwM (fun g => [rf g 0, .ref (g.2.2.2.2.1 12)]) h (qZ cwM r h) := by
  refine ct_of (QR := (fun r : Int32 => qZ cwM r h)) (by decide +kernel) (fun g => ⟨rfl, Nat.le_of_ble_eq_true rfl⟩) e (fun x g hl C => ?_)
  unfold X8_isWord
  refine j_aload_n C dX8_isWord_0 rfl (n := 1) rfl ?_
  refine gf_X8_266 C 0 (cM_0 g _) rfl dX8_isWord_1 (n := 4) rfl ?_
  refine j_iconst C dX8_isWord_4 ic_1 (n := 5) rfl ?_
  refine j_icmp_ne C dX8_isWord_5 (tgt := 28) (n := 8) (by decide) rfl (fun q1 => ?_) (fun q1 => ?_)
  · refine j_iconst C dX8_isWord_28 ic_0 (n := 29) rfl ?_
    refine j_istore_n C dX8_isWord_29 (Nat.le_of_ble_eq_true rfl) (n := 30) rfl ?_
    refine j_iconst C dX8_isWord_30 ic_0 (n := 31) rfl ?_
    refine j_istore_n C dX8_isWord_31 (Nat.le_of_ble_eq_true rfl) (n := 32) rfl ?_
    exact j_to (j_X8_isWord_32_12 C _ _ _ _ _ (Or.inl rfl)) ⟨rfl, ⟨rfl, ⟨rfl, ⟨rfl, trivial⟩⟩⟩⟩
  · refine j_aload_n C dX8_isWord_8 rfl (n := 9) rfl ?_
    refine gf_X8_254 C 0 (cM_0 g _) rfl dX8_isWord_9 (n := 12) rfl ?_
    refine j_aload_n C dX8_isWord_12 rfl (n := 13) rfl ?_
    refine gf_X8_257 C 0 (cM_0 g _) rfl dX8_isWord_13 (n := 16) rfl ?_
    refine j_isub C dX8_isWord_16 (n := 17) rfl ?_
    refine j_aload_n C dX8_isWord_17 rfl (n := 18) rfl ?_
    refine j_ci C (run_len C lm_X8_269 (Nat.le_of_ble_eq_true rfl) (w := 12) (Nat.le_of_ble_eq_true rfl) rfl (Nat.le_of_ble_eq_true rfl) dX8_isWord_18) (n := 21) rfl ?_
    refine j_icmp_ne C dX8_isWord_21 (tgt := 28) (n := 24) (by decide) rfl (fun q2 => ?_) (fun q2 => ?_)
    · refine j_iconst C dX8_isWord_28 ic_0 (n := 29) rfl ?_
      refine j_istore_n C dX8_isWord_29 (Nat.le_of_ble_eq_true rfl) (n := 30) rfl ?_
      refine j_iconst C dX8_isWord_30 ic_0 (n := 31) rfl ?_
      refine j_istore_n C dX8_isWord_31 (Nat.le_of_ble_eq_true rfl) (n := 32) rfl ?_
      exact j_to (j_X8_isWord_32_12 C _ _ _ _ _ (Or.inl rfl)) ⟨rfl, ⟨rfl, ⟨rfl, ⟨rfl, trivial⟩⟩⟩⟩
    · refine j_iconst C dX8_isWord_24 ic_1 (n := 25) rfl ?_
      refine j_goto C dX8_isWord_25 (n := 29) (by decide) ?_
      refine j_istore_n C dX8_isWord_29 (Nat.le_of_ble_eq_true rfl) (n := 30) rfl ?_
      refine j_iconst C dX8_isWord_30 ic_0 (n := 31) rfl ?_
      refine j_istore_n C dX8_isWord_31 (Nat.le_of_ble_eq_true rfl) (n := 32) rfl ?_
      exact j_to (j_X8_isWord_32_12 C _ _ _ _ _ (Or.inr rfl)) ⟨rfl, ⟨rfl, ⟨rfl, ⟨rfl, trivial⟩⟩⟩⟩
-- X8_isWord
set_option maxRecDepth 20000 in
theorem j_X8_isWord_32_11 {x : Fx} {g : Gl} (C : Ok x g RX8 cX8_isWord 4 (some .boolean)) (fu : Nat) (h : Hp) : ∀ (n : Nat) (x2 : Int32) (x3 : Int32) (bx2 : x2 = 0 ∨ x2 = 1), J x g cwM 4 4 (fun r : Int32 => qZ cwM r h) 32 [some (rf g 0), some (.ref (g.2.2.2.2.1 11)), some (.int x2), some (.int x3)] [] h (X8_isWord_32 fu 11 h n x2 x3) := by
  intro n
  induction n with
  | zero =>
    intro x2 x3 bx2
    rw [X8_isWord_32]
    exact j_none
  | succ n ih =>
    intro x2 x3 bx2
    rw [X8_isWord_32]
    refine j_iload_n C dX8_isWord_32 rfl (n := 33) rfl ?_
    refine j_aload_n C dX8_isWord_33 rfl (n := 34) rfl ?_
    refine j_ci C (run_len C lm_X8_269 (Nat.le_of_ble_eq_true rfl) (w := 11) (Nat.le_of_ble_eq_true rfl) rfl (Nat.le_of_ble_eq_true rfl) dX8_isWord_34) (n := 37) rfl ?_
    refine j_icmp_ge C dX8_isWord_37 (tgt := 75) (n := 40) (by decide) rfl (fun q1 => ?_) (fun q1 => ?_)
    · refine j_iload_n C dX8_isWord_75 rfl (n := 76) rfl ?_
      exact j_retZ C bx2 dX8_isWord_76
    · refine j_iload_n C dX8_isWord_40 rfl (n := 41) rfl ?_
      refine j_if_eq C dX8_isWord_41 (tgt := 75) (n := 44) (by decide) rfl (fun q2 => ?_) (fun q2 => ?_)
      · refine j_iload_n C dX8_isWord_75 rfl (n := 76) rfl ?_
        exact j_retZ C bx2 dX8_isWord_76
      · refine j_aload_n C dX8_isWord_44 rfl (n := 45) rfl ?_
        refine gf_X8_25 C 0 (cM_0 g _) rfl dX8_isWord_45 (n := 48) rfl ?_
        refine j_aload_n C dX8_isWord_48 rfl (n := 49) rfl ?_
        refine gf_X8_257 C 0 (cM_0 g _) rfl dX8_isWord_49 (n := 52) rfl ?_
        refine j_iload_n C dX8_isWord_52 rfl (n := 53) rfl ?_
        refine j_iadd C dX8_isWord_53 (n := 54) rfl ?_
        refine j_iald C 6 (cM_6 g _) dX8_isWord_54 (n := 55) rfl ?_
        refine j_aload_n C dX8_isWord_55 rfl (n := 56) rfl ?_
        refine j_iload_n C dX8_isWord_56 rfl (n := 57) rfl ?_
        refine j_chk (fun q3 => ?_)
        refine j_ci C (run_chr C lm_X8_272 (Nat.le_of_ble_eq_true rfl) (w := 11) (Nat.le_of_ble_eq_true rfl) q3 rfl (Nat.le_of_ble_eq_true rfl) dX8_isWord_57) (n := 60) rfl ?_
        refine j_icmp_ne C dX8_isWord_60 (tgt := 67) (n := 63) (by decide) rfl (fun q4 => ?_) (fun q4 => ?_)
        · refine j_iconst C dX8_isWord_67 ic_0 (n := 68) rfl ?_
          refine j_istore_n C dX8_isWord_68 (Nat.le_of_ble_eq_true rfl) (n := 69) rfl ?_
          refine j_iinc C dX8_isWord_69 rfl ic_1 (Nat.le_of_ble_eq_true rfl) (n := 72) rfl ?_
          refine j_goto C dX8_isWord_72 (n := 32) (by decide) ?_
          exact j_to (ih _ _ (Or.inl rfl)) ⟨rfl, ⟨rfl, ⟨rfl, ⟨rfl, trivial⟩⟩⟩⟩
        · refine j_iconst C dX8_isWord_63 ic_1 (n := 64) rfl ?_
          refine j_goto C dX8_isWord_64 (n := 68) (by decide) ?_
          refine j_istore_n C dX8_isWord_68 (Nat.le_of_ble_eq_true rfl) (n := 69) rfl ?_
          refine j_iinc C dX8_isWord_69 rfl ic_1 (Nat.le_of_ble_eq_true rfl) (n := 72) rfl ?_
          refine j_goto C dX8_isWord_72 (n := 32) (by decide) ?_
          exact j_to (ih _ _ (Or.inr rfl)) ⟨rfl, ⟨rfl, ⟨rfl, ⟨rfl, trivial⟩⟩⟩⟩
set_option maxRecDepth 20000 in
theorem m_X8_isWord_11 (l : Launch) (fu : Nat) (h : Hp) {r : Int32} (e : X8_isWord fu 11 h = some r) : CT l yX8_isWord cX8_isWord 4 (some .boolean) 4 cwM (fun g => [rf g 0, .ref (g.2.2.2.2.1 11)]) h (qZ cwM r h) := by
  refine ct_of (QR := (fun r : Int32 => qZ cwM r h)) (by decide +kernel) (fun g => ⟨rfl, Nat.le_of_ble_eq_true rfl⟩) e (fun x g hl C => ?_)
  unfold X8_isWord
  refine j_aload_n C dX8_isWord_0 rfl (n := 1) rfl ?_
  refine gf_X8_266 C 0 (cM_0 g _) rfl dX8_isWord_1 (n := 4) rfl ?_
  refine j_iconst C dX8_isWord_4 ic_1 (n := 5) rfl ?_
  refine j_icmp_ne C dX8_isWord_5 (tgt := 28) (n := 8) (by decide) rfl (fun q1 => ?_) (fun q1 => ?_)
  · refine j_iconst C dX8_isWord_28 ic_0 (n := 29) rfl ?_
    refine j_istore_n C dX8_isWord_29 (Nat.le_of_ble_eq_true rfl) (n := 30) rfl ?_
    refine j_iconst C dX8_isWord_30 ic_0 (n := 31) rfl ?_
    refine j_istore_n C dX8_isWord_31 (Nat.le_of_ble_eq_true rfl) (n := 32) rfl ?_
    exact j_to (j_X8_isWord_32_11 C _ _ _ _ _ (Or.inl rfl)) ⟨rfl, ⟨rfl, ⟨rfl, ⟨rfl, trivial⟩⟩⟩⟩
  · refine j_aload_n C dX8_isWord_8 rfl (n := 9) rfl ?_
    refine gf_X8_254 C 0 (cM_0 g _) rfl dX8_isWord_9 (n := 12) rfl ?_
    refine j_aload_n C dX8_isWord_12 rfl (n := 13) rfl ?_
    refine gf_X8_257 C 0 (cM_0 g _) rfl dX8_isWord_13 (n := 16) rfl ?_
    refine j_isub C dX8_isWord_16 (n := 17) rfl ?_
    refine j_aload_n C dX8_isWord_17 rfl (n := 18) rfl ?_
    refine j_ci C (run_len C lm_X8_269 (Nat.le_of_ble_eq_true rfl) (w := 11) (Nat.le_of_ble_eq_true rfl) rfl (Nat.le_of_ble_eq_true rfl) dX8_isWord_18) (n := 21) rfl ?_
    refine j_icmp_ne C dX8_isWord_21 (tgt := 28) (n := 24) (by decide) rfl (fun q2 => ?_) (fun q2 => ?_)
    · refine j_iconst C dX8_isWord_28 ic_0 (n := 29) rfl ?_
      refine j_istore_n C dX8_isWord_29 (Nat.le_of_ble_eq_true rfl) (n := 30) rfl ?_
      refine j_iconst C dX8_isWord_30 ic_0 (n := 31) rfl ?_
      refine j_istore_n C dX8_isWord_31 (Nat.le_of_ble_eq_true rfl) (n := 32) rfl ?_
      exact j_to (j_X8_isWord_32_11 C _ _ _ _ _ (Or.inl rfl)) ⟨rfl, ⟨rfl, ⟨rfl, ⟨rfl, trivial⟩⟩⟩⟩
    · refine j_iconst C dX8_isWord_24 ic_1 (n := 25) rfl ?_
      refine j_goto C dX8_isWord_25 (n := 29) (by decide) ?_
      refine j_istore_n C dX8_isWord_29 (Nat.le_of_ble_eq_true rfl) (n := 30) rfl ?_
      refine j_iconst C dX8_isWord_30 ic_0 (n := 31) rfl ?_
      refine j_istore_n C dX8_isWord_31 (Nat.le_of_ble_eq_true rfl) (n := 32) rfl ?_
      exact j_to (j_X8_isWord_32_11 C _ _ _ _ _ (Or.inr rfl)) ⟨rfl, ⟨rfl, ⟨rfl, ⟨rfl, trivial⟩⟩⟩⟩
-- X8_isWord
set_option maxRecDepth 20000 in
theorem j_X8_isWord_32_8 {x : Fx} {g : Gl} (C : Ok x g RX8 cX8_isWord 4 (some .boolean)) (fu : Nat) (h : Hp) : ∀ (n : Nat) (x2 : Int32) (x3 : Int32) (bx2 : x2 = 0 ∨ x2 = 1), J x g cwM 4 4 (fun r : Int32 => qZ cwM r h) 32 [some (rf g 0), some (.ref (g.2.2.2.2.1 8)), some (.int x2), some (.int x3)] [] h (X8_isWord_32 fu 8 h n x2 x3) := by
  intro n
  induction n with
  | zero =>
    intro x2 x3 bx2
    rw [X8_isWord_32]
    exact j_none
  | succ n ih =>
    intro x2 x3 bx2
    rw [X8_isWord_32]
    refine j_iload_n C dX8_isWord_32 rfl (n := 33) rfl ?_
    refine j_aload_n C dX8_isWord_33 rfl (n := 34) rfl ?_
    refine j_ci C (run_len C lm_X8_269 (Nat.le_of_ble_eq_true rfl) (w := 8) (Nat.le_of_ble_eq_true rfl) rfl (Nat.le_of_ble_eq_true rfl) dX8_isWord_34) (n := 37) rfl ?_
    refine j_icmp_ge C dX8_isWord_37 (tgt := 75) (n := 40) (by decide) rfl (fun q1 => ?_) (fun q1 => ?_)
    · refine j_iload_n C dX8_isWord_75 rfl (n := 76) rfl ?_
      exact j_retZ C bx2 dX8_isWord_76
    · refine j_iload_n C dX8_isWord_40 rfl (n := 41) rfl ?_
      refine j_if_eq C dX8_isWord_41 (tgt := 75) (n := 44) (by decide) rfl (fun q2 => ?_) (fun q2 => ?_)
      · refine j_iload_n C dX8_isWord_75 rfl (n := 76) rfl ?_
        exact j_retZ C bx2 dX8_isWord_76
      · refine j_aload_n C dX8_isWord_44 rfl (n := 45) rfl ?_
        refine gf_X8_25 C 0 (cM_0 g _) rfl dX8_isWord_45 (n := 48) rfl ?_
        refine j_aload_n C dX8_isWord_48 rfl (n := 49) rfl ?_
        refine gf_X8_257 C 0 (cM_0 g _) rfl dX8_isWord_49 (n := 52) rfl ?_
        refine j_iload_n C dX8_isWord_52 rfl (n := 53) rfl ?_
        refine j_iadd C dX8_isWord_53 (n := 54) rfl ?_
        refine j_iald C 6 (cM_6 g _) dX8_isWord_54 (n := 55) rfl ?_
        refine j_aload_n C dX8_isWord_55 rfl (n := 56) rfl ?_
        refine j_iload_n C dX8_isWord_56 rfl (n := 57) rfl ?_
        refine j_chk (fun q3 => ?_)
        refine j_ci C (run_chr C lm_X8_272 (Nat.le_of_ble_eq_true rfl) (w := 8) (Nat.le_of_ble_eq_true rfl) q3 rfl (Nat.le_of_ble_eq_true rfl) dX8_isWord_57) (n := 60) rfl ?_
        refine j_icmp_ne C dX8_isWord_60 (tgt := 67) (n := 63) (by decide) rfl (fun q4 => ?_) (fun q4 => ?_)
        · refine j_iconst C dX8_isWord_67 ic_0 (n := 68) rfl ?_
          refine j_istore_n C dX8_isWord_68 (Nat.le_of_ble_eq_true rfl) (n := 69) rfl ?_
          refine j_iinc C dX8_isWord_69 rfl ic_1 (Nat.le_of_ble_eq_true rfl) (n := 72) rfl ?_
          refine j_goto C dX8_isWord_72 (n := 32) (by decide) ?_
          exact j_to (ih _ _ (Or.inl rfl)) ⟨rfl, ⟨rfl, ⟨rfl, ⟨rfl, trivial⟩⟩⟩⟩
        · refine j_iconst C dX8_isWord_63 ic_1 (n := 64) rfl ?_
          refine j_goto C dX8_isWord_64 (n := 68) (by decide) ?_
          refine j_istore_n C dX8_isWord_68 (Nat.le_of_ble_eq_true rfl) (n := 69) rfl ?_
          refine j_iinc C dX8_isWord_69 rfl ic_1 (Nat.le_of_ble_eq_true rfl) (n := 72) rfl ?_
          refine j_goto C dX8_isWord_72 (n := 32) (by decide) ?_
          exact j_to (ih _ _ (Or.inr rfl)) ⟨rfl, ⟨rfl, ⟨rfl, ⟨rfl, trivial⟩⟩⟩⟩
set_option maxRecDepth 20000 in
theorem m_X8_isWord_8 (l : Launch) (fu : Nat) (h : Hp) {r : Int32} (e : X8_isWord fu 8 h = some r) : CT l yX8_isWord cX8_isWord 4 (some .boolean) 4 cwM (fun g => [rf g 0, .ref (g.2.2.2.2.1 8)]) h (qZ cwM r h) := by
  refine ct_of (QR := (fun r : Int32 => qZ cwM r h)) (by decide +kernel) (fun g => ⟨rfl, Nat.le_of_ble_eq_true rfl⟩) e (fun x g hl C => ?_)
  unfold X8_isWord
  refine j_aload_n C dX8_isWord_0 rfl (n := 1) rfl ?_
  refine gf_X8_266 C 0 (cM_0 g _) rfl dX8_isWord_1 (n := 4) rfl ?_
  refine j_iconst C dX8_isWord_4 ic_1 (n := 5) rfl ?_
  refine j_icmp_ne C dX8_isWord_5 (tgt := 28) (n := 8) (by decide) rfl (fun q1 => ?_) (fun q1 => ?_)
  · refine j_iconst C dX8_isWord_28 ic_0 (n := 29) rfl ?_
    refine j_istore_n C dX8_isWord_29 (Nat.le_of_ble_eq_true rfl) (n := 30) rfl ?_
    refine j_iconst C dX8_isWord_30 ic_0 (n := 31) rfl ?_
    refine j_istore_n C dX8_isWord_31 (Nat.le_of_ble_eq_true rfl) (n := 32) rfl ?_
    exact j_to (j_X8_isWord_32_8 C _ _ _ _ _ (Or.inl rfl)) ⟨rfl, ⟨rfl, ⟨rfl, ⟨rfl, trivial⟩⟩⟩⟩
  · refine j_aload_n C dX8_isWord_8 rfl (n := 9) rfl ?_
    refine gf_X8_254 C 0 (cM_0 g _) rfl dX8_isWord_9 (n := 12) rfl ?_
    refine j_aload_n C dX8_isWord_12 rfl (n := 13) rfl ?_
    refine gf_X8_257 C 0 (cM_0 g _) rfl dX8_isWord_13 (n := 16) rfl ?_
    refine j_isub C dX8_isWord_16 (n := 17) rfl ?_
    refine j_aload_n C dX8_isWord_17 rfl (n := 18) rfl ?_
    refine j_ci C (run_len C lm_X8_269 (Nat.le_of_ble_eq_true rfl) (w := 8) (Nat.le_of_ble_eq_true rfl) rfl (Nat.le_of_ble_eq_true rfl) dX8_isWord_18) (n := 21) rfl ?_
    refine j_icmp_ne C dX8_isWord_21 (tgt := 28) (n := 24) (by decide) rfl (fun q2 => ?_) (fun q2 => ?_)
    · refine j_iconst C dX8_isWord_28 ic_0 (n := 29) rfl ?_
      refine j_istore_n C dX8_isWord_29 (Nat.le_of_ble_eq_true rfl) (n := 30) rfl ?_
      refine j_iconst C dX8_isWord_30 ic_0 (n := 31) rfl ?_
      refine j_istore_n C dX8_isWord_31 (Nat.le_of_ble_eq_true rfl) (n := 32) rfl ?_
      exact j_to (j_X8_isWord_32_8 C _ _ _ _ _ (Or.inl rfl)) ⟨rfl, ⟨rfl, ⟨rfl, ⟨rfl, trivial⟩⟩⟩⟩
    · refine j_iconst C dX8_isWord_24 ic_1 (n := 25) rfl ?_
      refine j_goto C dX8_isWord_25 (n := 29) (by decide) ?_
      refine j_istore_n C dX8_isWord_29 (Nat.le_of_ble_eq_true rfl) (n := 30) rfl ?_
      refine j_iconst C dX8_isWord_30 ic_0 (n := 31) rfl ?_
      refine j_istore_n C dX8_isWord_31 (Nat.le_of_ble_eq_true rfl) (n := 32) rfl ?_
      exact j_to (j_X8_isWord_32_8 C _ _ _ _ _ (Or.inr rfl)) ⟨rfl, ⟨rfl, ⟨rfl, ⟨rfl, trivial⟩⟩⟩⟩
-- X8_isWord
set_option maxRecDepth 20000 in
theorem j_X8_isWord_32_9 {x : Fx} {g : Gl} (C : Ok x g RX8 cX8_isWord 4 (some .boolean)) (fu : Nat) (h : Hp) : ∀ (n : Nat) (x2 : Int32) (x3 : Int32) (bx2 : x2 = 0 ∨ x2 = 1), J x g cwM 4 4 (fun r : Int32 => qZ cwM r h) 32 [some (rf g 0), some (.ref (g.2.2.2.2.1 9)), some (.int x2), some (.int x3)] [] h (X8_isWord_32 fu 9 h n x2 x3) := by
  intro n
  induction n with
  | zero =>
    intro x2 x3 bx2
    rw [X8_isWord_32]
    exact j_none
  | succ n ih =>
    intro x2 x3 bx2
    rw [X8_isWord_32]
    refine j_iload_n C dX8_isWord_32 rfl (n := 33) rfl ?_
    refine j_aload_n C dX8_isWord_33 rfl (n := 34) rfl ?_
    refine j_ci C (run_len C lm_X8_269 (Nat.le_of_ble_eq_true rfl) (w := 9) (Nat.le_of_ble_eq_true rfl) rfl (Nat.le_of_ble_eq_true rfl) dX8_isWord_34) (n := 37) rfl ?_
    refine j_icmp_ge C dX8_isWord_37 (tgt := 75) (n := 40) (by decide) rfl (fun q1 => ?_) (fun q1 => ?_)
    · refine j_iload_n C dX8_isWord_75 rfl (n := 76) rfl ?_
      exact j_retZ C bx2 dX8_isWord_76
    · refine j_iload_n C dX8_isWord_40 rfl (n := 41) rfl ?_
      refine j_if_eq C dX8_isWord_41 (tgt := 75) (n := 44) (by decide) rfl (fun q2 => ?_) (fun q2 => ?_)
      · refine j_iload_n C dX8_isWord_75 rfl (n := 76) rfl ?_
        exact j_retZ C bx2 dX8_isWord_76
      · refine j_aload_n C dX8_isWord_44 rfl (n := 45) rfl ?_
        refine gf_X8_25 C 0 (cM_0 g _) rfl dX8_isWord_45 (n := 48) rfl ?_
        refine j_aload_n C dX8_isWord_48 rfl (n := 49) rfl ?_
        refine gf_X8_257 C 0 (cM_0 g _) rfl dX8_isWord_49 (n := 52) rfl ?_
        refine j_iload_n C dX8_isWord_52 rfl (n := 53) rfl ?_
        refine j_iadd C dX8_isWord_53 (n := 54) rfl ?_
        refine j_iald C 6 (cM_6 g _) dX8_isWord_54 (n := 55) rfl ?_
        refine j_aload_n C dX8_isWord_55 rfl (n := 56) rfl ?_
        refine j_iload_n C dX8_isWord_56 rfl (n := 57) rfl ?_
        refine j_chk (fun q3 => ?_)
        refine j_ci C (run_chr C lm_X8_272 (Nat.le_of_ble_eq_true rfl) (w := 9) (Nat.le_of_ble_eq_true rfl) q3 rfl (Nat.le_of_ble_eq_true rfl) dX8_isWord_57) (n := 60) rfl ?_
        refine j_icmp_ne C dX8_isWord_60 (tgt := 67) (n := 63) (by decide) rfl (fun q4 => ?_) (fun q4 => ?_)
        · refine j_iconst C dX8_isWord_67 ic_0 (n := 68) rfl ?_
          refine j_istore_n C dX8_isWord_68 (Nat.le_of_ble_eq_true rfl) (n := 69) rfl ?_
          refine j_iinc C dX8_isWord_69 rfl ic_1 (Nat.le_of_ble_eq_true rfl) (n := 72) rfl ?_
          refine j_goto C dX8_isWord_72 (n := 32) (by decide) ?_
          exact j_to (ih _ _ (Or.inl rfl)) ⟨rfl, ⟨rfl, ⟨rfl, ⟨rfl, trivial⟩⟩⟩⟩
        · refine j_iconst C dX8_isWord_63 ic_1 (n := 64) rfl ?_
          refine j_goto C dX8_isWord_64 (n := 68) (by decide) ?_
          refine j_istore_n C dX8_isWord_68 (Nat.le_of_ble_eq_true rfl) (n := 69) rfl ?_
          refine j_iinc C dX8_isWord_69 rfl ic_1 (Nat.le_of_ble_eq_true rfl) (n := 72) rfl ?_
          refine j_goto C dX8_isWord_72 (n := 32) (by decide) ?_
          exact j_to (ih _ _ (Or.inr rfl)) ⟨rfl, ⟨rfl, ⟨rfl, ⟨rfl, trivial⟩⟩⟩⟩
set_option maxRecDepth 20000 in
theorem m_X8_isWord_9 (l : Launch) (fu : Nat) (h : Hp) {r : Int32} (e : X8_isWord fu 9 h = some r) : CT l yX8_isWord cX8_isWord 4 (some .boolean) 4 cwM (fun g => [rf g 0, .ref (g.2.2.2.2.1 9)]) h (qZ cwM r h) := by
  refine ct_of (QR := (fun r : Int32 => qZ cwM r h)) (by decide +kernel) (fun g => ⟨rfl, Nat.le_of_ble_eq_true rfl⟩) e (fun x g hl C => ?_)
  unfold X8_isWord
  refine j_aload_n C dX8_isWord_0 rfl (n := 1) rfl ?_
  refine gf_X8_266 C 0 (cM_0 g _) rfl dX8_isWord_1 (n := 4) rfl ?_
  refine j_iconst C dX8_isWord_4 ic_1 (n := 5) rfl ?_
  refine j_icmp_ne C dX8_isWord_5 (tgt := 28) (n := 8) (by decide) rfl (fun q1 => ?_) (fun q1 => ?_)
  · refine j_iconst C dX8_isWord_28 ic_0 (n := 29) rfl ?_
    refine j_istore_n C dX8_isWord_29 (Nat.le_of_ble_eq_true rfl) (n := 30) rfl ?_
    refine j_iconst C dX8_isWord_30 ic_0 (n := 31) rfl ?_
    refine j_istore_n C dX8_isWord_31 (Nat.le_of_ble_eq_true rfl) (n := 32) rfl ?_
    exact j_to (j_X8_isWord_32_9 C _ _ _ _ _ (Or.inl rfl)) ⟨rfl, ⟨rfl, ⟨rfl, ⟨rfl, trivial⟩⟩⟩⟩
  · refine j_aload_n C dX8_isWord_8 rfl (n := 9) rfl ?_
    refine gf_X8_254 C 0 (cM_0 g _) rfl dX8_isWord_9 (n := 12) rfl ?_
    refine j_aload_n C dX8_isWord_12 rfl (n := 13) rfl ?_
    refine gf_X8_257 C 0 (cM_0 g _) rfl dX8_isWord_13 (n := 16) rfl ?_
    refine j_isub C dX8_isWord_16 (n := 17) rfl ?_
    refine j_aload_n C dX8_isWord_17 rfl (n := 18) rfl ?_
    refine j_ci C (run_len C lm_X8_269 (Nat.le_of_ble_eq_true rfl) (w := 9) (Nat.le_of_ble_eq_true rfl) rfl (Nat.le_of_ble_eq_true rfl) dX8_isWord_18) (n := 21) rfl ?_
    refine j_icmp_ne C dX8_isWord_21 (tgt := 28) (n := 24) (by decide) rfl (fun q2 => ?_) (fun q2 => ?_)
    · refine j_iconst C dX8_isWord_28 ic_0 (n := 29) rfl ?_
      refine j_istore_n C dX8_isWord_29 (Nat.le_of_ble_eq_true rfl) (n := 30) rfl ?_
      refine j_iconst C dX8_isWord_30 ic_0 (n := 31) rfl ?_
      refine j_istore_n C dX8_isWord_31 (Nat.le_of_ble_eq_true rfl) (n := 32) rfl ?_
      exact j_to (j_X8_isWord_32_9 C _ _ _ _ _ (Or.inl rfl)) ⟨rfl, ⟨rfl, ⟨rfl, ⟨rfl, trivial⟩⟩⟩⟩
    · refine j_iconst C dX8_isWord_24 ic_1 (n := 25) rfl ?_
      refine j_goto C dX8_isWord_25 (n := 29) (by decide) ?_
      refine j_istore_n C dX8_isWord_29 (Nat.le_of_ble_eq_true rfl) (n := 30) rfl ?_
      refine j_iconst C dX8_isWord_30 ic_0 (n := 31) rfl ?_
      refine j_istore_n C dX8_isWord_31 (Nat.le_of_ble_eq_true rfl) (n := 32) rfl ?_
      exact j_to (j_X8_isWord_32_9 C _ _ _ _ _ (Or.inr rfl)) ⟨rfl, ⟨rfl, ⟨rfl, ⟨rfl, trivial⟩⟩⟩⟩
-- X8_kindTold
set_option maxRecDepth 20000 in
theorem j_X8_kindTold_4 {x : Fx} {g : Gl} (C : Ok x g RX8 cX8_kindTold 3 (some .int)) (fu : Nat) (h : Hp) : ∀ (n : Nat) (x1 : Int32) (x2 : Int32), J x g cwM 3 5 (fun r : Int32 => qI cwM r h) 4 [some (rf g 0), some (.int x1), some (.int x2)] [] h (X8_kindTold_4 fu h n x1 x2) := by
  intro n
  induction n with
  | zero =>
    intro x1 x2
    rw [X8_kindTold_4]
    exact j_none
  | succ n ih =>
    intro x1 x2
    rw [X8_kindTold_4]
    refine j_iload_n C dX8_kindTold_4 rfl (n := 5) rfl ?_
    refine j_aload_n C dX8_kindTold_5 rfl (n := 6) rfl ?_
    refine gf_X8_44 C 0 (cM_0 g _) rfl dX8_kindTold_6 (n := 9) rfl ?_
    refine j_alen C 7 3 (cM_7 g _) rfl of_7 dX8_kindTold_9 (n := 10) rfl ?_
    refine j_icmp_ge C dX8_kindTold_10 (tgt := 38) (n := 13) (by decide) rfl (fun q1 => ?_) (fun q1 => ?_)
    · refine j_iload_n C dX8_kindTold_38 rfl (n := 39) rfl ?_
      exact j_ret C dX8_kindTold_39
    · refine j_aload_n C dX8_kindTold_13 rfl (n := 14) rfl ?_
      refine j_aload_n C dX8_kindTold_14 rfl (n := 15) rfl ?_
      refine gf_X8_44 C 0 (cM_0 g _) rfl dX8_kindTold_15 (n := 18) rfl ?_
      refine j_iload_n C dX8_kindTold_18 rfl (n := 19) rfl ?_
      refine j_chk (fun q2 => ?_)
      rcases inR_7 q2 with rfl | rfl | rfl | rfl | rfl | rfl | rfl
      · rw [knd_0]
        refine j_aald C 7 3 (cM_7 g _) rfl (by decide) (b := g.2.2.2.2.1 0) rfl dX8_kindTold_19 rfl ?_
        refine j_bnd (fun r4 q3 => ?_)
        refine j_cz C (run_V C mi_X8_isWord lm_X8_290 iv_X8_isWord ⟨Nat.le_of_ble_eq_true rfl, Nat.le_of_ble_eq_true rfl⟩ (m_X8_isWord_0 _ _ _ q3) (cM_0 g _) rfl rfl rfl rfl (Nat.le_of_ble_eq_true rfl) dX8_kindTold_20) (n := 23) rfl (fun b5 => ?_)
        refine j_if_eq C dX8_kindTold_23 (tgt := 30) (n := 26) (by decide) rfl (fun q6 => ?_) (fun q6 => ?_)
        · refine j_iload_n C dX8_kindTold_30 rfl (n := 31) rfl ?_
          refine j_istore_n C dX8_kindTold_31 (Nat.le_of_ble_eq_true rfl) (n := 32) rfl ?_
          refine j_iinc C dX8_kindTold_32 rfl ic_1 (Nat.le_of_ble_eq_true rfl) (n := 35) rfl ?_
          refine j_goto C dX8_kindTold_35 (n := 4) (by decide) ?_
          exact j_to (ih _ _) ⟨rfl, ⟨rfl, ⟨rfl, trivial⟩⟩⟩
        · refine j_iload_n C dX8_kindTold_26 rfl (n := 27) rfl ?_
          refine j_goto C dX8_kindTold_27 (n := 31) (by decide) ?_
          refine j_istore_n C dX8_kindTold_31 (Nat.le_of_ble_eq_true rfl) (n := 32) rfl ?_
          refine j_iinc C dX8_kindTold_32 rfl ic_1 (Nat.le_of_ble_eq_true rfl) (n := 35) rfl ?_
          refine j_goto C dX8_kindTold_35 (n := 4) (by decide) ?_
          exact j_to (ih _ _) ⟨rfl, ⟨rfl, ⟨rfl, trivial⟩⟩⟩
      · rw [knd_1]
        refine j_aald C 7 3 (cM_7 g _) rfl (by decide) (b := g.2.2.2.2.1 1) rfl dX8_kindTold_19 rfl ?_
        refine j_bnd (fun r4 q3 => ?_)
        refine j_cz C (run_V C mi_X8_isWord lm_X8_290 iv_X8_isWord ⟨Nat.le_of_ble_eq_true rfl, Nat.le_of_ble_eq_true rfl⟩ (m_X8_isWord_1 _ _ _ q3) (cM_0 g _) rfl rfl rfl rfl (Nat.le_of_ble_eq_true rfl) dX8_kindTold_20) (n := 23) rfl (fun b5 => ?_)
        refine j_if_eq C dX8_kindTold_23 (tgt := 30) (n := 26) (by decide) rfl (fun q6 => ?_) (fun q6 => ?_)
        · refine j_iload_n C dX8_kindTold_30 rfl (n := 31) rfl ?_
          refine j_istore_n C dX8_kindTold_31 (Nat.le_of_ble_eq_true rfl) (n := 32) rfl ?_
          refine j_iinc C dX8_kindTold_32 rfl ic_1 (Nat.le_of_ble_eq_true rfl) (n := 35) rfl ?_
          refine j_goto C dX8_kindTold_35 (n := 4) (by decide) ?_
          exact j_to (ih _ _) ⟨rfl, ⟨rfl, ⟨rfl, trivial⟩⟩⟩
        · refine j_iload_n C dX8_kindTold_26 rfl (n := 27) rfl ?_
          refine j_goto C dX8_kindTold_27 (n := 31) (by decide) ?_
          refine j_istore_n C dX8_kindTold_31 (Nat.le_of_ble_eq_true rfl) (n := 32) rfl ?_
          refine j_iinc C dX8_kindTold_32 rfl ic_1 (Nat.le_of_ble_eq_true rfl) (n := 35) rfl ?_
          refine j_goto C dX8_kindTold_35 (n := 4) (by decide) ?_
          exact j_to (ih _ _) ⟨rfl, ⟨rfl, ⟨rfl, trivial⟩⟩⟩
      · rw [knd_2]
        refine j_aald C 7 3 (cM_7 g _) rfl (by decide) (b := g.2.2.2.2.1 2) rfl dX8_kindTold_19 rfl ?_
        refine j_bnd (fun r4 q3 => ?_)
        refine j_cz C (run_V C mi_X8_isWord lm_X8_290 iv_X8_isWord ⟨Nat.le_of_ble_eq_true rfl, Nat.le_of_ble_eq_true rfl⟩ (m_X8_isWord_2 _ _ _ q3) (cM_0 g _) rfl rfl rfl rfl (Nat.le_of_ble_eq_true rfl) dX8_kindTold_20) (n := 23) rfl (fun b5 => ?_)
        refine j_if_eq C dX8_kindTold_23 (tgt := 30) (n := 26) (by decide) rfl (fun q6 => ?_) (fun q6 => ?_)
        · refine j_iload_n C dX8_kindTold_30 rfl (n := 31) rfl ?_
          refine j_istore_n C dX8_kindTold_31 (Nat.le_of_ble_eq_true rfl) (n := 32) rfl ?_
          refine j_iinc C dX8_kindTold_32 rfl ic_1 (Nat.le_of_ble_eq_true rfl) (n := 35) rfl ?_
          refine j_goto C dX8_kindTold_35 (n := 4) (by decide) ?_
          exact j_to (ih _ _) ⟨rfl, ⟨rfl, ⟨rfl, trivial⟩⟩⟩
        · refine j_iload_n C dX8_kindTold_26 rfl (n := 27) rfl ?_
          refine j_goto C dX8_kindTold_27 (n := 31) (by decide) ?_
          refine j_istore_n C dX8_kindTold_31 (Nat.le_of_ble_eq_true rfl) (n := 32) rfl ?_
          refine j_iinc C dX8_kindTold_32 rfl ic_1 (Nat.le_of_ble_eq_true rfl) (n := 35) rfl ?_
          refine j_goto C dX8_kindTold_35 (n := 4) (by decide) ?_
          exact j_to (ih _ _) ⟨rfl, ⟨rfl, ⟨rfl, trivial⟩⟩⟩
      · rw [knd_3]
        refine j_aald C 7 3 (cM_7 g _) rfl (by decide) (b := g.2.2.2.2.1 3) rfl dX8_kindTold_19 rfl ?_
        refine j_bnd (fun r4 q3 => ?_)
        refine j_cz C (run_V C mi_X8_isWord lm_X8_290 iv_X8_isWord ⟨Nat.le_of_ble_eq_true rfl, Nat.le_of_ble_eq_true rfl⟩ (m_X8_isWord_3 _ _ _ q3) (cM_0 g _) rfl rfl rfl rfl (Nat.le_of_ble_eq_true rfl) dX8_kindTold_20) (n := 23) rfl (fun b5 => ?_)
        refine j_if_eq C dX8_kindTold_23 (tgt := 30) (n := 26) (by decide) rfl (fun q6 => ?_) (fun q6 => ?_)
        · refine j_iload_n C dX8_kindTold_30 rfl (n := 31) rfl ?_
          refine j_istore_n C dX8_kindTold_31 (Nat.le_of_ble_eq_true rfl) (n := 32) rfl ?_
          refine j_iinc C dX8_kindTold_32 rfl ic_1 (Nat.le_of_ble_eq_true rfl) (n := 35) rfl ?_
          refine j_goto C dX8_kindTold_35 (n := 4) (by decide) ?_
          exact j_to (ih _ _) ⟨rfl, ⟨rfl, ⟨rfl, trivial⟩⟩⟩
        · refine j_iload_n C dX8_kindTold_26 rfl (n := 27) rfl ?_
          refine j_goto C dX8_kindTold_27 (n := 31) (by decide) ?_
          refine j_istore_n C dX8_kindTold_31 (Nat.le_of_ble_eq_true rfl) (n := 32) rfl ?_
          refine j_iinc C dX8_kindTold_32 rfl ic_1 (Nat.le_of_ble_eq_true rfl) (n := 35) rfl ?_
          refine j_goto C dX8_kindTold_35 (n := 4) (by decide) ?_
          exact j_to (ih _ _) ⟨rfl, ⟨rfl, ⟨rfl, trivial⟩⟩⟩
      · rw [knd_4]
        refine j_aald C 7 3 (cM_7 g _) rfl (by decide) (b := g.2.2.2.2.1 4) rfl dX8_kindTold_19 rfl ?_
        refine j_bnd (fun r4 q3 => ?_)
        refine j_cz C (run_V C mi_X8_isWord lm_X8_290 iv_X8_isWord ⟨Nat.le_of_ble_eq_true rfl, Nat.le_of_ble_eq_true rfl⟩ (m_X8_isWord_4 _ _ _ q3) (cM_0 g _) rfl rfl rfl rfl (Nat.le_of_ble_eq_true rfl) dX8_kindTold_20) (n := 23) rfl (fun b5 => ?_)
        refine j_if_eq C dX8_kindTold_23 (tgt := 30) (n := 26) (by decide) rfl (fun q6 => ?_) (fun q6 => ?_)
        · refine j_iload_n C dX8_kindTold_30 rfl (n := 31) rfl ?_
          refine j_istore_n C dX8_kindTold_31 (Nat.le_of_ble_eq_true rfl) (n := 32) rfl ?_
          refine j_iinc C dX8_kindTold_32 rfl ic_1 (Nat.le_of_ble_eq_true rfl) (n := 35) rfl ?_
          refine j_goto C dX8_kindTold_35 (n := 4) (by decide) ?_
          exact j_to (ih _ _) ⟨rfl, ⟨rfl, ⟨rfl, trivial⟩⟩⟩
        · refine j_iload_n C dX8_kindTold_26 rfl (n := 27) rfl ?_
          refine j_goto C dX8_kindTold_27 (n := 31) (by decide) ?_
          refine j_istore_n C dX8_kindTold_31 (Nat.le_of_ble_eq_true rfl) (n := 32) rfl ?_
          refine j_iinc C dX8_kindTold_32 rfl ic_1 (Nat.le_of_ble_eq_true rfl) (n := 35) rfl ?_
          refine j_goto C dX8_kindTold_35 (n := 4) (by decide) ?_
          exact j_to (ih _ _) ⟨rfl, ⟨rfl, ⟨rfl, trivial⟩⟩⟩
      · rw [knd_5]
        refine j_aald C 7 3 (cM_7 g _) rfl (by decide) (b := g.2.2.2.2.1 5) rfl dX8_kindTold_19 rfl ?_
        refine j_bnd (fun r4 q3 => ?_)
        refine j_cz C (run_V C mi_X8_isWord lm_X8_290 iv_X8_isWord ⟨Nat.le_of_ble_eq_true rfl, Nat.le_of_ble_eq_true rfl⟩ (m_X8_isWord_5 _ _ _ q3) (cM_0 g _) rfl rfl rfl rfl (Nat.le_of_ble_eq_true rfl) dX8_kindTold_20) (n := 23) rfl (fun b5 => ?_)
        refine j_if_eq C dX8_kindTold_23 (tgt := 30) (n := 26) (by decide) rfl (fun q6 => ?_) (fun q6 => ?_)
        · refine j_iload_n C dX8_kindTold_30 rfl (n := 31) rfl ?_
          refine j_istore_n C dX8_kindTold_31 (Nat.le_of_ble_eq_true rfl) (n := 32) rfl ?_
          refine j_iinc C dX8_kindTold_32 rfl ic_1 (Nat.le_of_ble_eq_true rfl) (n := 35) rfl ?_
          refine j_goto C dX8_kindTold_35 (n := 4) (by decide) ?_
          exact j_to (ih _ _) ⟨rfl, ⟨rfl, ⟨rfl, trivial⟩⟩⟩
        · refine j_iload_n C dX8_kindTold_26 rfl (n := 27) rfl ?_
          refine j_goto C dX8_kindTold_27 (n := 31) (by decide) ?_
          refine j_istore_n C dX8_kindTold_31 (Nat.le_of_ble_eq_true rfl) (n := 32) rfl ?_
          refine j_iinc C dX8_kindTold_32 rfl ic_1 (Nat.le_of_ble_eq_true rfl) (n := 35) rfl ?_
          refine j_goto C dX8_kindTold_35 (n := 4) (by decide) ?_
          exact j_to (ih _ _) ⟨rfl, ⟨rfl, ⟨rfl, trivial⟩⟩⟩
      · rw [knd_6]
        refine j_aald C 7 3 (cM_7 g _) rfl (by decide) (b := g.2.2.2.2.1 6) rfl dX8_kindTold_19 rfl ?_
        refine j_bnd (fun r4 q3 => ?_)
        refine j_cz C (run_V C mi_X8_isWord lm_X8_290 iv_X8_isWord ⟨Nat.le_of_ble_eq_true rfl, Nat.le_of_ble_eq_true rfl⟩ (m_X8_isWord_6 _ _ _ q3) (cM_0 g _) rfl rfl rfl rfl (Nat.le_of_ble_eq_true rfl) dX8_kindTold_20) (n := 23) rfl (fun b5 => ?_)
        refine j_if_eq C dX8_kindTold_23 (tgt := 30) (n := 26) (by decide) rfl (fun q6 => ?_) (fun q6 => ?_)
        · refine j_iload_n C dX8_kindTold_30 rfl (n := 31) rfl ?_
          refine j_istore_n C dX8_kindTold_31 (Nat.le_of_ble_eq_true rfl) (n := 32) rfl ?_
          refine j_iinc C dX8_kindTold_32 rfl ic_1 (Nat.le_of_ble_eq_true rfl) (n := 35) rfl ?_
          refine j_goto C dX8_kindTold_35 (n := 4) (by decide) ?_
          exact j_to (ih _ _) ⟨rfl, ⟨rfl, ⟨rfl, trivial⟩⟩⟩
        · refine j_iload_n C dX8_kindTold_26 rfl (n := 27) rfl ?_
          refine j_goto C dX8_kindTold_27 (n := 31) (by decide) ?_
          refine j_istore_n C dX8_kindTold_31 (Nat.le_of_ble_eq_true rfl) (n := 32) rfl ?_
          refine j_iinc C dX8_kindTold_32 rfl ic_1 (Nat.le_of_ble_eq_true rfl) (n := 35) rfl ?_
          refine j_goto C dX8_kindTold_35 (n := 4) (by decide) ?_
          exact j_to (ih _ _) ⟨rfl, ⟨rfl, ⟨rfl, trivial⟩⟩⟩
set_option maxRecDepth 20000 in
theorem m_X8_kindTold (l : Launch) (fu : Nat) (h : Hp) {r : Int32} (e : X8_kindTold fu h = some r) : CT l yX8_kindTold cX8_kindTold 3 (some .int) 5 cwM (fun g => [rf g 0]) h (qI cwM r h) := by
  refine ct_of (QR := (fun r : Int32 => qI cwM r h)) (by decide +kernel) (fun g => ⟨rfl, Nat.le_of_ble_eq_true rfl⟩) e (fun x g hl C => ?_)
  unfold X8_kindTold
  refine j_iconst C dX8_kindTold_0 ic_m1 (n := 1) rfl ?_
  refine j_istore_n C dX8_kindTold_1 (Nat.le_of_ble_eq_true rfl) (n := 2) rfl ?_
  refine j_iconst C dX8_kindTold_2 ic_0 (n := 3) rfl ?_
  refine j_istore_n C dX8_kindTold_3 (Nat.le_of_ble_eq_true rfl) (n := 4) rfl ?_
  exact j_to (j_X8_kindTold_4 C _ _ _ _ _) ⟨rfl, ⟨rfl, ⟨rfl, trivial⟩⟩⟩
-- X8_must
set_option maxRecDepth 20000 in
theorem m_X8_must (l : Launch) (fu : Nat) (x1 : Int32) (h : Hp) {r : Hp} (e : X8_must fu x1 h = some r) : CT l yX8_must cX8_must 2 none 2 cwM (fun g => [rf g 0, .int x1]) h (qV cwM r) := by
  refine ct_of (QR := (fun r : Hp => qV cwM r)) (by decide +kernel) (fun g => ⟨rfl, Nat.le_of_ble_eq_true rfl⟩) e (fun x g hl C => ?_)
  unfold X8_must
  refine j_aload_n C dX8_must_0 rfl (n := 1) rfl ?_
  refine j_aload_n C dX8_must_1 rfl (n := 2) rfl ?_
  refine gf_X8_276 C 0 (cM_0 g _) rfl dX8_must_2 (n := 5) rfl ?_
  refine j_if_ne C dX8_must_5 (tgt := 12) (n := 8) (by decide) rfl (fun q1 => ?_) (fun q1 => ?_)
  · refine j_iconst C dX8_must_12 ic_1 (n := 13) rfl ?_
    refine j_goto C dX8_must_13 (n := 17) (by decide) ?_
    refine pf_X8_276 C 0 (cM_0 g _) (Or.inr rfl) (sM_0_15 g _ _) rfl dX8_must_17 (n := 20) rfl ?_
    refine j_aload_n C dX8_must_20 rfl (n := 21) rfl ?_
    refine gf_X8_276 C 0 (cM_0 g _) rfl dX8_must_21 (n := 24) rfl ?_
    refine j_if_ne C dX8_must_24 (tgt := 31) (n := 27) (by decide) rfl (fun q2 => ?_) (fun q2 => ?_)
    · exact j_retV C dX8_must_31
    · refine j_aload_n C dX8_must_27 rfl (n := 28) rfl ?_
      refine j_bnd (fun h4 q3 => ?_)
      refine j_cv C (run_V C mi_X8_next0 lm_X8_280 iv_X8_next0 ⟨Nat.le_of_ble_eq_true rfl, Nat.le_of_ble_eq_true rfl⟩ (m_X8_next0 _ _ _ q3) (cM_0 g _) rfl rfl rfl rfl (Nat.le_of_ble_eq_true rfl) dX8_must_28) (n := 31) rfl ?_
      exact j_retV C dX8_must_31
  · refine j_iload_n C dX8_must_8 rfl (n := 9) rfl ?_
    refine j_if_ne C dX8_must_9 (tgt := 16) (n := 12) (by decide) rfl (fun q5 => ?_) (fun q5 => ?_)
    · refine j_iconst C dX8_must_16 ic_0 (n := 17) rfl ?_
      refine pf_X8_276 C 0 (cM_0 g _) (Or.inl rfl) (sM_0_15 g _ _) rfl dX8_must_17 (n := 20) rfl ?_
      refine j_aload_n C dX8_must_20 rfl (n := 21) rfl ?_
      refine gf_X8_276 C 0 (cM_0 g _) rfl dX8_must_21 (n := 24) rfl ?_
      refine j_if_ne C dX8_must_24 (tgt := 31) (n := 27) (by decide) rfl (fun q6 => ?_) (fun q6 => ?_)
      · exact j_retV C dX8_must_31
      · refine j_aload_n C dX8_must_27 rfl (n := 28) rfl ?_
        refine j_bnd (fun h8 q7 => ?_)
        refine j_cv C (run_V C mi_X8_next0 lm_X8_280 iv_X8_next0 ⟨Nat.le_of_ble_eq_true rfl, Nat.le_of_ble_eq_true rfl⟩ (m_X8_next0 _ _ _ q7) (cM_0 g _) rfl rfl rfl rfl (Nat.le_of_ble_eq_true rfl) dX8_must_28) (n := 31) rfl ?_
        exact j_retV C dX8_must_31
    · refine j_iconst C dX8_must_12 ic_1 (n := 13) rfl ?_
      refine j_goto C dX8_must_13 (n := 17) (by decide) ?_
      refine pf_X8_276 C 0 (cM_0 g _) (Or.inr rfl) (sM_0_15 g _ _) rfl dX8_must_17 (n := 20) rfl ?_
      refine j_aload_n C dX8_must_20 rfl (n := 21) rfl ?_
      refine gf_X8_276 C 0 (cM_0 g _) rfl dX8_must_21 (n := 24) rfl ?_
      refine j_if_ne C dX8_must_24 (tgt := 31) (n := 27) (by decide) rfl (fun q9 => ?_) (fun q9 => ?_)
      · exact j_retV C dX8_must_31
      · refine j_aload_n C dX8_must_27 rfl (n := 28) rfl ?_
        refine j_bnd (fun h11 q10 => ?_)
        refine j_cv C (run_V C mi_X8_next0 lm_X8_280 iv_X8_next0 ⟨Nat.le_of_ble_eq_true rfl, Nat.le_of_ble_eq_true rfl⟩ (m_X8_next0 _ _ _ q10) (cM_0 g _) rfl rfl rfl rfl (Nat.le_of_ble_eq_true rfl) dX8_must_28) (n := 31) rfl ?_
        exact j_retV C dX8_must_31
-- X8_isNext
set_option maxRecDepth 20000 in
theorem m_X8_isNext_10 (l : Launch) (fu : Nat) (h : Hp) {r : Int32 × Hp} (e : X8_isNext fu 10 h = some r) : CT l yX8_isNext cX8_isNext 3 (some .boolean) 5 cwM (fun g => [rf g 0, .ref (g.2.2.2.2.1 10)]) h (qZ cwM r.1 r.2) := by
  refine ct_of (QR := (fun r : Int32 × Hp => qZ cwM r.1 r.2)) (by decide +kernel) (fun g => ⟨rfl, Nat.le_of_ble_eq_true rfl⟩) e (fun x g hl C => ?_)
  unfold X8_isNext
  refine j_aload_n C dX8_isNext_0 rfl (n := 1) rfl ?_
  refine gf_X8_276 C 0 (cM_0 g _) rfl dX8_isNext_1 (n := 4) rfl ?_
  refine j_if_ne C dX8_isNext_4 (tgt := 19) (n := 7) (by decide) rfl (fun q1 => ?_) (fun q1 => ?_)
  · refine j_iconst C dX8_isNext_19 ic_0 (n := 20) rfl ?_
    refine j_istore_n C dX8_isNext_20 (Nat.le_of_ble_eq_true rfl) (n := 21) rfl ?_
    refine j_iload_n C dX8_isNext_21 rfl (n := 22) rfl ?_
    refine j_if_eq C dX8_isNext_22 (tgt := 30) (n := 25) (by decide) rfl (fun q2 => ?_) (fun q2 => ?_)
    · refine j_iload_n C dX8_isNext_30 rfl (n := 31) rfl ?_
      exact j_retZP C (Or.inl rfl) dX8_isNext_31
    · refine j_aload_n C dX8_isNext_25 rfl (n := 26) rfl ?_
      refine j_iconst C dX8_isNext_26 ic_1 (n := 27) rfl ?_
      refine j_bnd (fun h4 q3 => ?_)
      refine j_cv C (run_V C mi_X8_must lm_X8_283 iv_X8_must ⟨Nat.le_of_ble_eq_true rfl, Nat.le_of_ble_eq_true rfl⟩ (m_X8_must _ _ _ _ q3) (cM_0 g _) rfl rfl rfl rfl (Nat.le_of_ble_eq_true rfl) dX8_isNext_27) (n := 30) rfl ?_
      refine j_iload_n C dX8_isNext_30 rfl (n := 31) rfl ?_
      exact j_retZP C (Or.inl rfl) dX8_isNext_31
  · refine j_aload_n C dX8_isNext_7 rfl (n := 8) rfl ?_
    refine j_aload_n C dX8_isNext_8 rfl (n := 9) rfl ?_
    refine j_bnd (fun r6 q5 => ?_)
    refine j_cz C (run_V C mi_X8_isWord lm_X8_290 iv_X8_isWord ⟨Nat.le_of_ble_eq_true rfl, Nat.le_of_ble_eq_true rfl⟩ (m_X8_isWord_10 _ _ _ q5) (cM_0 g _) rfl rfl rfl rfl (Nat.le_of_ble_eq_true rfl) dX8_isNext_9) (n := 12) rfl (fun b7 => ?_)
    refine j_if_eq C dX8_isNext_12 (tgt := 19) (n := 15) (by decide) rfl (fun q8 => ?_) (fun q8 => ?_)
    · refine j_iconst C dX8_isNext_19 ic_0 (n := 20) rfl ?_
      refine j_istore_n C dX8_isNext_20 (Nat.le_of_ble_eq_true rfl) (n := 21) rfl ?_
      refine j_iload_n C dX8_isNext_21 rfl (n := 22) rfl ?_
      refine j_if_eq C dX8_isNext_22 (tgt := 30) (n := 25) (by decide) rfl (fun q9 => ?_) (fun q9 => ?_)
      · refine j_iload_n C dX8_isNext_30 rfl (n := 31) rfl ?_
        exact j_retZP C (Or.inl rfl) dX8_isNext_31
      · refine j_aload_n C dX8_isNext_25 rfl (n := 26) rfl ?_
        refine j_iconst C dX8_isNext_26 ic_1 (n := 27) rfl ?_
        refine j_bnd (fun h11 q10 => ?_)
        refine j_cv C (run_V C mi_X8_must lm_X8_283 iv_X8_must ⟨Nat.le_of_ble_eq_true rfl, Nat.le_of_ble_eq_true rfl⟩ (m_X8_must _ _ _ _ q10) (cM_0 g _) rfl rfl rfl rfl (Nat.le_of_ble_eq_true rfl) dX8_isNext_27) (n := 30) rfl ?_
        refine j_iload_n C dX8_isNext_30 rfl (n := 31) rfl ?_
        exact j_retZP C (Or.inl rfl) dX8_isNext_31
    · refine j_iconst C dX8_isNext_15 ic_1 (n := 16) rfl ?_
      refine j_goto C dX8_isNext_16 (n := 20) (by decide) ?_
      refine j_istore_n C dX8_isNext_20 (Nat.le_of_ble_eq_true rfl) (n := 21) rfl ?_
      refine j_iload_n C dX8_isNext_21 rfl (n := 22) rfl ?_
      refine j_if_eq C dX8_isNext_22 (tgt := 30) (n := 25) (by decide) rfl (fun q12 => ?_) (fun q12 => ?_)
      · refine j_iload_n C dX8_isNext_30 rfl (n := 31) rfl ?_
        exact j_retZP C (Or.inr rfl) dX8_isNext_31
      · refine j_aload_n C dX8_isNext_25 rfl (n := 26) rfl ?_
        refine j_iconst C dX8_isNext_26 ic_1 (n := 27) rfl ?_
        refine j_bnd (fun h14 q13 => ?_)
        refine j_cv C (run_V C mi_X8_must lm_X8_283 iv_X8_must ⟨Nat.le_of_ble_eq_true rfl, Nat.le_of_ble_eq_true rfl⟩ (m_X8_must _ _ _ _ q13) (cM_0 g _) rfl rfl rfl rfl (Nat.le_of_ble_eq_true rfl) dX8_isNext_27) (n := 30) rfl ?_
        refine j_iload_n C dX8_isNext_30 rfl (n := 31) rfl ?_
        exact j_retZP C (Or.inr rfl) dX8_isNext_31
-- X8_isNext
set_option maxRecDepth 20000 in
theorem m_X8_isNext_12 (l : Launch) (fu : Nat) (h : Hp) {r : Int32 × Hp} (e : X8_isNext fu 12 h = some r) : CT l yX8_isNext cX8_isNext 3 (some .boolean) 5 cwM (fun g => [rf g 0, .ref (g.2.2.2.2.1 12)]) h (qZ cwM r.1 r.2) := by
  refine ct_of (QR := (fun r : Int32 × Hp => qZ cwM r.1 r.2)) (by decide +kernel) (fun g => ⟨rfl, Nat.le_of_ble_eq_true rfl⟩) e (fun x g hl C => ?_)
  unfold X8_isNext
  refine j_aload_n C dX8_isNext_0 rfl (n := 1) rfl ?_
  refine gf_X8_276 C 0 (cM_0 g _) rfl dX8_isNext_1 (n := 4) rfl ?_
  refine j_if_ne C dX8_isNext_4 (tgt := 19) (n := 7) (by decide) rfl (fun q1 => ?_) (fun q1 => ?_)
  · refine j_iconst C dX8_isNext_19 ic_0 (n := 20) rfl ?_
    refine j_istore_n C dX8_isNext_20 (Nat.le_of_ble_eq_true rfl) (n := 21) rfl ?_
    refine j_iload_n C dX8_isNext_21 rfl (n := 22) rfl ?_
    refine j_if_eq C dX8_isNext_22 (tgt := 30) (n := 25) (by decide) rfl (fun q2 => ?_) (fun q2 => ?_)
    · refine j_iload_n C dX8_isNext_30 rfl (n := 31) rfl ?_
      exact j_retZP C (Or.inl rfl) dX8_isNext_31
    · refine j_aload_n C dX8_isNext_25 rfl (n := 26) rfl ?_
      refine j_iconst C dX8_isNext_26 ic_1 (n := 27) rfl ?_
      refine j_bnd (fun h4 q3 => ?_)
      refine j_cv C (run_V C mi_X8_must lm_X8_283 iv_X8_must ⟨Nat.le_of_ble_eq_true rfl, Nat.le_of_ble_eq_true rfl⟩ (m_X8_must _ _ _ _ q3) (cM_0 g _) rfl rfl rfl rfl (Nat.le_of_ble_eq_true rfl) dX8_isNext_27) (n := 30) rfl ?_
      refine j_iload_n C dX8_isNext_30 rfl (n := 31) rfl ?_
      exact j_retZP C (Or.inl rfl) dX8_isNext_31
  · refine j_aload_n C dX8_isNext_7 rfl (n := 8) rfl ?_
    refine j_aload_n C dX8_isNext_8 rfl (n := 9) rfl ?_
    refine j_bnd (fun r6 q5 => ?_)
    refine j_cz C (run_V C mi_X8_isWord lm_X8_290 iv_X8_isWord ⟨Nat.le_of_ble_eq_true rfl, Nat.le_of_ble_eq_true rfl⟩ (m_X8_isWord_12 _ _ _ q5) (cM_0 g _) rfl rfl rfl rfl (Nat.le_of_ble_eq_true rfl) dX8_isNext_9) (n := 12) rfl (fun b7 => ?_)
    refine j_if_eq C dX8_isNext_12 (tgt := 19) (n := 15) (by decide) rfl (fun q8 => ?_) (fun q8 => ?_)
    · refine j_iconst C dX8_isNext_19 ic_0 (n := 20) rfl ?_
      refine j_istore_n C dX8_isNext_20 (Nat.le_of_ble_eq_true rfl) (n := 21) rfl ?_
      refine j_iload_n C dX8_isNext_21 rfl (n := 22) rfl ?_
      refine j_if_eq C dX8_isNext_22 (tgt := 30) (n := 25) (by decide) rfl (fun q9 => ?_) (fun q9 => ?_)
      · refine j_iload_n C dX8_isNext_30 rfl (n := 31) rfl ?_
        exact j_retZP C (Or.inl rfl) dX8_isNext_31
      · refine j_aload_n C dX8_isNext_25 rfl (n := 26) rfl ?_
        refine j_iconst C dX8_isNext_26 ic_1 (n := 27) rfl ?_
        refine j_bnd (fun h11 q10 => ?_)
        refine j_cv C (run_V C mi_X8_must lm_X8_283 iv_X8_must ⟨Nat.le_of_ble_eq_true rfl, Nat.le_of_ble_eq_true rfl⟩ (m_X8_must _ _ _ _ q10) (cM_0 g _) rfl rfl rfl rfl (Nat.le_of_ble_eq_true rfl) dX8_isNext_27) (n := 30) rfl ?_
        refine j_iload_n C dX8_isNext_30 rfl (n := 31) rfl ?_
        exact j_retZP C (Or.inl rfl) dX8_isNext_31
    · refine j_iconst C dX8_isNext_15 ic_1 (n := 16) rfl ?_
      refine j_goto C dX8_isNext_16 (n := 20) (by decide) ?_
      refine j_istore_n C dX8_isNext_20 (Nat.le_of_ble_eq_true rfl) (n := 21) rfl ?_
      refine j_iload_n C dX8_isNext_21 rfl (n := 22) rfl ?_
      refine j_if_eq C dX8_isNext_22 (tgt := 30) (n := 25) (by decide) rfl (fun q12 => ?_) (fun q12 => ?_)
      · refine j_iload_n C dX8_isNext_30 rfl (n := 31) rfl ?_
        exact j_retZP C (Or.inr rfl) dX8_isNext_31
      · refine j_aload_n C dX8_isNext_25 rfl (n := 26) rfl ?_
        refine j_iconst C dX8_isNext_26 ic_1 (n := 27) rfl ?_
        refine j_bnd (fun h14 q13 => ?_)
        refine j_cv C (run_V C mi_X8_must lm_X8_283 iv_X8_must ⟨Nat.le_of_ble_eq_true rfl, Nat.le_of_ble_eq_true rfl⟩ (m_X8_must _ _ _ _ q13) (cM_0 g _) rfl rfl rfl rfl (Nat.le_of_ble_eq_true rfl) dX8_isNext_27) (n := 30) rfl ?_
        refine j_iload_n C dX8_isNext_30 rfl (n := 31) rfl ?_
        exact j_retZP C (Or.inr rfl) dX8_isNext_31
-- X8_isNext
set_option maxRecDepth 20000 in
theorem m_X8_isNext_11 (l : Launch) (fu : Nat) (h : Hp) {r : Int32 × Hp} (e : X8_isNext fu 11 h = some r) : CT l yX8_isNext cX8_isNext 3 (some .boolean) 5 cwM (fun g => [rf g 0, .ref (g.2.2.2.2.1 11)]) h (qZ cwM r.1 r.2) := by
  refine ct_of (QR := (fun r : Int32 × Hp => qZ cwM r.1 r.2)) (by decide +kernel) (fun g => ⟨rfl, Nat.le_of_ble_eq_true rfl⟩) e (fun x g hl C => ?_)
  unfold X8_isNext
  refine j_aload_n C dX8_isNext_0 rfl (n := 1) rfl ?_
  refine gf_X8_276 C 0 (cM_0 g _) rfl dX8_isNext_1 (n := 4) rfl ?_
  refine j_if_ne C dX8_isNext_4 (tgt := 19) (n := 7) (by decide) rfl (fun q1 => ?_) (fun q1 => ?_)
  · refine j_iconst C dX8_isNext_19 ic_0 (n := 20) rfl ?_
    refine j_istore_n C dX8_isNext_20 (Nat.le_of_ble_eq_true rfl) (n := 21) rfl ?_
    refine j_iload_n C dX8_isNext_21 rfl (n := 22) rfl ?_
    refine j_if_eq C dX8_isNext_22 (tgt := 30) (n := 25) (by decide) rfl (fun q2 => ?_) (fun q2 => ?_)
    · refine j_iload_n C dX8_isNext_30 rfl (n := 31) rfl ?_
      exact j_retZP C (Or.inl rfl) dX8_isNext_31
    · refine j_aload_n C dX8_isNext_25 rfl (n := 26) rfl ?_
      refine j_iconst C dX8_isNext_26 ic_1 (n := 27) rfl ?_
      refine j_bnd (fun h4 q3 => ?_)
      refine j_cv C (run_V C mi_X8_must lm_X8_283 iv_X8_must ⟨Nat.le_of_ble_eq_true rfl, Nat.le_of_ble_eq_true rfl⟩ (m_X8_must _ _ _ _ q3) (cM_0 g _) rfl rfl rfl rfl (Nat.le_of_ble_eq_true rfl) dX8_isNext_27) (n := 30) rfl ?_
      refine j_iload_n C dX8_isNext_30 rfl (n := 31) rfl ?_
      exact j_retZP C (Or.inl rfl) dX8_isNext_31
  · refine j_aload_n C dX8_isNext_7 rfl (n := 8) rfl ?_
    refine j_aload_n C dX8_isNext_8 rfl (n := 9) rfl ?_
    refine j_bnd (fun r6 q5 => ?_)
    refine j_cz C (run_V C mi_X8_isWord lm_X8_290 iv_X8_isWord ⟨Nat.le_of_ble_eq_true rfl, Nat.le_of_ble_eq_true rfl⟩ (m_X8_isWord_11 _ _ _ q5) (cM_0 g _) rfl rfl rfl rfl (Nat.le_of_ble_eq_true rfl) dX8_isNext_9) (n := 12) rfl (fun b7 => ?_)
    refine j_if_eq C dX8_isNext_12 (tgt := 19) (n := 15) (by decide) rfl (fun q8 => ?_) (fun q8 => ?_)
    · refine j_iconst C dX8_isNext_19 ic_0 (n := 20) rfl ?_
      refine j_istore_n C dX8_isNext_20 (Nat.le_of_ble_eq_true rfl) (n := 21) rfl ?_
      refine j_iload_n C dX8_isNext_21 rfl (n := 22) rfl ?_
      refine j_if_eq C dX8_isNext_22 (tgt := 30) (n := 25) (by decide) rfl (fun q9 => ?_) (fun q9 => ?_)
      · refine j_iload_n C dX8_isNext_30 rfl (n := 31) rfl ?_
        exact j_retZP C (Or.inl rfl) dX8_isNext_31
      · refine j_aload_n C dX8_isNext_25 rfl (n := 26) rfl ?_
        refine j_iconst C dX8_isNext_26 ic_1 (n := 27) rfl ?_
        refine j_bnd (fun h11 q10 => ?_)
        refine j_cv C (run_V C mi_X8_must lm_X8_283 iv_X8_must ⟨Nat.le_of_ble_eq_true rfl, Nat.le_of_ble_eq_true rfl⟩ (m_X8_must _ _ _ _ q10) (cM_0 g _) rfl rfl rfl rfl (Nat.le_of_ble_eq_true rfl) dX8_isNext_27) (n := 30) rfl ?_
        refine j_iload_n C dX8_isNext_30 rfl (n := 31) rfl ?_
        exact j_retZP C (Or.inl rfl) dX8_isNext_31
    · refine j_iconst C dX8_isNext_15 ic_1 (n := 16) rfl ?_
      refine j_goto C dX8_isNext_16 (n := 20) (by decide) ?_
      refine j_istore_n C dX8_isNext_20 (Nat.le_of_ble_eq_true rfl) (n := 21) rfl ?_
      refine j_iload_n C dX8_isNext_21 rfl (n := 22) rfl ?_
      refine j_if_eq C dX8_isNext_22 (tgt := 30) (n := 25) (by decide) rfl (fun q12 => ?_) (fun q12 => ?_)
      · refine j_iload_n C dX8_isNext_30 rfl (n := 31) rfl ?_
        exact j_retZP C (Or.inr rfl) dX8_isNext_31
      · refine j_aload_n C dX8_isNext_25 rfl (n := 26) rfl ?_
        refine j_iconst C dX8_isNext_26 ic_1 (n := 27) rfl ?_
        refine j_bnd (fun h14 q13 => ?_)
        refine j_cv C (run_V C mi_X8_must lm_X8_283 iv_X8_must ⟨Nat.le_of_ble_eq_true rfl, Nat.le_of_ble_eq_true rfl⟩ (m_X8_must _ _ _ _ q13) (cM_0 g _) rfl rfl rfl rfl (Nat.le_of_ble_eq_true rfl) dX8_isNext_27) (n := 30) rfl ?_
        refine j_iload_n C dX8_isNext_30 rfl (n := 31) rfl ?_
        exact j_retZP C (Or.inr rfl) dX8_isNext_31
-- X8_isNext
set_option maxRecDepth 20000 in
theorem m_X8_isNext_7 (l : Launch) (fu : Nat) (h : Hp) {r : Int32 × Hp} (e : X8_isNext fu 7 h = some r) : CT l yX8_isNext cX8_isNext 3 (some .boolean) 5 cwM (fun g => [rf g 0, .ref (g.2.2.2.2.1 7)]) h (qZ cwM r.1 r.2) := by
  refine ct_of (QR := (fun r : Int32 × Hp => qZ cwM r.1 r.2)) (by decide +kernel) (fun g => ⟨rfl, Nat.le_of_ble_eq_true rfl⟩) e (fun x g hl C => ?_)
  unfold X8_isNext
  refine j_aload_n C dX8_isNext_0 rfl (n := 1) rfl ?_
  refine gf_X8_276 C 0 (cM_0 g _) rfl dX8_isNext_1 (n := 4) rfl ?_
  refine j_if_ne C dX8_isNext_4 (tgt := 19) (n := 7) (by decide) rfl (fun q1 => ?_) (fun q1 => ?_)
  · refine j_iconst C dX8_isNext_19 ic_0 (n := 20) rfl ?_
    refine j_istore_n C dX8_isNext_20 (Nat.le_of_ble_eq_true rfl) (n := 21) rfl ?_
    refine j_iload_n C dX8_isNext_21 rfl (n := 22) rfl ?_
    refine j_if_eq C dX8_isNext_22 (tgt := 30) (n := 25) (by decide) rfl (fun q2 => ?_) (fun q2 => ?_)
    · refine j_iload_n C dX8_isNext_30 rfl (n := 31) rfl ?_
      exact j_retZP C (Or.inl rfl) dX8_isNext_31
    · refine j_aload_n C dX8_isNext_25 rfl (n := 26) rfl ?_
      refine j_iconst C dX8_isNext_26 ic_1 (n := 27) rfl ?_
      refine j_bnd (fun h4 q3 => ?_)
      refine j_cv C (run_V C mi_X8_must lm_X8_283 iv_X8_must ⟨Nat.le_of_ble_eq_true rfl, Nat.le_of_ble_eq_true rfl⟩ (m_X8_must _ _ _ _ q3) (cM_0 g _) rfl rfl rfl rfl (Nat.le_of_ble_eq_true rfl) dX8_isNext_27) (n := 30) rfl ?_
      refine j_iload_n C dX8_isNext_30 rfl (n := 31) rfl ?_
      exact j_retZP C (Or.inl rfl) dX8_isNext_31
  · refine j_aload_n C dX8_isNext_7 rfl (n := 8) rfl ?_
    refine j_aload_n C dX8_isNext_8 rfl (n := 9) rfl ?_
    refine j_bnd (fun r6 q5 => ?_)
    refine j_cz C (run_V C mi_X8_isWord lm_X8_290 iv_X8_isWord ⟨Nat.le_of_ble_eq_true rfl, Nat.le_of_ble_eq_true rfl⟩ (m_X8_isWord_7 _ _ _ q5) (cM_0 g _) rfl rfl rfl rfl (Nat.le_of_ble_eq_true rfl) dX8_isNext_9) (n := 12) rfl (fun b7 => ?_)
    refine j_if_eq C dX8_isNext_12 (tgt := 19) (n := 15) (by decide) rfl (fun q8 => ?_) (fun q8 => ?_)
    · refine j_iconst C dX8_isNext_19 ic_0 (n := 20) rfl ?_
      refine j_istore_n C dX8_isNext_20 (Nat.le_of_ble_eq_true rfl) (n := 21) rfl ?_
      refine j_iload_n C dX8_isNext_21 rfl (n := 22) rfl ?_
      refine j_if_eq C dX8_isNext_22 (tgt := 30) (n := 25) (by decide) rfl (fun q9 => ?_) (fun q9 => ?_)
      · refine j_iload_n C dX8_isNext_30 rfl (n := 31) rfl ?_
        exact j_retZP C (Or.inl rfl) dX8_isNext_31
      · refine j_aload_n C dX8_isNext_25 rfl (n := 26) rfl ?_
        refine j_iconst C dX8_isNext_26 ic_1 (n := 27) rfl ?_
        refine j_bnd (fun h11 q10 => ?_)
        refine j_cv C (run_V C mi_X8_must lm_X8_283 iv_X8_must ⟨Nat.le_of_ble_eq_true rfl, Nat.le_of_ble_eq_true rfl⟩ (m_X8_must _ _ _ _ q10) (cM_0 g _) rfl rfl rfl rfl (Nat.le_of_ble_eq_true rfl) dX8_isNext_27) (n := 30) rfl ?_
        refine j_iload_n C dX8_isNext_30 rfl (n := 31) rfl ?_
        exact j_retZP C (Or.inl rfl) dX8_isNext_31
    · refine j_iconst C dX8_isNext_15 ic_1 (n := 16) rfl ?_
      refine j_goto C dX8_isNext_16 (n := 20) (by decide) ?_
      refine j_istore_n C dX8_isNext_20 (Nat.le_of_ble_eq_true rfl) (n := 21) rfl ?_
      refine j_iload_n C dX8_isNext_21 rfl (n := 22) rfl ?_
      refine j_if_eq C dX8_isNext_22 (tgt := 30) (n := 25) (by decide) rfl (fun q12 => ?_) (fun q12 => ?_)
      · refine j_iload_n C dX8_isNext_30 rfl (n := 31) rfl ?_
        exact j_retZP C (Or.inr rfl) dX8_isNext_31
      · refine j_aload_n C dX8_isNext_25 rfl (n := 26) rfl ?_
        refine j_iconst C dX8_isNext_26 ic_1 (n := 27) rfl ?_
        refine j_bnd (fun h14 q13 => ?_)
        refine j_cv C (run_V C mi_X8_must lm_X8_283 iv_X8_must ⟨Nat.le_of_ble_eq_true rfl, Nat.le_of_ble_eq_true rfl⟩ (m_X8_must _ _ _ _ q13) (cM_0 g _) rfl rfl rfl rfl (Nat.le_of_ble_eq_true rfl) dX8_isNext_27) (n := 30) rfl ?_
        refine j_iload_n C dX8_isNext_30 rfl (n := 31) rfl ?_
        exact j_retZP C (Or.inr rfl) dX8_isNext_31
-- X8_isNext
set_option maxRecDepth 20000 in
theorem m_X8_isNext_8 (l : Launch) (fu : Nat) (h : Hp) {r : Int32 × Hp} (e : X8_isNext fu 8 h = some r) : CT l yX8_isNext cX8_isNext 3 (some .boolean) 5 cwM (fun g => [rf g 0, .ref (g.2.2.2.2.1 8)]) h (qZ cwM r.1 r.2) := by
  refine ct_of (QR := (fun r : Int32 × Hp => qZ cwM r.1 r.2)) (by decide +kernel) (fun g => ⟨rfl, Nat.le_of_ble_eq_true rfl⟩) e (fun x g hl C => ?_)
  unfold X8_isNext
  refine j_aload_n C dX8_isNext_0 rfl (n := 1) rfl ?_
  refine gf_X8_276 C 0 (cM_0 g _) rfl dX8_isNext_1 (n := 4) rfl ?_
  refine j_if_ne C dX8_isNext_4 (tgt := 19) (n := 7) (by decide) rfl (fun q1 => ?_) (fun q1 => ?_)
  · refine j_iconst C dX8_isNext_19 ic_0 (n := 20) rfl ?_
    refine j_istore_n C dX8_isNext_20 (Nat.le_of_ble_eq_true rfl) (n := 21) rfl ?_
    refine j_iload_n C dX8_isNext_21 rfl (n := 22) rfl ?_
    refine j_if_eq C dX8_isNext_22 (tgt := 30) (n := 25) (by decide) rfl (fun q2 => ?_) (fun q2 => ?_)
    · refine j_iload_n C dX8_isNext_30 rfl (n := 31) rfl ?_
      exact j_retZP C (Or.inl rfl) dX8_isNext_31
    · refine j_aload_n C dX8_isNext_25 rfl (n := 26) rfl ?_
      refine j_iconst C dX8_isNext_26 ic_1 (n := 27) rfl ?_
      refine j_bnd (fun h4 q3 => ?_)
      refine j_cv C (run_V C mi_X8_must lm_X8_283 iv_X8_must ⟨Nat.le_of_ble_eq_true rfl, Nat.le_of_ble_eq_true rfl⟩ (m_X8_must _ _ _ _ q3) (cM_0 g _) rfl rfl rfl rfl (Nat.le_of_ble_eq_true rfl) dX8_isNext_27) (n := 30) rfl ?_
      refine j_iload_n C dX8_isNext_30 rfl (n := 31) rfl ?_
      exact j_retZP C (Or.inl rfl) dX8_isNext_31
  · refine j_aload_n C dX8_isNext_7 rfl (n := 8) rfl ?_
    refine j_aload_n C dX8_isNext_8 rfl (n := 9) rfl ?_
    refine j_bnd (fun r6 q5 => ?_)
    refine j_cz C (run_V C mi_X8_isWord lm_X8_290 iv_X8_isWord ⟨Nat.le_of_ble_eq_true rfl, Nat.le_of_ble_eq_true rfl⟩ (m_X8_isWord_8 _ _ _ q5) (cM_0 g _) rfl rfl rfl rfl (Nat.le_of_ble_eq_true rfl) dX8_isNext_9) (n := 12) rfl (fun b7 => ?_)
    refine j_if_eq C dX8_isNext_12 (tgt := 19) (n := 15) (by decide) rfl (fun q8 => ?_) (fun q8 => ?_)
    · refine j_iconst C dX8_isNext_19 ic_0 (n := 20) rfl ?_
      refine j_istore_n C dX8_isNext_20 (Nat.le_of_ble_eq_true rfl) (n := 21) rfl ?_
      refine j_iload_n C dX8_isNext_21 rfl (n := 22) rfl ?_
      refine j_if_eq C dX8_isNext_22 (tgt := 30) (n := 25) (by decide) rfl (fun q9 => ?_) (fun q9 => ?_)
      · refine j_iload_n C dX8_isNext_30 rfl (n := 31) rfl ?_
        exact j_retZP C (Or.inl rfl) dX8_isNext_31
      · refine j_aload_n C dX8_isNext_25 rfl (n := 26) rfl ?_
        refine j_iconst C dX8_isNext_26 ic_1 (n := 27) rfl ?_
        refine j_bnd (fun h11 q10 => ?_)
        refine j_cv C (run_V C mi_X8_must lm_X8_283 iv_X8_must ⟨Nat.le_of_ble_eq_true rfl, Nat.le_of_ble_eq_true rfl⟩ (m_X8_must _ _ _ _ q10) (cM_0 g _) rfl rfl rfl rfl (Nat.le_of_ble_eq_true rfl) dX8_isNext_27) (n := 30) rfl ?_
        refine j_iload_n C dX8_isNext_30 rfl (n := 31) rfl ?_
        exact j_retZP C (Or.inl rfl) dX8_isNext_31
    · refine j_iconst C dX8_isNext_15 ic_1 (n := 16) rfl ?_
      refine j_goto C dX8_isNext_16 (n := 20) (by decide) ?_
      refine j_istore_n C dX8_isNext_20 (Nat.le_of_ble_eq_true rfl) (n := 21) rfl ?_
      refine j_iload_n C dX8_isNext_21 rfl (n := 22) rfl ?_
      refine j_if_eq C dX8_isNext_22 (tgt := 30) (n := 25) (by decide) rfl (fun q12 => ?_) (fun q12 => ?_)
      · refine j_iload_n C dX8_isNext_30 rfl (n := 31) rfl ?_
        exact j_retZP C (Or.inr rfl) dX8_isNext_31
      · refine j_aload_n C dX8_isNext_25 rfl (n := 26) rfl ?_
        refine j_iconst C dX8_isNext_26 ic_1 (n := 27) rfl ?_
        refine j_bnd (fun h14 q13 => ?_)
        refine j_cv C (run_V C mi_X8_must lm_X8_283 iv_X8_must ⟨Nat.le_of_ble_eq_true rfl, Nat.le_of_ble_eq_true rfl⟩ (m_X8_must _ _ _ _ q13) (cM_0 g _) rfl rfl rfl rfl (Nat.le_of_ble_eq_true rfl) dX8_isNext_27) (n := 30) rfl ?_
        refine j_iload_n C dX8_isNext_30 rfl (n := 31) rfl ?_
        exact j_retZP C (Or.inr rfl) dX8_isNext_31
-- X8_isNext
set_option maxRecDepth 20000 in
theorem m_X8_isNext_9 (l : Launch) (fu : Nat) (h : Hp) {r : Int32 × Hp} (e : X8_isNext fu 9 h = some r) : CT l yX8_isNext cX8_isNext 3 (some .boolean) 5 cwM (fun g => [rf g 0, .ref (g.2.2.2.2.1 9)]) h (qZ cwM r.1 r.2) := by
  refine ct_of (QR := (fun r : Int32 × Hp => qZ cwM r.1 r.2)) (by decide +kernel) (fun g => ⟨rfl, Nat.le_of_ble_eq_true rfl⟩) e (fun x g hl C => ?_)
  unfold X8_isNext
  refine j_aload_n C dX8_isNext_0 rfl (n := 1) rfl ?_
  refine gf_X8_276 C 0 (cM_0 g _) rfl dX8_isNext_1 (n := 4) rfl ?_
  refine j_if_ne C dX8_isNext_4 (tgt := 19) (n := 7) (by decide) rfl (fun q1 => ?_) (fun q1 => ?_)
  · refine j_iconst C dX8_isNext_19 ic_0 (n := 20) rfl ?_
    refine j_istore_n C dX8_isNext_20 (Nat.le_of_ble_eq_true rfl) (n := 21) rfl ?_
    refine j_iload_n C dX8_isNext_21 rfl (n := 22) rfl ?_
    refine j_if_eq C dX8_isNext_22 (tgt := 30) (n := 25) (by decide) rfl (fun q2 => ?_) (fun q2 => ?_)
    · refine j_iload_n C dX8_isNext_30 rfl (n := 31) rfl ?_
      exact j_retZP C (Or.inl rfl) dX8_isNext_31
    · refine j_aload_n C dX8_isNext_25 rfl (n := 26) rfl ?_
      refine j_iconst C dX8_isNext_26 ic_1 (n := 27) rfl ?_
      refine j_bnd (fun h4 q3 => ?_)
      refine j_cv C (run_V C mi_X8_must lm_X8_283 iv_X8_must ⟨Nat.le_of_ble_eq_true rfl, Nat.le_of_ble_eq_true rfl⟩ (m_X8_must _ _ _ _ q3) (cM_0 g _) rfl rfl rfl rfl (Nat.le_of_ble_eq_true rfl) dX8_isNext_27) (n := 30) rfl ?_
      refine j_iload_n C dX8_isNext_30 rfl (n := 31) rfl ?_
      exact j_retZP C (Or.inl rfl) dX8_isNext_31
  · refine j_aload_n C dX8_isNext_7 rfl (n := 8) rfl ?_
    refine j_aload_n C dX8_isNext_8 rfl (n := 9) rfl ?_
    refine j_bnd (fun r6 q5 => ?_)
    refine j_cz C (run_V C mi_X8_isWord lm_X8_290 iv_X8_isWord ⟨Nat.le_of_ble_eq_true rfl, Nat.le_of_ble_eq_true rfl⟩ (m_X8_isWord_9 _ _ _ q5) (cM_0 g _) rfl rfl rfl rfl (Nat.le_of_ble_eq_true rfl) dX8_isNext_9) (n := 12) rfl (fun b7 => ?_)
    refine j_if_eq C dX8_isNext_12 (tgt := 19) (n := 15) (by decide) rfl (fun q8 => ?_) (fun q8 => ?_)
    · refine j_iconst C dX8_isNext_19 ic_0 (n := 20) rfl ?_
      refine j_istore_n C dX8_isNext_20 (Nat.le_of_ble_eq_true rfl) (n := 21) rfl ?_
      refine j_iload_n C dX8_isNext_21 rfl (n := 22) rfl ?_
      refine j_if_eq C dX8_isNext_22 (tgt := 30) (n := 25) (by decide) rfl (fun q9 => ?_) (fun q9 => ?_)
      · refine j_iload_n C dX8_isNext_30 rfl (n := 31) rfl ?_
        exact j_retZP C (Or.inl rfl) dX8_isNext_31
      · refine j_aload_n C dX8_isNext_25 rfl (n := 26) rfl ?_
        refine j_iconst C dX8_isNext_26 ic_1 (n := 27) rfl ?_
        refine j_bnd (fun h11 q10 => ?_)
        refine j_cv C (run_V C mi_X8_must lm_X8_283 iv_X8_must ⟨Nat.le_of_ble_eq_true rfl, Nat.le_of_ble_eq_true rfl⟩ (m_X8_must _ _ _ _ q10) (cM_0 g _) rfl rfl rfl rfl (Nat.le_of_ble_eq_true rfl) dX8_isNext_27) (n := 30) rfl ?_
        refine j_iload_n C dX8_isNext_30 rfl (n := 31) rfl ?_
        exact j_retZP C (Or.inl rfl) dX8_isNext_31
    · refine j_iconst C dX8_isNext_15 ic_1 (n := 16) rfl ?_
      refine j_goto C dX8_isNext_16 (n := 20) (by decide) ?_
      refine j_istore_n C dX8_isNext_20 (Nat.le_of_ble_eq_true rfl) (n := 21) rfl ?_
      refine j_iload_n C dX8_isNext_21 rfl (n := 22) rfl ?_
      refine j_if_eq C dX8_isNext_22 (tgt := 30) (n := 25) (by decide) rfl (fun q12 => ?_) (fun q12 => ?_)
      · refine j_iload_n C dX8_isNext_30 rfl (n := 31) rfl ?_
        exact j_retZP C (Or.inr rfl) dX8_isNext_31
      · refine j_aload_n C dX8_isNext_25 rfl (n := 26) rfl ?_
        refine j_iconst C dX8_isNext_26 ic_1 (n := 27) rfl ?_
        refine j_bnd (fun h14 q13 => ?_)
        refine j_cv C (run_V C mi_X8_must lm_X8_283 iv_X8_must ⟨Nat.le_of_ble_eq_true rfl, Nat.le_of_ble_eq_true rfl⟩ (m_X8_must _ _ _ _ q13) (cM_0 g _) rfl rfl rfl rfl (Nat.le_of_ble_eq_true rfl) dX8_isNext_27) (n := 30) rfl ?_
        refine j_iload_n C dX8_isNext_30 rfl (n := 31) rfl ?_
        exact j_retZP C (Or.inr rfl) dX8_isNext_31
