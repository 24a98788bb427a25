-- X3_sortOf
set_option maxRecDepth 20000 in
theorem m_X3_sortOf (l : Launch) (x0 : Int32) (h : Hp) : CT l yX3_sortOf cX3_sortOf 1 (some .int) 0 cwX (fun g => [.int x0]) h (qI cwX (X3_sortOf x0) h) := by
  refine ct_of (QR := (fun r : Int32 => qI cwX r h)) (by decide +kernel) (fun g => ⟨rfl, Nat.le_of_ble_eq_true rfl⟩) (X3_sortOf_e x0) (fun x g hl C => ?_)
  unfold X3_sortOf_o
  refine j_iload_n C dX3_sortOf_0 rfl (n := 1) rfl ?_
  refine j_bipush C dX3_sortOf_1 bp_97 (n := 3) rfl ?_
  refine j_icmp_lt C dX3_sortOf_3 (tgt := 14) (n := 6) (by decide) rfl (fun q1 => ?_) (fun q1 => ?_)
  · refine j_iload_n C dX3_sortOf_14 rfl (n := 15) rfl ?_
    refine j_bipush C dX3_sortOf_15 bp_48 (n := 17) rfl ?_
    refine j_icmp_lt C dX3_sortOf_17 (tgt := 28) (n := 20) (by decide) rfl (fun q2 => ?_) (fun q2 => ?_)
    · refine j_iload_n C dX3_sortOf_28 rfl (n := 29) rfl ?_
      refine j_bipush C dX3_sortOf_29 bp_59 (n := 31) rfl ?_
      refine j_icmp_ne C dX3_sortOf_31 (tgt := 38) (n := 34) (by decide) rfl (fun q3 => ?_) (fun q3 => ?_)
      · refine j_iload_n C dX3_sortOf_38 rfl (n := 39) rfl ?_
        refine j_bipush C dX3_sortOf_39 bp_32 (n := 41) rfl ?_
        refine j_icmp_ne C dX3_sortOf_41 (tgt := 48) (n := 44) (by decide) rfl (fun q4 => ?_) (fun q4 => ?_)
        · refine j_iconst C dX3_sortOf_48 ic_5 (n := 49) rfl ?_
          exact j_ret C dX3_sortOf_49
        · refine j_iconst C dX3_sortOf_44 ic_4 (n := 45) rfl ?_
          refine j_goto C dX3_sortOf_45 (n := 49) (by decide) ?_
          exact j_ret C dX3_sortOf_49
      · refine j_iconst C dX3_sortOf_34 ic_3 (n := 35) rfl ?_
        refine j_goto C dX3_sortOf_35 (n := 49) (by decide) ?_
        exact j_ret C dX3_sortOf_49
    · refine j_iload_n C dX3_sortOf_20 rfl (n := 21) rfl ?_
      refine j_bipush C dX3_sortOf_21 bp_57 (n := 23) rfl ?_
      refine j_icmp_gt C dX3_sortOf_23 (tgt := 28) (n := 26) (by decide) rfl (fun q5 => ?_) (fun q5 => ?_)
      · refine j_iload_n C dX3_sortOf_28 rfl (n := 29) rfl ?_
        refine j_bipush C dX3_sortOf_29 bp_59 (n := 31) rfl ?_
        refine j_icmp_ne C dX3_sortOf_31 (tgt := 38) (n := 34) (by decide) rfl (fun q6 => ?_) (fun q6 => ?_)
        · refine j_iload_n C dX3_sortOf_38 rfl (n := 39) rfl ?_
          refine j_bipush C dX3_sortOf_39 bp_32 (n := 41) rfl ?_
          refine j_icmp_ne C dX3_sortOf_41 (tgt := 48) (n := 44) (by decide) rfl (fun q7 => ?_) (fun q7 => ?_)
          · refine j_iconst C dX3_sortOf_48 ic_5 (n := 49) rfl ?_
            exact j_ret C dX3_sortOf_49
          · refine j_iconst C dX3_sortOf_44 ic_4 (n := 45) rfl ?_
            refine j_goto C dX3_sortOf_45 (n := 49) (by decide) ?_
            exact j_ret C dX3_sortOf_49
        · refine j_iconst C dX3_sortOf_34 ic_3 (n := 35) rfl ?_
          refine j_goto C dX3_sortOf_35 (n := 49) (by decide) ?_
          exact j_ret C dX3_sortOf_49
      · refine j_iconst C dX3_sortOf_26 ic_2 (n := 27) rfl ?_
        exact j_ret C dX3_sortOf_27
  · refine j_iload_n C dX3_sortOf_6 rfl (n := 7) rfl ?_
    refine j_bipush C dX3_sortOf_7 bp_122 (n := 9) rfl ?_
    refine j_icmp_gt C dX3_sortOf_9 (tgt := 14) (n := 12) (by decide) rfl (fun q8 => ?_) (fun q8 => ?_)
    · refine j_iload_n C dX3_sortOf_14 rfl (n := 15) rfl ?_
      refine j_bipush C dX3_sortOf_15 bp_48 (n := 17) rfl ?_
      refine j_icmp_lt C dX3_sortOf_17 (tgt := 28) (n := 20) (by decide) rfl (fun q9 => ?_) (fun q9 => ?_)
      · refine j_iload_n C dX3_sortOf_28 rfl (n := 29) rfl ?_
        refine j_bipush C dX3_sortOf_29 bp_59 (n := 31) rfl ?_
        refine j_icmp_ne C dX3_sortOf_31 (tgt := 38) (n := 34) (by decide) rfl (fun q10 => ?_) (fun q10 => ?_)
        · refine j_iload_n C dX3_sortOf_38 rfl (n := 39) rfl ?_
          refine j_bipush C dX3_sortOf_39 bp_32 (n := 41) rfl ?_
          refine j_icmp_ne C dX3_sortOf_41 (tgt := 48) (n := 44) (by decide) rfl (fun q11 => ?_) (fun q11 => ?_)
          · refine j_iconst C dX3_sortOf_48 ic_5 (n := 49) rfl ?_
            exact j_ret C dX3_sortOf_49
          · refine j_iconst C dX3_sortOf_44 ic_4 (n := 45) rfl ?_
            refine j_goto C dX3_sortOf_45 (n := 49) (by decide) ?_
            exact j_ret C dX3_sortOf_49
        · refine j_iconst C dX3_sortOf_34 ic_3 (n := 35) rfl ?_
          refine j_goto C dX3_sortOf_35 (n := 49) (by decide) ?_
          exact j_ret C dX3_sortOf_49
      · refine j_iload_n C dX3_sortOf_20 rfl (n := 21) rfl ?_
        refine j_bipush C dX3_sortOf_21 bp_57 (n := 23) rfl ?_
        refine j_icmp_gt C dX3_sortOf_23 (tgt := 28) (n := 26) (by decide) rfl (fun q12 => ?_) (fun q12 => ?_)
        · refine j_iload_n C dX3_sortOf_28 rfl (n := 29) rfl ?_
          refine j_bipush C dX3_sortOf_29 bp_59 (n := 31) rfl ?_
          refine j_icmp_ne C dX3_sortOf_31 (tgt := 38) (n := 34) (by decide) rfl (fun q13 => ?_) (fun q13 => ?_)
          · refine j_iload_n C dX3_sortOf_38 rfl (n := 39) rfl ?_
            refine j_bipush C dX3_sortOf_39 bp_32 (n := 41) rfl ?_
            refine j_icmp_ne C dX3_sortOf_41 (tgt := 48) (n := 44) (by decide) rfl (fun q14 => ?_) (fun q14 => ?_)
            · refine j_iconst C dX3_sortOf_48 ic_5 (n := 49) rfl ?_
              exact j_ret C dX3_sortOf_49
            · refine j_iconst C dX3_sortOf_44 ic_4 (n := 45) rfl ?_
              refine j_goto C dX3_sortOf_45 (n := 49) (by decide) ?_
              exact j_ret C dX3_sortOf_49
          · refine j_iconst C dX3_sortOf_34 ic_3 (n := 35) rfl ?_
            refine j_goto C dX3_sortOf_35 (n := 49) (by decide) ?_
            exact j_ret C dX3_sortOf_49
        · refine j_iconst C dX3_sortOf_26 ic_2 (n := 27) rfl ?_
          exact j_ret C dX3_sortOf_27
    · refine j_iconst C dX3_sortOf_12 ic_1 (n := 13) rfl ?_
      exact j_ret C dX3_sortOf_13
-- X3_begin
set_option maxRecDepth 20000 in
theorem j_X3_begin_47 {x : Fx} {g : Gl} (C : Ok x g RX3 cX3_begin 3 none) (s1 : Int32) (h : Hp) : J x g cwX 3 0 (fun r : Hp => qV cwX r) 47 [] [.int s1, rf g 42] h (X3_begin_47 s1 h) := by
  unfold X3_begin_47
  refine j_iconst C dX3_begin_47 ic_1 (n := 48) rfl ?_
  refine j_iadd C dX3_begin_48 (n := 49) rfl ?_
  refine pf_X3_40 C 42 (cX_42 g _) (sX_42_5 g _ _) rfl dX3_begin_49 (n := 52) rfl ?_
  exact j_retV C dX3_begin_52
set_option maxRecDepth 20000 in
theorem m_X3_begin (l : Launch) (x1 : Int32) (x2 : Int32) (h : Hp) {r : Hp} (e : X3_begin x1 x2 h = some r) : CT l yX3_begin cX3_begin 3 none 0 cwX (fun g => [rf g 42, .int x1, .int x2]) h (qV cwX r) := by
  refine ct_of (QR := (fun r : Hp => qV cwX r)) (by decide +kernel) (fun g => ⟨rfl, Nat.le_of_ble_eq_true rfl⟩) e (fun x g hl C => ?_)
  unfold X3_begin
  refine j_aload_n C dX3_begin_0 rfl (n := 1) rfl ?_
  refine gf_X3_40 C 42 (cX_42 g _) rfl dX3_begin_1 (n := 4) rfl ?_
  refine j_aload_n C dX3_begin_4 rfl (n := 5) rfl ?_
  refine gf_X3_9 C 42 (cX_42 g _) rfl dX3_begin_5 (n := 8) rfl ?_
  refine j_alen C 43 0 (cX_43 g _) rfl of_121 dX3_begin_8 (n := 9) rfl ?_
  refine j_icmp_ge C dX3_begin_9 (tgt := 52) (n := 12) (by decide) rfl (fun q1 => ?_) (fun q1 => ?_)
  · exact j_retV C dX3_begin_52
  · refine j_aload_n C dX3_begin_12 rfl (n := 13) rfl ?_
    refine gf_X3_9 C 42 (cX_42 g _) rfl dX3_begin_13 (n := 16) rfl ?_
    refine j_aload_n C dX3_begin_16 rfl (n := 17) rfl ?_
    refine gf_X3_40 C 42 (cX_42 g _) rfl dX3_begin_17 (n := 20) rfl ?_
    refine j_iload_n C dX3_begin_20 rfl (n := 21) rfl ?_
    refine j_iast C 43 (cX_43 g _) (aX_43 g _ _ _) dX3_begin_21 (n := 22) rfl ?_
    refine j_aload_n C dX3_begin_22 rfl (n := 23) rfl ?_
    refine gf_X3_15 C 42 (cX_42 g _) rfl dX3_begin_23 (n := 26) rfl ?_
    refine j_aload_n C dX3_begin_26 rfl (n := 27) rfl ?_
    refine gf_X3_40 C 42 (cX_42 g _) rfl dX3_begin_27 (n := 30) rfl ?_
    refine j_iload_n C dX3_begin_30 rfl (n := 31) rfl ?_
    refine j_iast C 44 (cX_44 g _) (aX_44 g _ _ _) dX3_begin_31 (n := 32) rfl ?_
    refine j_aload_n C dX3_begin_32 rfl (n := 33) rfl ?_
    refine gf_X3_18 C 42 (cX_42 g _) rfl dX3_begin_33 (n := 36) rfl ?_
    refine j_aload_n C dX3_begin_36 rfl (n := 37) rfl ?_
    refine gf_X3_40 C 42 (cX_42 g _) rfl dX3_begin_37 (n := 40) rfl ?_
    refine j_iconst C dX3_begin_40 ic_0 (n := 41) rfl ?_
    refine j_iast C 45 (cX_45 g _) (aX_45 g _ _ _) dX3_begin_41 (n := 42) rfl ?_
    refine j_aload_n C dX3_begin_42 rfl (n := 43) rfl ?_
    refine j_dup C dX3_begin_43 rfl (n := 44) rfl ?_
    refine gf_X3_40 C 42 (cX_42 g _) rfl dX3_begin_44 (n := 47) rfl ?_
    exact j_to (j_X3_begin_47 C _ _) trivial
-- X3_lengthen
set_option maxRecDepth 20000 in
theorem m_X3_lengthen (l : Launch) (x1 : Int32) (x2 : Int32) (h : Hp) {r : Hp} (e : X3_lengthen x1 x2 h = some r) : CT l yX3_lengthen cX3_lengthen 3 none 1 cwX (fun g => [rf g 42, .int x1, .int x2]) h (qV cwX r) := by
  refine ct_of (QR := (fun r : Hp => qV cwX r)) (by decide +kernel) (fun g => ⟨rfl, Nat.le_of_ble_eq_true rfl⟩) e (fun x g hl C => ?_)
  unfold X3_lengthen
  refine j_iload_n C dX3_lengthen_0 rfl (n := 1) rfl ?_
  refine j_if_lt C dX3_lengthen_1 (tgt := 43) (n := 4) (by decide) rfl (fun q1 => ?_) (fun q1 => ?_)
  · refine j_iload_n C dX3_lengthen_43 rfl (n := 44) rfl ?_
    refine j_if_lt C dX3_lengthen_44 (tgt := 57) (n := 47) (by decide) rfl (fun q2 => ?_) (fun q2 => ?_)
    · exact j_retV C dX3_lengthen_57
    · refine j_aload_n C dX3_lengthen_47 rfl (n := 48) rfl ?_
      refine gf_X3_18 C 42 (cX_42 g _) rfl dX3_lengthen_48 (n := 51) rfl ?_
      refine j_iload_n C dX3_lengthen_51 rfl (n := 52) rfl ?_
      refine j_dup2 C dX3_lengthen_52 rfl rfl (n := 53) rfl ?_
      refine j_iald C 45 (cX_45 g _) dX3_lengthen_53 (n := 54) rfl ?_
      refine j_iconst C dX3_lengthen_54 ic_1 (n := 55) rfl ?_
      refine j_iadd C dX3_lengthen_55 (n := 56) rfl ?_
      refine j_iast C 45 (cX_45 g _) (aX_45 g _ _ _) dX3_lengthen_56 (n := 57) rfl ?_
      exact j_retV C dX3_lengthen_57
  · refine j_aload_n C dX3_lengthen_4 rfl (n := 5) rfl ?_
    refine gf_X3_9 C 42 (cX_42 g _) rfl dX3_lengthen_5 (n := 8) rfl ?_
    refine j_iload_n C dX3_lengthen_8 rfl (n := 9) rfl ?_
    refine j_iald C 43 (cX_43 g _) dX3_lengthen_9 (n := 10) rfl ?_
    refine j_iconst C dX3_lengthen_10 ic_2 (n := 11) rfl ?_
    refine j_icmp_ne C dX3_lengthen_11 (tgt := 43) (n := 14) (by decide) rfl (fun q3 => ?_) (fun q3 => ?_)
    · refine j_iload_n C dX3_lengthen_43 rfl (n := 44) rfl ?_
      refine j_if_lt C dX3_lengthen_44 (tgt := 57) (n := 47) (by decide) rfl (fun q4 => ?_) (fun q4 => ?_)
      · exact j_retV C dX3_lengthen_57
      · refine j_aload_n C dX3_lengthen_47 rfl (n := 48) rfl ?_
        refine gf_X3_18 C 42 (cX_42 g _) rfl dX3_lengthen_48 (n := 51) rfl ?_
        refine j_iload_n C dX3_lengthen_51 rfl (n := 52) rfl ?_
        refine j_dup2 C dX3_lengthen_52 rfl rfl (n := 53) rfl ?_
        refine j_iald C 45 (cX_45 g _) dX3_lengthen_53 (n := 54) rfl ?_
        refine j_iconst C dX3_lengthen_54 ic_1 (n := 55) rfl ?_
        refine j_iadd C dX3_lengthen_55 (n := 56) rfl ?_
        refine j_iast C 45 (cX_45 g _) (aX_45 g _ _ _) dX3_lengthen_56 (n := 57) rfl ?_
        exact j_retV C dX3_lengthen_57
    · refine j_aload_n C dX3_lengthen_14 rfl (n := 15) rfl ?_
      refine gf_X3_18 C 42 (cX_42 g _) rfl dX3_lengthen_15 (n := 18) rfl ?_
      refine j_iload_n C dX3_lengthen_18 rfl (n := 19) rfl ?_
      refine j_sipush C dX3_lengthen_19 sp_1000 (n := 22) rfl ?_
      refine j_aload_n C dX3_lengthen_22 rfl (n := 23) rfl ?_
      refine gf_X3_18 C 42 (cX_42 g _) rfl dX3_lengthen_23 (n := 26) rfl ?_
      refine j_iload_n C dX3_lengthen_26 rfl (n := 27) rfl ?_
      refine j_iald C 45 (cX_45 g _) dX3_lengthen_27 (n := 28) rfl ?_
      refine j_bipush C dX3_lengthen_28 bp_10 (n := 30) rfl ?_
      refine j_imul C dX3_lengthen_30 (n := 31) rfl ?_
      refine j_iload_n C dX3_lengthen_31 rfl (n := 32) rfl ?_
      refine j_iadd C dX3_lengthen_32 (n := 33) rfl ?_
      refine j_bipush C dX3_lengthen_33 bp_48 (n := 35) rfl ?_
      refine j_isub C dX3_lengthen_35 (n := 36) rfl ?_
      refine j_mmin C lm_X3_63 (Nat.le_of_ble_eq_true rfl) (Nat.le_of_ble_eq_true rfl) dX3_lengthen_36 (n := 39) rfl ?_
      refine j_iast C 45 (cX_45 g _) (aX_45 g _ _ _) dX3_lengthen_39 (n := 40) rfl ?_
      refine j_goto C dX3_lengthen_40 (n := 57) (by decide) ?_
      exact j_retV C dX3_lengthen_57
-- X3_cut
set_option maxRecDepth 20000 in
theorem j_X3_cut_71 {x : Fx} {g : Gl} (C : Ok x g RX3 cX3_cut 5 none) (fu : Nat) (k9 : Int32 → Int32 → Hp → Option (Hp)) (hk9 : ∀ (x1 : Int32) (x2 : Int32) (h : Hp), J x g cwX 5 2 (fun r : Hp => qV cwX r) 9 [some (rf g 42), some (.int x1), some (.int x2)] [] h (k9 x1 x2 h)) (x2 : Int32) (x3 : Int32) (h : Hp) : J x g cwX 5 2 (fun r : Hp => qV cwX r) 71 [some (rf g 42), none, some (.int x2), some (.int x3)] [] h (X3_cut_71 fu k9 x2 x3 h) := by
  unfold X3_cut_71
  refine j_iload_n C dX3_cut_71 rfl (n := 72) rfl ?_
  refine j_iconst C dX3_cut_72 ic_4 (n := 73) rfl ?_
  refine j_icmp_eq C dX3_cut_73 (tgt := 95) (n := 76) (by decide) rfl (fun q1 => ?_) (fun q1 => ?_)
  · refine j_iload_n C dX3_cut_95 rfl (n := 96) rfl ?_
    refine j_istore_n C dX3_cut_96 (Nat.le_of_ble_eq_true rfl) (n := 97) rfl ?_
    refine j_iinc C dX3_cut_97 rfl ic_1 (Nat.le_of_ble_eq_true rfl) (n := 100) rfl ?_
    refine j_goto C dX3_cut_100 (n := 9) (by decide) ?_
    exact j_to (hk9 _ _ _) ⟨rfl, ⟨rfl, ⟨rfl, trivial⟩⟩⟩
  · refine j_aload_n C dX3_cut_76 rfl (n := 77) rfl ?_
    refine j_aload_n C dX3_cut_77 rfl (n := 78) rfl ?_
    refine gf_X3_40 C 42 (cX_42 g _) rfl dX3_cut_78 (n := 81) rfl ?_
    refine j_iconst C dX3_cut_81 ic_1 (n := 82) rfl ?_
    refine j_isub C dX3_cut_82 (n := 83) rfl ?_
    refine j_aload_n C dX3_cut_83 rfl (n := 84) rfl ?_
    refine gf_X3_21 C 42 (cX_42 g _) rfl dX3_cut_84 (n := 87) rfl ?_
    refine gf_X3_48 C 40 (cX_40 g _) rfl dX3_cut_87 (n := 90) rfl ?_
    refine j_iload_n C dX3_cut_90 rfl (n := 91) rfl ?_
    refine j_bald C 41 (cX_41 g _) dX3_cut_91 (n := 92) rfl ?_
    refine j_bnd (fun h3 q2 => ?_)
    refine j_cv C (run_V C mi_X3_lengthen lm_X3_60 iv_X3_lengthen ⟨Nat.le_of_ble_eq_true rfl, Nat.le_of_ble_eq_true rfl⟩ (m_X3_lengthen _ _ _ _ q2) (cX_42 g _) rfl rfl rfl rfl (Nat.le_of_ble_eq_true rfl) dX3_cut_92) (n := 95) rfl ?_
    refine j_iload_n C dX3_cut_95 rfl (n := 96) rfl ?_
    refine j_istore_n C dX3_cut_96 (Nat.le_of_ble_eq_true rfl) (n := 97) rfl ?_
    refine j_iinc C dX3_cut_97 rfl ic_1 (Nat.le_of_ble_eq_true rfl) (n := 100) rfl ?_
    refine j_goto C dX3_cut_100 (n := 9) (by decide) ?_
    exact j_to (hk9 _ _ _) ⟨rfl, ⟨rfl, ⟨rfl, trivial⟩⟩⟩
set_option maxRecDepth 20000 in
theorem j_X3_cut_53 {x : Fx} {g : Gl} (C : Ok x g RX3 cX3_cut 5 none) (fu : Nat) (k9 : Int32 → Int32 → Hp → Option (Hp)) (hk9 : ∀ (x1 : Int32) (x2 : Int32) (h : Hp), J x g cwX 5 2 (fun r : Hp => qV cwX r) 9 [some (rf g 42), some (.int x1), some (.int x2)] [] h (k9 x1 x2 h)) (x2 : Int32) (x3 : Int32) (s0 : Int32) (h : Hp) (bs0 : s0 = 0 ∨ s0 = 1) : J x g cwX 5 2 (fun r : Hp => qV cwX r) 53 [some (rf g 42), none, some (.int x2), some (.int x3)] [.int s0] h (X3_cut_53 fu k9 x2 x3 s0 h) := by
  unfold X3_cut_53
  refine j_istore C dX3_cut_53 (Nat.le_of_ble_eq_true rfl) (n := 55) rfl ?_
  refine j_iload C dX3_cut_55 rfl (n := 57) rfl ?_
  refine j_if_ne C dX3_cut_57 (tgt := 71) (n := 60) (by decide) rfl (fun q1 => ?_) (fun q1 => ?_)
  · exact j_to (j_X3_cut_71 C _ _ hk9 _ _ _) ⟨rfl, ⟨rfl, ⟨rfl, trivial⟩⟩⟩
  · refine j_iload_n C dX3_cut_60 rfl (n := 61) rfl ?_
    refine j_iconst C dX3_cut_61 ic_4 (n := 62) rfl ?_
    refine j_icmp_eq C dX3_cut_62 (tgt := 71) (n := 65) (by decide) rfl (fun q2 => ?_) (fun q2 => ?_)
    · exact j_to (j_X3_cut_71 C _ _ hk9 _ _ _) ⟨rfl, ⟨rfl, ⟨rfl, trivial⟩⟩⟩
    · refine j_aload_n C dX3_cut_65 rfl (n := 66) rfl ?_
      refine j_iload_n C dX3_cut_66 rfl (n := 67) rfl ?_
      refine j_iload_n C dX3_cut_67 rfl (n := 68) rfl ?_
      refine j_bnd (fun h4 q3 => ?_)
      refine j_cv C (run_V C mi_X3_begin lm_X3_56 iv_X3_begin ⟨Nat.le_of_ble_eq_true rfl, Nat.le_of_ble_eq_true rfl⟩ (m_X3_begin _ _ _ _ q3) (cX_42 g _) rfl rfl rfl rfl (Nat.le_of_ble_eq_true rfl) dX3_cut_68) (n := 71) rfl ?_
      exact j_to (j_X3_cut_71 C _ _ hk9 _ _ _) ⟨rfl, ⟨rfl, ⟨rfl, trivial⟩⟩⟩
set_option maxRecDepth 20000 in
theorem j_X3_cut_9 {x : Fx} {g : Gl} (C : Ok x g RX3 cX3_cut 5 none) (fu : Nat) : ∀ (n : Nat) (x1 : Int32) (x2 : Int32) (h : Hp), J x g cwX 5 2 (fun r : Hp => qV cwX r) 9 [some (rf g 42), some (.int x1), some (.int x2)] [] h (X3_cut_9 fu n x1 x2 h) := by
  intro n
  induction n with
  | zero =>
    intro x1 x2 h
    rw [X3_cut_9]
    exact j_none
  | succ n ih =>
    intro x1 x2 h
    rw [X3_cut_9]
    refine j_iload_n C dX3_cut_9 rfl (n := 10) rfl ?_
    refine j_aload_n C dX3_cut_10 rfl (n := 11) rfl ?_
    refine gf_X3_21 C 42 (cX_42 g _) rfl dX3_cut_11 (n := 14) rfl ?_
    refine gf_X3_43 C 40 (cX_40 g _) rfl dX3_cut_14 (n := 17) rfl ?_
    refine j_icmp_ge C dX3_cut_17 (tgt := 103) (n := 20) (by decide) rfl (fun q1 => ?_) (fun q1 => ?_)
    · refine j_aload_n C dX3_cut_103 rfl (n := 104) rfl ?_
      refine j_iconst C dX3_cut_104 ic_0 (n := 105) rfl ?_
      refine j_aload_n C dX3_cut_105 rfl (n := 106) rfl ?_
      refine gf_X3_21 C 42 (cX_42 g _) rfl dX3_cut_106 (n := 109) rfl ?_
      refine gf_X3_43 C 40 (cX_40 g _) rfl dX3_cut_109 (n := 112) rfl ?_
      refine j_bnd (fun h3 q2 => ?_)
      refine j_cv C (run_V C mi_X3_begin lm_X3_56 iv_X3_begin ⟨Nat.le_of_ble_eq_true rfl, Nat.le_of_ble_eq_true rfl⟩ (m_X3_begin _ _ _ _ q2) (cX_42 g _) rfl rfl rfl rfl (Nat.le_of_ble_eq_true rfl) dX3_cut_112) (n := 115) rfl ?_
      exact j_retV C dX3_cut_115
    · refine j_aload_n C dX3_cut_20 rfl (n := 21) rfl ?_
      refine gf_X3_21 C 42 (cX_42 g _) rfl dX3_cut_21 (n := 24) rfl ?_
      refine gf_X3_48 C 40 (cX_40 g _) rfl dX3_cut_24 (n := 27) rfl ?_
      refine j_iload_n C dX3_cut_27 rfl (n := 28) rfl ?_
      refine j_bald C 41 (cX_41 g _) dX3_cut_28 (n := 29) rfl ?_
      refine j_ci C (run_S C mi_X3_sortOf lm_X3_52 st_X3_sortOf ⟨Nat.le_of_ble_eq_true rfl, Nat.le_of_ble_eq_true rfl⟩ (m_X3_sortOf _ _ _) rfl rfl rfl (Nat.le_of_ble_eq_true rfl) dX3_cut_29) (n := 32) rfl ?_
      refine j_istore_n C dX3_cut_32 (Nat.le_of_ble_eq_true rfl) (n := 33) rfl ?_
      refine j_iload_n C dX3_cut_33 rfl (n := 34) rfl ?_
      refine j_iload_n C dX3_cut_34 rfl (n := 35) rfl ?_
      refine j_icmp_ne C dX3_cut_35 (tgt := 52) (n := 38) (by decide) rfl (fun q4 => ?_) (fun q4 => ?_)
      · refine j_iconst C dX3_cut_52 ic_0 (n := 53) rfl ?_
        exact j_to (j_X3_cut_53 C _ _ ih _ _ _ _ (Or.inl rfl)) ⟨rfl, ⟨rfl, ⟨rfl, trivial⟩⟩⟩
      · refine j_iload_n C dX3_cut_38 rfl (n := 39) rfl ?_
        refine j_iconst C dX3_cut_39 ic_1 (n := 40) rfl ?_
        refine j_icmp_eq C dX3_cut_40 (tgt := 48) (n := 43) (by decide) rfl (fun q5 => ?_) (fun q5 => ?_)
        · refine j_iconst C dX3_cut_48 ic_1 (n := 49) rfl ?_
          refine j_goto C dX3_cut_49 (n := 53) (by decide) ?_
          exact j_to (j_X3_cut_53 C _ _ ih _ _ _ _ (Or.inr rfl)) ⟨rfl, ⟨rfl, ⟨rfl, trivial⟩⟩⟩
        · refine j_iload_n C dX3_cut_43 rfl (n := 44) rfl ?_
          refine j_iconst C dX3_cut_44 ic_2 (n := 45) rfl ?_
          refine j_icmp_ne C dX3_cut_45 (tgt := 52) (n := 48) (by decide) rfl (fun q6 => ?_) (fun q6 => ?_)
          · refine j_iconst C dX3_cut_52 ic_0 (n := 53) rfl ?_
            exact j_to (j_X3_cut_53 C _ _ ih _ _ _ _ (Or.inl rfl)) ⟨rfl, ⟨rfl, ⟨rfl, trivial⟩⟩⟩
          · refine j_iconst C dX3_cut_48 ic_1 (n := 49) rfl ?_
            refine j_goto C dX3_cut_49 (n := 53) (by decide) ?_
            exact j_to (j_X3_cut_53 C _ _ ih _ _ _ _ (Or.inr rfl)) ⟨rfl, ⟨rfl, ⟨rfl, trivial⟩⟩⟩
set_option maxRecDepth 20000 in
theorem m_X3_cut (l : Launch) (fu : Nat) (h : Hp) {r : Hp} (e : X3_cut fu h = some r) : CT l yX3_cut cX3_cut 5 none 2 cwX (fun g => [rf g 42]) h (qV cwX r) := by
  refine ct_of (QR := (fun r : Hp => qV cwX r)) (by decide +kernel) (fun g => ⟨rfl, Nat.le_of_ble_eq_true rfl⟩) e (fun x g hl C => ?_)
  unfold X3_cut
  refine j_aload_n C dX3_cut_0 rfl (n := 1) rfl ?_
  refine j_iconst C dX3_cut_1 ic_0 (n := 2) rfl ?_
  refine pf_X3_40 C 42 (cX_42 g _) (sX_42_5 g _ _) rfl dX3_cut_2 (n := 5) rfl ?_
  refine j_iconst C dX3_cut_5 ic_4 (n := 6) rfl ?_
  refine j_istore_n C dX3_cut_6 (Nat.le_of_ble_eq_true rfl) (n := 7) rfl ?_
  refine j_iconst C dX3_cut_7 ic_0 (n := 8) rfl ?_
  refine j_istore_n C dX3_cut_8 (Nat.le_of_ble_eq_true rfl) (n := 9) rfl ?_
  exact j_to (j_X3_cut_9 C _ _ _ _ _) ⟨rfl, ⟨rfl, ⟨rfl, trivial⟩⟩⟩
-- X3_wordOf
set_option maxRecDepth 20000 in
theorem m_X3_wordOf_1 (l : Launch) (x0 : Int32) (q1 : x0 = (1 : Int32)) (h : Hp) : CT l yX3_wordOf cX3_wordOf 1 (some (.object "java/lang/String")) 0 cwX (fun g => [.int x0]) h (qR cwX (fun g => some (g.2.2.2.2.1 1)) h) := by
  refine ct_of (QR := fun _ => qR cwX (fun g => some (g.2.2.2.2.1 1)) h) (E := some ()) (r := ()) (by decide +kernel) (fun g => ⟨rfl, Nat.le_of_ble_eq_true rfl⟩) rfl (fun x g hl C => ?_)
  refine j_iload_n C dX3_wordOf_0 rfl (n := 1) rfl ?_
  refine j_tabIn C dX3_wordOf_1 q1 (off := 39) (by decide) (n := 40) (by decide) ?_
  refine j_ldcS C (sx_X3_103) dX3_wordOf_40 (n := 42) rfl ?_
  exact j_retS C (Or.inl ⟨_, rfl⟩) dX3_wordOf_42 rfl
set_option maxRecDepth 20000 in
theorem m_X3_wordOf_2 (l : Launch) (x0 : Int32) (q2 : x0 = (2 : Int32)) (h : Hp) : CT l yX3_wordOf cX3_wordOf 1 (some (.object "java/lang/String")) 0 cwX (fun g => [.int x0]) h (qR cwX (fun g => some (g.2.2.2.2.1 2)) h) := by
  refine ct_of (QR := fun _ => qR cwX (fun g => some (g.2.2.2.2.1 2)) h) (E := some ()) (r := ()) (by decide +kernel) (fun g => ⟨rfl, Nat.le_of_ble_eq_true rfl⟩) rfl (fun x g hl C => ?_)
  refine j_iload_n C dX3_wordOf_0 rfl (n := 1) rfl ?_
  refine j_tabIn C dX3_wordOf_1 q2 (off := 42) (by decide) (n := 43) (by decide) ?_
  refine j_ldcS C (sx_X3_105) dX3_wordOf_43 (n := 45) rfl ?_
  exact j_retS C (Or.inl ⟨_, rfl⟩) dX3_wordOf_45 rfl
set_option maxRecDepth 20000 in
theorem m_X3_wordOf_3 (l : Launch) (x0 : Int32) (q3 : x0 = (3 : Int32)) (h : Hp) : CT l yX3_wordOf cX3_wordOf 1 (some (.object "java/lang/String")) 0 cwX (fun g => [.int x0]) h (qR cwX (fun g => some (g.2.2.2.2.1 3)) h) := by
  refine ct_of (QR := fun _ => qR cwX (fun g => some (g.2.2.2.2.1 3)) h) (E := some ()) (r := ()) (by decide +kernel) (fun g => ⟨rfl, Nat.le_of_ble_eq_true rfl⟩) rfl (fun x g hl C => ?_)
  refine j_iload_n C dX3_wordOf_0 rfl (n := 1) rfl ?_
  refine j_tabIn C dX3_wordOf_1 q3 (off := 45) (by decide) (n := 46) (by decide) ?_
  refine j_ldcS C (sx_X3_107) dX3_wordOf_46 (n := 48) rfl ?_
  exact j_retS C (Or.inl ⟨_, rfl⟩) dX3_wordOf_48 rfl
set_option maxRecDepth 20000 in
theorem m_X3_wordOf_4 (l : Launch) (x0 : Int32) (q4 : x0 = (4 : Int32)) (h : Hp) : CT l yX3_wordOf cX3_wordOf 1 (some (.object "java/lang/String")) 0 cwX (fun g => [.int x0]) h (qR cwX (fun g => some (g.2.2.2.2.1 4)) h) := by
  refine ct_of (QR := fun _ => qR cwX (fun g => some (g.2.2.2.2.1 4)) h) (E := some ()) (r := ()) (by decide +kernel) (fun g => ⟨rfl, Nat.le_of_ble_eq_true rfl⟩) rfl (fun x g hl C => ?_)
  refine j_iload_n C dX3_wordOf_0 rfl (n := 1) rfl ?_
  refine j_tabIn C dX3_wordOf_1 q4 (off := 48) (by decide) (n := 49) (by decide) ?_
  refine j_ldcS C (sx_X3_109) dX3_wordOf_49 (n := 51) rfl ?_
  exact j_retS C (Or.inl ⟨_, rfl⟩) dX3_wordOf_51 rfl
set_option maxRecDepth 20000 in
theorem m_X3_wordOf_5 (l : Launch) (x0 : Int32) (q5 : x0 = (5 : Int32)) (h : Hp) : CT l yX3_wordOf cX3_wordOf 1 (some (.object "java/lang/String")) 0 cwX (fun g => [.int x0]) h (qR cwX (fun g => some (g.2.2.2.2.1 5)) h) := by
  refine ct_of (QR := fun _ => qR cwX (fun g => some (g.2.2.2.2.1 5)) h) (E := some ()) (r := ()) (by decide +kernel) (fun g => ⟨rfl, Nat.le_of_ble_eq_true rfl⟩) rfl (fun x g hl C => ?_)
  refine j_iload_n C dX3_wordOf_0 rfl (n := 1) rfl ?_
  refine j_tabIn C dX3_wordOf_1 q5 (off := 51) (by decide) (n := 52) (by decide) ?_
  refine j_ldcS C (sx_X3_111) dX3_wordOf_52 (n := 54) rfl ?_
  exact j_retS C (Or.inl ⟨_, rfl⟩) dX3_wordOf_54 rfl
set_option maxRecDepth 20000 in
theorem m_X3_wordOf_6 (l : Launch) (x0 : Int32) (q6 : x0 = (6 : Int32)) (h : Hp) : CT l yX3_wordOf cX3_wordOf 1 (some (.object "java/lang/String")) 0 cwX (fun g => [.int x0]) h (qR cwX (fun g => some (g.2.2.2.2.1 6)) h) := by
  refine ct_of (QR := fun _ => qR cwX (fun g => some (g.2.2.2.2.1 6)) h) (E := some ()) (r := ()) (by decide +kernel) (fun g => ⟨rfl, Nat.le_of_ble_eq_true rfl⟩) rfl (fun x g hl C => ?_)
  refine j_iload_n C dX3_wordOf_0 rfl (n := 1) rfl ?_
  refine j_tabIn C dX3_wordOf_1 q6 (off := 54) (by decide) (n := 55) (by decide) ?_
  refine j_ldcS C (sx_X3_113) dX3_wordOf_55 (n := 57) rfl ?_
  exact j_retS C (Or.inl ⟨_, rfl⟩) dX3_wordOf_57 rfl
set_option maxRecDepth 20000 in
theorem m_X3_wordOf_d (l : Launch) (x0 : Int32) (q1 : ¬ x0 = (1 : Int32)) (q2 : ¬ x0 = (2 : Int32)) (q3 : ¬ x0 = (3 : Int32)) (q4 : ¬ x0 = (4 : Int32)) (q5 : ¬ x0 = (5 : Int32)) (q6 : ¬ x0 = (6 : Int32)) (h : Hp) : CT l yX3_wordOf cX3_wordOf 1 (some (.object "java/lang/String")) 0 cwX (fun g => [.int x0]) h (qR cwX (fun g => some (g.2.2.2.2.1 0)) h) := by
  refine ct_of (QR := fun _ => qR cwX (fun g => some (g.2.2.2.2.1 0)) h) (E := some ()) (r := ()) (by decide +kernel) (fun g => ⟨rfl, Nat.le_of_ble_eq_true rfl⟩) rfl (fun x g hl C => ?_)
  refine j_iload_n C dX3_wordOf_0 rfl (n := 1) rfl ?_
  refine j_tabOut C dX3_wordOf_1 (tabout_1_6 q1 q2 q3 q4 q5 q6) (n := 58) (by decide) ?_
  refine j_ldcS C (sx_X3_115) dX3_wordOf_58 (n := 60) rfl ?_
  exact j_retS C (Or.inl ⟨_, rfl⟩) dX3_wordOf_60 rfl
-- X3_takes
set_option maxRecDepth 20000 in
theorem j_X3_takes_33_1 {x : Fx} {g : Gl} (C : Ok x g RX3 cX3_takes 3 (some .boolean)) (fu : Nat) : ∀ (n : Nat) (x2 : Int32) (h : Hp), J x g cwX 3 4 (fun r : Int32 × Hp => qZ cwX r.1 r.2) 33 [some (rf g 42), some (.ref (g.2.2.2.2.1 1)), some (.int x2)] [] h (X3_takes_33 fu 1 n x2 h) := by
  intro n
  induction n with
  | zero =>
    intro x2 h
    rw [X3_takes_33]
    exact j_none
  | succ n ih =>
    intro x2 h
    rw [X3_takes_33]
    refine j_iload_n C dX3_takes_33 rfl (n := 34) rfl ?_
    refine j_aload_n C dX3_takes_34 rfl (n := 35) rfl ?_
    refine j_ci C (run_len C lm_X3_163 (Nat.le_of_ble_eq_true rfl) (w := 1) (Nat.le_of_ble_eq_true rfl) rfl (Nat.le_of_ble_eq_true rfl) dX3_takes_35) (n := 38) rfl ?_
    refine j_icmp_ge C dX3_takes_38 (tgt := 76) (n := 41) (by decide) rfl (fun q1 => ?_) (fun q1 => ?_)
    · refine j_aload_n C dX3_takes_76 rfl (n := 77) rfl ?_
      refine j_dup C dX3_takes_77 rfl (n := 78) rfl ?_
      refine gf_X3_32 C 42 (cX_42 g _) rfl dX3_takes_78 (n := 81) rfl ?_
      refine j_iconst C dX3_takes_81 ic_1 (n := 82) rfl ?_
      refine j_iadd C dX3_takes_82 (n := 83) rfl ?_
      refine pf_X3_32 C 42 (cX_42 g _) (sX_42_6 g _ _) rfl dX3_takes_83 (n := 86) rfl ?_
      refine j_iconst C dX3_takes_86 ic_1 (n := 87) rfl ?_
      exact j_retZP C (Or.inr rfl) dX3_takes_87
    · refine j_aload_n C dX3_takes_41 rfl (n := 42) rfl ?_
      refine gf_X3_21 C 42 (cX_42 g _) rfl dX3_takes_42 (n := 45) rfl ?_
      refine gf_X3_48 C 40 (cX_40 g _) rfl dX3_takes_45 (n := 48) rfl ?_
      refine j_aload_n C dX3_takes_48 rfl (n := 49) rfl ?_
      refine gf_X3_15 C 42 (cX_42 g _) rfl dX3_takes_49 (n := 52) rfl ?_
      refine j_aload_n C dX3_takes_52 rfl (n := 53) rfl ?_
      refine gf_X3_32 C 42 (cX_42 g _) rfl dX3_takes_53 (n := 56) rfl ?_
      refine j_iald C 44 (cX_44 g _) dX3_takes_56 (n := 57) rfl ?_
      refine j_iload_n C dX3_takes_57 rfl (n := 58) rfl ?_
      refine j_iadd C dX3_takes_58 (n := 59) rfl ?_
      refine j_bald C 41 (cX_41 g _) dX3_takes_59 (n := 60) rfl ?_
      refine j_aload_n C dX3_takes_60 rfl (n := 61) rfl ?_
      refine j_iload_n C dX3_takes_61 rfl (n := 62) rfl ?_
      refine j_chk (fun q2 => ?_)
      refine j_ci C (run_chr C lm_X3_168 (Nat.le_of_ble_eq_true rfl) (w := 1) (Nat.le_of_ble_eq_true rfl) q2 rfl (Nat.le_of_ble_eq_true rfl) dX3_takes_62) (n := 65) rfl ?_
      refine j_icmp_eq C dX3_takes_65 (tgt := 70) (n := 68) (by decide) rfl (fun q3 => ?_) (fun q3 => ?_)
      · refine j_iinc C dX3_takes_70 rfl ic_1 (Nat.le_of_ble_eq_true rfl) (n := 73) rfl ?_
        refine j_goto C dX3_takes_73 (n := 33) (by decide) ?_
        exact j_to (ih _ _) ⟨rfl, ⟨rfl, ⟨rfl, trivial⟩⟩⟩
      · refine j_iconst C dX3_takes_68 ic_0 (n := 69) rfl ?_
        exact j_retZP C (Or.inl rfl) dX3_takes_69
set_option maxRecDepth 20000 in
theorem m_X3_takes_1 (l : Launch) (fu : Nat) (h : Hp) {r : Int32 × Hp} (e : X3_takes fu 1 h = some r) : CT l yX3_takes cX3_takes 3 (some .boolean) 4 cwX (fun g => [rf g 42, .ref (g.2.2.2.2.1 1)]) h (qZ cwX r.1 r.2) := by
  refine ct_of (QR := (fun r : Int32 × Hp => qZ cwX r.1 r.2)) (by decide +kernel) (fun g => ⟨rfl, Nat.le_of_ble_eq_true rfl⟩) e (fun x g hl C => ?_)
  unfold X3_takes
  refine j_aload_n C dX3_takes_0 rfl (n := 1) rfl ?_
  refine gf_X3_9 C 42 (cX_42 g _) rfl dX3_takes_1 (n := 4) rfl ?_
  refine j_aload_n C dX3_takes_4 rfl (n := 5) rfl ?_
  refine gf_X3_32 C 42 (cX_42 g _) rfl dX3_takes_5 (n := 8) rfl ?_
  refine j_iald C 43 (cX_43 g _) dX3_takes_8 (n := 9) rfl ?_
  refine j_iconst C dX3_takes_9 ic_1 (n := 10) rfl ?_
  refine j_icmp_ne C dX3_takes_10 (tgt := 29) (n := 13) (by decide) rfl (fun q1 => ?_) (fun q1 => ?_)
  · refine j_iconst C dX3_takes_29 ic_0 (n := 30) rfl ?_
    exact j_retZP C (Or.inl rfl) dX3_takes_30
  · refine j_aload_n C dX3_takes_13 rfl (n := 14) rfl ?_
    refine gf_X3_18 C 42 (cX_42 g _) rfl dX3_takes_14 (n := 17) rfl ?_
    refine j_aload_n C dX3_takes_17 rfl (n := 18) rfl ?_
    refine gf_X3_32 C 42 (cX_42 g _) rfl dX3_takes_18 (n := 21) rfl ?_
    refine j_iald C 45 (cX_45 g _) dX3_takes_21 (n := 22) rfl ?_
    refine j_aload_n C dX3_takes_22 rfl (n := 23) rfl ?_
    refine j_ci C (run_len C lm_X3_163 (Nat.le_of_ble_eq_true rfl) (w := 1) (Nat.le_of_ble_eq_true rfl) rfl (Nat.le_of_ble_eq_true rfl) dX3_takes_23) (n := 26) rfl ?_
    refine j_icmp_eq C dX3_takes_26 (tgt := 31) (n := 29) (by decide) rfl (fun q2 => ?_) (fun q2 => ?_)
    · refine j_iconst C dX3_takes_31 ic_0 (n := 32) rfl ?_
      refine j_istore_n C dX3_takes_32 (Nat.le_of_ble_eq_true rfl) (n := 33) rfl ?_
      exact j_to (j_X3_takes_33_1 C _ _ _ _) ⟨rfl, ⟨rfl, ⟨rfl, trivial⟩⟩⟩
    · refine j_iconst C dX3_takes_29 ic_0 (n := 30) rfl ?_
      exact j_retZP C (Or.inl rfl) dX3_takes_30
-- X3_takes
set_option maxRecDepth 20000 in
theorem j_X3_takes_33_2 {x : Fx} {g : Gl} (C : Ok x g RX3 cX3_takes 3 (some .boolean)) (fu : Nat) : ∀ (n : Nat) (x2 : Int32) (h : Hp), J x g cwX 3 4 (fun r : Int32 × Hp => qZ cwX r.1 r.2) 33 [some (rf g 42), some (.ref (g.2.2.2.2.1 2)), some (.int x2)] [] h (X3_takes_33 fu 2 n x2 h) := by
  intro n
  induction n with
  | zero =>
    intro x2 h
    rw [X3_takes_33]
    exact j_none
  | succ n ih =>
    intro x2 h
    rw [X3_takes_33]
    refine j_iload_n C dX3_takes_33 rfl (n := 34) rfl ?_
    refine j_aload_n C dX3_takes_34 rfl (n := 35) rfl ?_
    refine j_ci C (run_len C lm_X3_163 (Nat.le_of_ble_eq_true rfl) (w := 2) (Nat.le_of_ble_eq_true rfl) rfl (Nat.le_of_ble_eq_true rfl) dX3_takes_35) (n := 38) rfl ?_
    refine j_icmp_ge C dX3_takes_38 (tgt := 76) (n := 41) (by decide) rfl (fun q1 => ?_) (fun q1 => ?_)
    · refine j_aload_n C dX3_takes_76 rfl (n := 77) rfl ?_
      refine j_dup C dX3_takes_77 rfl (n := 78) rfl ?_
      refine gf_X3_32 C 42 (cX_42 g _) rfl dX3_takes_78 (n := 81) rfl ?_
      refine j_iconst C dX3_takes_81 ic_1 (n := 82) rfl ?_
      refine j_iadd C dX3_takes_82 (n := 83) rfl ?_
      refine pf_X3_32 C 42 (cX_42 g _) (sX_42_6 g _ _) rfl dX3_takes_83 (n := 86) rfl ?_
      refine j_iconst C dX3_takes_86 ic_1 (n := 87) rfl ?_
      exact j_retZP C (Or.inr rfl) dX3_takes_87
    · refine j_aload_n C dX3_takes_41 rfl (n := 42) rfl ?_
      refine gf_X3_21 C 42 (cX_42 g _) rfl dX3_takes_42 (n := 45) rfl ?_
      refine gf_X3_48 C 40 (cX_40 g _) rfl dX3_takes_45 (n := 48) rfl ?_
      refine j_aload_n C dX3_takes_48 rfl (n := 49) rfl ?_
      refine gf_X3_15 C 42 (cX_42 g _) rfl dX3_takes_49 (n := 52) rfl ?_
      refine j_aload_n C dX3_takes_52 rfl (n := 53) rfl ?_
      refine gf_X3_32 C 42 (cX_42 g _) rfl dX3_takes_53 (n := 56) rfl ?_
      refine j_iald C 44 (cX_44 g _) dX3_takes_56 (n := 57) rfl ?_
      refine j_iload_n C dX3_takes_57 rfl (n := 58) rfl ?_
      refine j_iadd C dX3_takes_58 (n := 59) rfl ?_
      refine j_bald C 41 (cX_41 g _) dX3_takes_59 (n := 60) rfl ?_
      refine j_aload_n C dX3_takes_60 rfl (n := 61) rfl ?_
      refine j_iload_n C dX3_takes_61 rfl (n := 62) rfl ?_
      refine j_chk (fun q2 => ?_)
      refine j_ci C (run_chr C lm_X3_168 (Nat.le_of_ble_eq_true rfl) (w := 2) (Nat.le_of_ble_eq_true rfl) q2 rfl (Nat.le_of_ble_eq_true rfl) dX3_takes_62) (n := 65) rfl ?_
      refine j_icmp_eq C dX3_takes_65 (tgt := 70) (n := 68) (by decide) rfl (fun q3 => ?_) (fun q3 => ?_)
      · refine j_iinc C dX3_takes_70 rfl ic_1 (Nat.le_of_ble_eq_true rfl) (n := 73) rfl ?_
        refine j_goto C dX3_takes_73 (n := 33) (by decide) ?_
        exact j_to (ih _ _) ⟨rfl, ⟨rfl, ⟨rfl, trivial⟩⟩⟩
      · refine j_iconst C dX3_takes_68 ic_0 (n := 69) rfl ?_
        exact j_retZP C (Or.inl rfl) dX3_takes_69
set_option maxRecDepth 20000 in
theorem m_X3_takes_2 (l : Launch) (fu : Nat) (h : Hp) {r : Int32 × Hp} (e : X3_takes fu 2 h = some r) : CT l yX3_takes cX3_takes 3 (some .boolean) 4 cwX (fun g => [rf g 42, .ref (g.2.2.2.2.1 2)]) h (qZ cwX r.1 r.2) := by
  refine ct_of (QR := (fun r : Int32 × Hp => qZ cwX r.1 r.2)) (by decide +kernel) (fun g => ⟨rfl, Nat.le_of_ble_eq_true rfl⟩) e (fun x g hl C => ?_)
  unfold X3_takes
  refine j_aload_n C dX3_takes_0 rfl (n := 1) rfl ?_
  refine gf_X3_9 C 42 (cX_42 g _) rfl dX3_takes_1 (n := 4) rfl ?_
  refine j_aload_n C dX3_takes_4 rfl (n := 5) rfl ?_
  refine gf_X3_32 C 42 (cX_42 g _) rfl dX3_takes_5 (n := 8) rfl ?_
  refine j_iald C 43 (cX_43 g _) dX3_takes_8 (n := 9) rfl ?_
  refine j_iconst C dX3_takes_9 ic_1 (n := 10) rfl ?_
  refine j_icmp_ne C dX3_takes_10 (tgt := 29) (n := 13) (by decide) rfl (fun q1 => ?_) (fun q1 => ?_)
  · refine j_iconst C dX3_takes_29 ic_0 (n := 30) rfl ?_
    exact j_retZP C (Or.inl rfl) dX3_takes_30
  · refine j_aload_n C dX3_takes_13 rfl (n := 14) rfl ?_
    refine gf_X3_18 C 42 (cX_42 g _) rfl dX3_takes_14 (n := 17) rfl ?_
    refine j_aload_n C dX3_takes_17 rfl (n := 18) rfl ?_
    refine gf_X3_32 C 42 (cX_42 g _) rfl dX3_takes_18 (n := 21) rfl ?_
    refine j_iald C 45 (cX_45 g _) dX3_takes_21 (n := 22) rfl ?_
    refine j_aload_n C dX3_takes_22 rfl (n := 23) rfl ?_
    refine j_ci C (run_len C lm_X3_163 (Nat.le_of_ble_eq_true rfl) (w := 2) (Nat.le_of_ble_eq_true rfl) rfl (Nat.le_of_ble_eq_true rfl) dX3_takes_23) (n := 26) rfl ?_
    refine j_icmp_eq C dX3_takes_26 (tgt := 31) (n := 29) (by decide) rfl (fun q2 => ?_) (fun q2 => ?_)
    · refine j_iconst C dX3_takes_31 ic_0 (n := 32) rfl ?_
      refine j_istore_n C dX3_takes_32 (Nat.le_of_ble_eq_true rfl) (n := 33) rfl ?_
      exact j_to (j_X3_takes_33_2 C _ _ _ _) ⟨rfl, ⟨rfl, ⟨rfl, trivial⟩⟩⟩
    · refine j_iconst C dX3_takes_29 ic_0 (n := 30) rfl ?_
      exact j_retZP C (Or.inl rfl) dX3_takes_30
-- X3_takes
set_option maxRecDepth 20000 in
theorem j_X3_takes_33_3 {x : Fx} {g : Gl} (C : Ok x g RX3 cX3_takes 3 (some .boolean)) (fu : Nat) : ∀ (n : Nat) (x2 : Int32) (h : Hp), J x g cwX 3 4 (fun r : Int32 × Hp => qZ cwX r.1 r.2) 33 [some (rf g 42), some (.ref (g.2.2.2.2.1 3)), some (.int x2)] [] h (X3_takes_33 fu 3 n x2 h) := by
  intro n
  induction n with
  | zero =>
    intro x2 h
    rw [X3_takes_33]
    exact j_none
  | succ n ih =>
    intro x2 h
    rw [X3_takes_33]
    refine j_iload_n C dX3_takes_33 rfl (n := 34) rfl ?_
    refine j_aload_n C dX3_takes_34 rfl (n := 35) rfl ?_
    refine j_ci C (run_len C lm_X3_163 (Nat.le_of_ble_eq_true rfl) (w := 3) (Nat.le_of_ble_eq_true rfl) rfl (Nat.le_of_ble_eq_true rfl) dX3_takes_35) (n := 38) rfl ?_
    refine j_icmp_ge C dX3_takes_38 (tgt := 76) (n := 41) (by decide) rfl (fun q1 => ?_) (fun q1 => ?_)
    · refine j_aload_n C dX3_takes_76 rfl (n := 77) rfl ?_
      refine j_dup C dX3_takes_77 rfl (n := 78) rfl ?_
      refine gf_X3_32 C 42 (cX_42 g _) rfl dX3_takes_78 (n := 81) rfl ?_
      refine j_iconst C dX3_takes_81 ic_1 (n := 82) rfl ?_
      refine j_iadd C dX3_takes_82 (n := 83) rfl ?_
      refine pf_X3_32 C 42 (cX_42 g _) (sX_42_6 g _ _) rfl dX3_takes_83 (n := 86) rfl ?_
      refine j_iconst C dX3_takes_86 ic_1 (n := 87) rfl ?_
      exact j_retZP C (Or.inr rfl) dX3_takes_87
    · refine j_aload_n C dX3_takes_41 rfl (n := 42) rfl ?_
      refine gf_X3_21 C 42 (cX_42 g _) rfl dX3_takes_42 (n := 45) rfl ?_
      refine gf_X3_48 C 40 (cX_40 g _) rfl dX3_takes_45 (n := 48) rfl ?_
      refine j_aload_n C dX3_takes_48 rfl (n := 49) rfl ?_
      refine gf_X3_15 C 42 (cX_42 g _) rfl dX3_takes_49 (n := 52) rfl ?_
      refine j_aload_n C dX3_takes_52 rfl (n := 53) rfl ?_
      refine gf_X3_32 C 42 (cX_42 g _) rfl dX3_takes_53 (n := 56) rfl ?_
      refine j_iald C 44 (cX_44 g _) dX3_takes_56 (n := 57) rfl ?_
      refine j_iload_n C dX3_takes_57 rfl (n := 58) rfl ?_
      refine j_iadd C dX3_takes_58 (n := 59) rfl ?_
      refine j_bald C 41 (cX_41 g _) dX3_takes_59 (n := 60) rfl ?_
      refine j_aload_n C dX3_takes_60 rfl (n := 61) rfl ?_
      refine j_iload_n C dX3_takes_61 rfl (n := 62) rfl ?_
      refine j_chk (fun q2 => ?_)
      refine j_ci C (run_chr C lm_X3_168 (Nat.le_of_ble_eq_true rfl) (w := 3) (Nat.le_of_ble_eq_true rfl) q2 rfl (Nat.le_of_ble_eq_true rfl) dX3_takes_62) (n := 65) rfl ?_
      refine j_icmp_eq C dX3_takes_65 (tgt := 70) (n := 68) (by decide) rfl (fun q3 => ?_) (fun q3 => ?_)
      · refine j_iinc C dX3_takes_70 rfl ic_1 (Nat.le_of_ble_eq_true rfl) (n := 73) rfl ?_
        refine j_goto C dX3_takes_73 (n := 33) (by decide) ?_
        exact j_to (ih _ _) ⟨rfl, ⟨rfl, ⟨rfl, trivial⟩⟩⟩
      · refine j_iconst C dX3_takes_68 ic_0 (n := 69) rfl ?_
        exact j_retZP C (Or.inl rfl) dX3_takes_69
set_option maxRecDepth 20000 in
theorem m_X3_takes_3 (l : Launch) (fu : Nat) (h : Hp) {r : Int32 × Hp} (e : X3_takes fu 3 h = some r) : CT l yX3_takes cX3_takes 3 (some .boolean) 4 cwX (fun g => [rf g 42, .ref (g.2.2.2.2.1 3)]) h (qZ cwX r.1 r.2) := by
  refine ct_of (QR := (fun r : Int32 × Hp => qZ cwX r.1 r.2)) (by decide +kernel) (fun g => ⟨rfl, Nat.le_of_ble_eq_true rfl⟩) e (fun x g hl C => ?_)
  unfold X3_takes
  refine j_aload_n C dX3_takes_0 rfl (n := 1) rfl ?_
  refine gf_X3_9 C 42 (cX_42 g _) rfl dX3_takes_1 (n := 4) rfl ?_
  refine j_aload_n C dX3_takes_4 rfl (n := 5) rfl ?_
  refine gf_X3_32 C 42 (cX_42 g _) rfl dX3_takes_5 (n := 8) rfl ?_
  refine j_iald C 43 (cX_43 g _) dX3_takes_8 (n := 9) rfl ?_
  refine j_iconst C dX3_takes_9 ic_1 (n := 10) rfl ?_
  refine j_icmp_ne C dX3_takes_10 (tgt := 29) (n := 13) (by decide) rfl (fun q1 => ?_) (fun q1 => ?_)
  · refine j_iconst C dX3_takes_29 ic_0 (n := 30) rfl ?_
    exact j_retZP C (Or.inl rfl) dX3_takes_30
  · refine j_aload_n C dX3_takes_13 rfl (n := 14) rfl ?_
    refine gf_X3_18 C 42 (cX_42 g _) rfl dX3_takes_14 (n := 17) rfl ?_
    refine j_aload_n C dX3_takes_17 rfl (n := 18) rfl ?_
    refine gf_X3_32 C 42 (cX_42 g _) rfl dX3_takes_18 (n := 21) rfl ?_
    refine j_iald C 45 (cX_45 g _) dX3_takes_21 (n := 22) rfl ?_
    refine j_aload_n C dX3_takes_22 rfl (n := 23) rfl ?_
    refine j_ci C (run_len C lm_X3_163 (Nat.le_of_ble_eq_true rfl) (w := 3) (Nat.le_of_ble_eq_true rfl) rfl (Nat.le_of_ble_eq_true rfl) dX3_takes_23) (n := 26) rfl ?_
    refine j_icmp_eq C dX3_takes_26 (tgt := 31) (n := 29) (by decide) rfl (fun q2 => ?_) (fun q2 => ?_)
    · refine j_iconst C dX3_takes_31 ic_0 (n := 32) rfl ?_
      refine j_istore_n C dX3_takes_32 (Nat.le_of_ble_eq_true rfl) (n := 33) rfl ?_
      exact j_to (j_X3_takes_33_3 C _ _ _ _) ⟨rfl, ⟨rfl, ⟨rfl, trivial⟩⟩⟩
    · refine j_iconst C dX3_takes_29 ic_0 (n := 30) rfl ?_
      exact j_retZP C (Or.inl rfl) dX3_takes_30
-- X3_takes
set_option maxRecDepth 20000 in
theorem j_X3_takes_33_4 {x : Fx} {g : Gl} (C : Ok x g RX3 cX3_takes 3 (some .boolean)) (fu : Nat) : ∀ (n : Nat) (x2 : Int32) (h : Hp), J x g cwX 3 4 (fun r : Int32 × Hp => qZ cwX r.1 r.2) 33 [some (rf g 42), some (.ref (g.2.2.2.2.1 4)), some (.int x2)] [] h (X3_takes_33 fu 4 n x2 h) := by
  intro n
  induction n with
  | zero =>
    intro x2 h
    rw [X3_takes_33]
    exact j_none
  | succ n ih =>
    intro x2 h
    rw [X3_takes_33]
    refine j_iload_n C dX3_takes_33 rfl (n := 34) rfl ?_
    refine j_aload_n C dX3_takes_34 rfl (n := 35) rfl ?_
    refine j_ci C (run_len C lm_X3_163 (Nat.le_of_ble_eq_true rfl) (w := 4) (Nat.le_of_ble_eq_true rfl) rfl (Nat.le_of_ble_eq_true rfl) dX3_takes_35) (n := 38) rfl ?_
    refine j_icmp_ge C dX3_takes_38 (tgt := 76) (n := 41) (by decide) rfl (fun q1 => ?_) (fun q1 => ?_)
    · refine j_aload_n C dX3_takes_76 rfl (n := 77) rfl ?_
      refine j_dup C dX3_takes_77 rfl (n := 78) rfl ?_
      refine gf_X3_32 C 42 (cX_42 g _) rfl dX3_takes_78 (n := 81) rfl ?_
      refine j_iconst C dX3_takes_81 ic_1 (n := 82) rfl ?_
      refine j_iadd C dX3_takes_82 (n := 83) rfl ?_
      refine pf_X3_32 C 42 (cX_42 g _) (sX_42_6 g _ _) rfl dX3_takes_83 (n := 86) rfl ?_
      refine j_iconst C dX3_takes_86 ic_1 (n := 87) rfl ?_
      exact j_retZP C (Or.inr rfl) dX3_takes_87
    · refine j_aload_n C dX3_takes_41 rfl (n := 42) rfl ?_
      refine gf_X3_21 C 42 (cX_42 g _) rfl dX3_takes_42 (n := 45) rfl ?_
      refine gf_X3_48 C 40 (cX_40 g _) rfl dX3_takes_45 (n := 48) rfl ?_
      refine j_aload_n C dX3_takes_48 rfl (n := 49) rfl ?_
      refine gf_X3_15 C 42 (cX_42 g _) rfl dX3_takes_49 (n := 52) rfl ?_
      refine j_aload_n C dX3_takes_52 rfl (n := 53) rfl ?_
      refine gf_X3_32 C 42 (cX_42 g _) rfl dX3_takes_53 (n := 56) rfl ?_
      refine j_iald C 44 (cX_44 g _) dX3_takes_56 (n := 57) rfl ?_
      refine j_iload_n C dX3_takes_57 rfl (n := 58) rfl ?_
      refine j_iadd C dX3_takes_58 (n := 59) rfl ?_
      refine j_bald C 41 (cX_41 g _) dX3_takes_59 (n := 60) rfl ?_
      refine j_aload_n C dX3_takes_60 rfl (n := 61) rfl ?_
      refine j_iload_n C dX3_takes_61 rfl (n := 62) rfl ?_
      refine j_chk (fun q2 => ?_)
      refine j_ci C (run_chr C lm_X3_168 (Nat.le_of_ble_eq_true rfl) (w := 4) (Nat.le_of_ble_eq_true rfl) q2 rfl (Nat.le_of_ble_eq_true rfl) dX3_takes_62) (n := 65) rfl ?_
      refine j_icmp_eq C dX3_takes_65 (tgt := 70) (n := 68) (by decide) rfl (fun q3 => ?_) (fun q3 => ?_)
      · refine j_iinc C dX3_takes_70 rfl ic_1 (Nat.le_of_ble_eq_true rfl) (n := 73) rfl ?_
        refine j_goto C dX3_takes_73 (n := 33) (by decide) ?_
        exact j_to (ih _ _) ⟨rfl, ⟨rfl, ⟨rfl, trivial⟩⟩⟩
      · refine j_iconst C dX3_takes_68 ic_0 (n := 69) rfl ?_
        exact j_retZP C (Or.inl rfl) dX3_takes_69
set_option maxRecDepth 20000 in
theorem m_X3_takes_4 (l : Launch) (fu : Nat) (h : Hp) {r : Int32 × Hp} (e : X3_takes fu 4 h = some r) : CT l yX3_takes cX3_takes 3 (some .boolean) 4 cwX (fun g => [rf g 42, .ref (g.2.2.2.2.1 4)]) h (qZ cwX r.1 r.2) := by
  refine ct_of (QR := (fun r : Int32 × Hp => qZ cwX r.1 r.2)) (by decide +kernel) (fun g => ⟨rfl, Nat.le_of_ble_eq_true rfl⟩) e (fun x g hl C => ?_)
  unfold X3_takes
  refine j_aload_n C dX3_takes_0 rfl (n := 1) rfl ?_
  refine gf_X3_9 C 42 (cX_42 g _) rfl dX3_takes_1 (n := 4) rfl ?_
  refine j_aload_n C dX3_takes_4 rfl (n := 5) rfl ?_
  refine gf_X3_32 C 42 (cX_42 g _) rfl dX3_takes_5 (n := 8) rfl ?_
  refine j_iald C 43 (cX_43 g _) dX3_takes_8 (n := 9) rfl ?_
  refine j_iconst C dX3_takes_9 ic_1 (n := 10) rfl ?_
  refine j_icmp_ne C dX3_takes_10 (tgt := 29) (n := 13) (by decide) rfl (fun q1 => ?_) (fun q1 => ?_)
  · refine j_iconst C dX3_takes_29 ic_0 (n := 30) rfl ?_
    exact j_retZP C (Or.inl rfl) dX3_takes_30
  · refine j_aload_n C dX3_takes_13 rfl (n := 14) rfl ?_
    refine gf_X3_18 C 42 (cX_42 g _) rfl dX3_takes_14 (n := 17) rfl ?_
    refine j_aload_n C dX3_takes_17 rfl (n := 18) rfl ?_
    refine gf_X3_32 C 42 (cX_42 g _) rfl dX3_takes_18 (n := 21) rfl ?_
    refine j_iald C 45 (cX_45 g _) dX3_takes_21 (n := 22) rfl ?_
    refine j_aload_n C dX3_takes_22 rfl (n := 23) rfl ?_
    refine j_ci C (run_len C lm_X3_163 (Nat.le_of_ble_eq_true rfl) (w := 4) (Nat.le_of_ble_eq_true rfl) rfl (Nat.le_of_ble_eq_true rfl) dX3_takes_23) (n := 26) rfl ?_
    refine j_icmp_eq C dX3_takes_26 (tgt := 31) (n := 29) (by decide) rfl (fun q2 => ?_) (fun q2 => ?_)
    · refine j_iconst C dX3_takes_31 ic_0 (n := 32) rfl ?_
      refine j_istore_n C dX3_takes_32 (Nat.le_of_ble_eq_true rfl) (n := 33) rfl ?_
      exact j_to (j_X3_takes_33_4 C _ _ _ _) ⟨rfl, ⟨rfl, ⟨rfl, trivial⟩⟩⟩
    · refine j_iconst C dX3_takes_29 ic_0 (n := 30) rfl ?_
      exact j_retZP C (Or.inl rfl) dX3_takes_30
-- X3_takes
set_option maxRecDepth 20000 in
theorem j_X3_takes_33_5 {x : Fx} {g : Gl} (C : Ok x g RX3 cX3_takes 3 (some .boolean)) (fu : Nat) : ∀ (n : Nat) (x2 : Int32) (h : Hp), J x g cwX 3 4 (fun r : Int32 × Hp => qZ cwX r.1 r.2) 33 [some (rf g 42), some (.ref (g.2.2.2.2.1 5)), some (.int x2)] [] h (X3_takes_33 fu 5 n x2 h) := by
  intro n
  induction n with
  | zero =>
    intro x2 h
    rw [X3_takes_33]
    exact j_none
  | succ n ih =>
    intro x2 h
    rw [X3_takes_33]
    refine j_iload_n C dX3_takes_33 rfl (n := 34) rfl ?_
    refine j_aload_n C dX3_takes_34 rfl (n := 35) rfl ?_
    refine j_ci C (run_len C lm_X3_163 (Nat.le_of_ble_eq_true rfl) (w := 5) (Nat.le_of_ble_eq_true rfl) rfl (Nat.le_of_ble_eq_true rfl) dX3_takes_35) (n := 38) rfl ?_
    refine j_icmp_ge C dX3_takes_38 (tgt := 76) (n := 41) (by decide) rfl (fun q1 => ?_) (fun q1 => ?_)
    · refine j_aload_n C dX3_takes_76 rfl (n := 77) rfl ?_
      refine j_dup C dX3_takes_77 rfl (n := 78) rfl ?_
      refine gf_X3_32 C 42 (cX_42 g _) rfl dX3_takes_78 (n := 81) rfl ?_
      refine j_iconst C dX3_takes_81 ic_1 (n := 82) rfl ?_
      refine j_iadd C dX3_takes_82 (n := 83) rfl ?_
      refine pf_X3_32 C 42 (cX_42 g _) (sX_42_6 g _ _) rfl dX3_takes_83 (n := 86) rfl ?_
      refine j_iconst C dX3_takes_86 ic_1 (n := 87) rfl ?_
      exact j_retZP C (Or.inr rfl) dX3_takes_87
    · refine j_aload_n C dX3_takes_41 rfl (n := 42) rfl ?_
      refine gf_X3_21 C 42 (cX_42 g _) rfl dX3_takes_42 (n := 45) rfl ?_
      refine gf_X3_48 C 40 (cX_40 g _) rfl dX3_takes_45 (n := 48) rfl ?_
      refine j_aload_n C dX3_takes_48 rfl (n := 49) rfl ?_
      refine gf_X3_15 C 42 (cX_42 g _) rfl dX3_takes_49 (n := 52) rfl ?_
      refine j_aload_n C dX3_takes_52 rfl (n := 53) rfl ?_
      refine gf_X3_32 C 42 (cX_42 g _) rfl dX3_takes_53 (n := 56) rfl ?_
      refine j_iald C 44 (cX_44 g _) dX3_takes_56 (n := 57) rfl ?_
      refine j_iload_n C dX3_takes_57 rfl (n := 58) rfl ?_
      refine j_iadd C dX3_takes_58 (n := 59) rfl ?_
      refine j_bald C 41 (cX_41 g _) dX3_takes_59 (n := 60) rfl ?_
      refine j_aload_n C dX3_takes_60 rfl (n := 61) rfl ?_
      refine j_iload_n C dX3_takes_61 rfl (n := 62) rfl ?_
      refine j_chk (fun q2 => ?_)
      refine j_ci C (run_chr C lm_X3_168 (Nat.le_of_ble_eq_true rfl) (w := 5) (Nat.le_of_ble_eq_true rfl) q2 rfl (Nat.le_of_ble_eq_true rfl) dX3_takes_62) (n := 65) rfl ?_
      refine j_icmp_eq C dX3_takes_65 (tgt := 70) (n := 68) (by decide) rfl (fun q3 => ?_) (fun q3 => ?_)
      · refine j_iinc C dX3_takes_70 rfl ic_1 (Nat.le_of_ble_eq_true rfl) (n := 73) rfl ?_
        refine j_goto C dX3_takes_73 (n := 33) (by decide) ?_
        exact j_to (ih _ _) ⟨rfl, ⟨rfl, ⟨rfl, trivial⟩⟩⟩
      · refine j_iconst C dX3_takes_68 ic_0 (n := 69) rfl ?_
        exact j_retZP C (Or.inl rfl) dX3_takes_69
set_option maxRecDepth 20000 in
theorem m_X3_takes_5 (l : Launch) (fu : Nat) (h : Hp) {r : Int32 × Hp} (e : X3_takes fu 5 h = some r) : CT l yX3_takes cX3_takes 3 (some .boolean) 4 cwX (fun g => [rf g 42, .ref (g.2.2.2.2.1 5)]) h (qZ cwX r.1 r.2) := by
  refine ct_of (QR := (fun r : Int32 × Hp => qZ cwX r.1 r.2)) (by decide +kernel) (fun g => ⟨rfl, Nat.le_of_ble_eq_true rfl⟩) e (fun x g hl C => ?_)
  unfold X3_takes
  refine j_aload_n C dX3_takes_0 rfl (n := 1) rfl ?_
  refine gf_X3_9 C 42 (cX_42 g _) rfl dX3_takes_1 (n := 4) rfl ?_
  refine j_aload_n C dX3_takes_4 rfl (n := 5) rfl ?_
  refine gf_X3_32 C 42 (cX_42 g _) rfl dX3_takes_5 (n := 8) rfl ?_
  refine j_iald C 43 (cX_43 g _) dX3_takes_8 (n := 9) rfl ?_
  refine j_iconst C dX3_takes_9 ic_1 (n := 10) rfl ?_
  refine j_icmp_ne C dX3_takes_10 (tgt := 29) (n := 13) (by decide) rfl (fun q1 => ?_) (fun q1 => ?_)
  · refine j_iconst C dX3_takes_29 ic_0 (n := 30) rfl ?_
    exact j_retZP C (Or.inl rfl) dX3_takes_30
  · refine j_aload_n C dX3_takes_13 rfl (n := 14) rfl ?_
    refine gf_X3_18 C 42 (cX_42 g _) rfl dX3_takes_14 (n := 17) rfl ?_
    refine j_aload_n C dX3_takes_17 rfl (n := 18) rfl ?_
    refine gf_X3_32 C 42 (cX_42 g _) rfl dX3_takes_18 (n := 21) rfl ?_
    refine j_iald C 45 (cX_45 g _) dX3_takes_21 (n := 22) rfl ?_
    refine j_aload_n C dX3_takes_22 rfl (n := 23) rfl ?_
    refine j_ci C (run_len C lm_X3_163 (Nat.le_of_ble_eq_true rfl) (w := 5) (Nat.le_of_ble_eq_true rfl) rfl (Nat.le_of_ble_eq_true rfl) dX3_takes_23) (n := 26) rfl ?_
    refine j_icmp_eq C dX3_takes_26 (tgt := 31) (n := 29) (by decide) rfl (fun q2 => ?_) (fun q2 => ?_)
    · refine j_iconst C dX3_takes_31 ic_0 (n := 32) rfl ?_
      refine j_istore_n C dX3_takes_32 (Nat.le_of_ble_eq_true rfl) (n := 33) rfl ?_
      exact j_to (j_X3_takes_33_5 C _ _ _ _) ⟨rfl, ⟨rfl, ⟨rfl, trivial⟩⟩⟩
    · refine j_iconst C dX3_takes_29 ic_0 (n := 30) rfl ?_
      exact j_retZP C (Or.inl rfl) dX3_takes_30
-- X3_takes
set_option maxRecDepth 20000 in
theorem j_X3_takes_33_6 {x : Fx} {g : Gl} (C : Ok x g RX3 cX3_takes 3 (some .boolean)) (fu : Nat) : ∀ (n : Nat) (x2 : Int32) (h : Hp), J x g cwX 3 4 (fun r : Int32 × Hp => qZ cwX r.1 r.2) 33 [some (rf g 42), some (.ref (g.2.2.2.2.1 6)), some (.int x2)] [] h (X3_takes_33 fu 6 n x2 h) := by
  intro n
  induction n with
  | zero =>
    intro x2 h
    rw [X3_takes_33]
    exact j_none
  | succ n ih =>
    intro x2 h
    rw [X3_takes_33]
    refine j_iload_n C dX3_takes_33 rfl (n := 34) rfl ?_
    refine j_aload_n C dX3_takes_34 rfl (n := 35) rfl ?_
    refine j_ci C (run_len C lm_X3_163 (Nat.le_of_ble_eq_true rfl) (w := 6) (Nat.le_of_ble_eq_true rfl) rfl (Nat.le_of_ble_eq_true rfl) dX3_takes_35) (n := 38) rfl ?_
    refine j_icmp_ge C dX3_takes_38 (tgt := 76) (n := 41) (by decide) rfl (fun q1 => ?_) (fun q1 => ?_)
    · refine j_aload_n C dX3_takes_76 rfl (n := 77) rfl ?_
      refine j_dup C dX3_takes_77 rfl (n := 78) rfl ?_
      refine gf_X3_32 C 42 (cX_42 g _) rfl dX3_takes_78 (n := 81) rfl ?_
      refine j_iconst C dX3_takes_81 ic_1 (n := 82) rfl ?_
      refine j_iadd C dX3_takes_82 (n := 83) rfl ?_
      refine pf_X3_32 C 42 (cX_42 g _) (sX_42_6 g _ _) rfl dX3_takes_83 (n := 86) rfl ?_
      refine j_iconst C dX3_takes_86 ic_1 (n := 87) rfl ?_
      exact j_retZP C (Or.inr rfl) dX3_takes_87
    · refine j_aload_n C dX3_takes_41 rfl (n := 42) rfl ?_
      refine gf_X3_21 C 42 (cX_42 g _) rfl dX3_takes_42 (n := 45) rfl ?_
      refine gf_X3_48 C 40 (cX_40 g _) rfl dX3_takes_45 (n := 48) rfl ?_
      refine j_aload_n C dX3_takes_48 rfl (n := 49) rfl ?_
      refine gf_X3_15 C 42 (cX_42 g _) rfl dX3_takes_49 (n := 52) rfl ?_
      refine j_aload_n C dX3_takes_52 rfl (n := 53) rfl ?_
      refine gf_X3_32 C 42 (cX_42 g _) rfl dX3_takes_53 (n := 56) rfl ?_
      refine j_iald C 44 (cX_44 g _) dX3_takes_56 (n := 57) rfl ?_
      refine j_iload_n C dX3_takes_57 rfl (n := 58) rfl ?_
      refine j_iadd C dX3_takes_58 (n := 59) rfl ?_
      refine j_bald C 41 (cX_41 g _) dX3_takes_59 (n := 60) rfl ?_
      refine j_aload_n C dX3_takes_60 rfl (n := 61) rfl ?_
      refine j_iload_n C dX3_takes_61 rfl (n := 62) rfl ?_
      refine j_chk (fun q2 => ?_)
      refine j_ci C (run_chr C lm_X3_168 (Nat.le_of_ble_eq_true rfl) (w := 6) (Nat.le_of_ble_eq_true rfl) q2 rfl (Nat.le_of_ble_eq_true rfl) dX3_takes_62) (n := 65) rfl ?_
      refine j_icmp_eq C dX3_takes_65 (tgt := 70) (n := 68) (by decide) rfl (fun q3 => ?_) (fun q3 => ?_)
      · refine j_iinc C dX3_takes_70 rfl ic_1 (Nat.le_of_ble_eq_true rfl) (n := 73) rfl ?_
        refine j_goto C dX3_takes_73 (n := 33) (by decide) ?_
        exact j_to (ih _ _) ⟨rfl, ⟨rfl, ⟨rfl, trivial⟩⟩⟩
      · refine j_iconst C dX3_takes_68 ic_0 (n := 69) rfl ?_
        exact j_retZP C (Or.inl rfl) dX3_takes_69
set_option maxRecDepth 20000 in
theorem m_X3_takes_6 (l : Launch) (fu : Nat) (h : Hp) {r : Int32 × Hp} (e : X3_takes fu 6 h = some r) : CT l yX3_takes cX3_takes 3 (some .boolean) 4 cwX (fun g => [rf g 42, .ref (g.2.2.2.2.1 6)]) h (qZ cwX r.1 r.2) := by
  refine ct_of (QR := (fun r : Int32 × Hp => qZ cwX r.1 r.2)) (by decide +kernel) (fun g => ⟨rfl, Nat.le_of_ble_eq_true rfl⟩) e (fun x g hl C => ?_)
  unfold X3_takes
  refine j_aload_n C dX3_takes_0 rfl (n := 1) rfl ?_
  refine gf_X3_9 C 42 (cX_42 g _) rfl dX3_takes_1 (n := 4) rfl ?_
  refine j_aload_n C dX3_takes_4 rfl (n := 5) rfl ?_
  refine gf_X3_32 C 42 (cX_42 g _) rfl dX3_takes_5 (n := 8) rfl ?_
  refine j_iald C 43 (cX_43 g _) dX3_takes_8 (n := 9) rfl ?_
  refine j_iconst C dX3_takes_9 ic_1 (n := 10) rfl ?_
  refine j_icmp_ne C dX3_takes_10 (tgt := 29) (n := 13) (by decide) rfl (fun q1 => ?_) (fun q1 => ?_)
  · refine j_iconst C dX3_takes_29 ic_0 (n := 30) rfl ?_
    exact j_retZP C (Or.inl rfl) dX3_takes_30
  · refine j_aload_n C dX3_takes_13 rfl (n := 14) rfl ?_
    refine gf_X3_18 C 42 (cX_42 g _) rfl dX3_takes_14 (n := 17) rfl ?_
    refine j_aload_n C dX3_takes_17 rfl (n := 18) rfl ?_
    refine gf_X3_32 C 42 (cX_42 g _) rfl dX3_takes_18 (n := 21) rfl ?_
    refine j_iald C 45 (cX_45 g _) dX3_takes_21 (n := 22) rfl ?_
    refine j_aload_n C dX3_takes_22 rfl (n := 23) rfl ?_
    refine j_ci C (run_len C lm_X3_163 (Nat.le_of_ble_eq_true rfl) (w := 6) (Nat.le_of_ble_eq_true rfl) rfl (Nat.le_of_ble_eq_true rfl) dX3_takes_23) (n := 26) rfl ?_
    refine j_icmp_eq C dX3_takes_26 (tgt := 31) (n := 29) (by decide) rfl (fun q2 => ?_) (fun q2 => ?_)
    · refine j_iconst C dX3_takes_31 ic_0 (n := 32) rfl ?_
      refine j_istore_n C dX3_takes_32 (Nat.le_of_ble_eq_true rfl) (n := 33) rfl ?_
      exact j_to (j_X3_takes_33_6 C _ _ _ _) ⟨rfl, ⟨rfl, ⟨rfl, trivial⟩⟩⟩
    · refine j_iconst C dX3_takes_29 ic_0 (n := 30) rfl ?_
      exact j_retZP C (Or.inl rfl) dX3_takes_30
-- X3_takes
set_option maxRecDepth 20000 in
theorem j_X3_takes_33_0 {x : Fx} {g : Gl} (C : Ok x g RX3 cX3_takes 3 (some .boolean)) (fu : Nat) : ∀ (n : Nat) (x2 : Int32) (h : Hp), J x g cwX 3 4 (fun r : Int32 × Hp => qZ cwX r.1 r.2) 33 [some (rf g 42), some (.ref (g.2.2.2.2.1 0)), some (.int x2)] [] h (X3_takes_33 fu 0 n x2 h) := by
  intro n
  induction n with
  | zero =>
    intro x2 h
    rw [X3_takes_33]
    exact j_none
  | succ n ih =>
    intro x2 h
    rw [X3_takes_33]
    refine j_iload_n C dX3_takes_33 rfl (n := 34) rfl ?_
    refine j_aload_n C dX3_takes_34 rfl (n := 35) rfl ?_
    refine j_ci C (run_len C lm_X3_163 (Nat.le_of_ble_eq_true rfl) (w := 0) (Nat.le_of_ble_eq_true rfl) rfl (Nat.le_of_ble_eq_true rfl) dX3_takes_35) (n := 38) rfl ?_
    refine j_icmp_ge C dX3_takes_38 (tgt := 76) (n := 41) (by decide) rfl (fun q1 => ?_) (fun q1 => ?_)
    · refine j_aload_n C dX3_takes_76 rfl (n := 77) rfl ?_
      refine j_dup C dX3_takes_77 rfl (n := 78) rfl ?_
      refine gf_X3_32 C 42 (cX_42 g _) rfl dX3_takes_78 (n := 81) rfl ?_
      refine j_iconst C dX3_takes_81 ic_1 (n := 82) rfl ?_
      refine j_iadd C dX3_takes_82 (n := 83) rfl ?_
      refine pf_X3_32 C 42 (cX_42 g _) (sX_42_6 g _ _) rfl dX3_takes_83 (n := 86) rfl ?_
      refine j_iconst C dX3_takes_86 ic_1 (n := 87) rfl ?_
      exact j_retZP C (Or.inr rfl) dX3_takes_87
    · refine j_aload_n C dX3_takes_41 rfl (n := 42) rfl ?_
      refine gf_X3_21 C 42 (cX_42 g _) rfl dX3_takes_42 (n := 45) rfl ?_
      refine gf_X3_48 C 40 (cX_40 g _) rfl dX3_takes_45 (n := 48) rfl ?_
      refine j_aload_n C dX3_takes_48 rfl (n := 49) rfl ?_
      refine gf_X3_15 C 42 (cX_42 g _) rfl dX3_takes_49 (n := 52) rfl ?_
      refine j_aload_n C dX3_takes_52 rfl (n := 53) rfl ?_
      refine gf_X3_32 C 42 (cX_42 g _) rfl dX3_takes_53 (n := 56) rfl ?_
      refine j_iald C 44 (cX_44 g _) dX3_takes_56 (n := 57) rfl ?_
      refine j_iload_n C dX3_takes_57 rfl (n := 58) rfl ?_
      refine j_iadd C dX3_takes_58 (n := 59) rfl ?_
      refine j_bald C 41 (cX_41 g _) dX3_takes_59 (n := 60) rfl ?_
      refine j_aload_n C dX3_takes_60 rfl (n := 61) rfl ?_
      refine j_iload_n C dX3_takes_61 rfl (n := 62) rfl ?_
      refine j_chk (fun q2 => ?_)
      refine j_ci C (run_chr C lm_X3_168 (Nat.le_of_ble_eq_true rfl) (w := 0) (Nat.le_of_ble_eq_true rfl) q2 rfl (Nat.le_of_ble_eq_true rfl) dX3_takes_62) (n := 65) rfl ?_
      refine j_icmp_eq C dX3_takes_65 (tgt := 70) (n := 68) (by decide) rfl (fun q3 => ?_) (fun q3 => ?_)
      · refine j_iinc C dX3_takes_70 rfl ic_1 (Nat.le_of_ble_eq_true rfl) (n := 73) rfl ?_
        refine j_goto C dX3_takes_73 (n := 33) (by decide) ?_
        exact j_to (ih _ _) ⟨rfl, ⟨rfl, ⟨rfl, trivial⟩⟩⟩
      · refine j_iconst C dX3_takes_68 ic_0 (n := 69) rfl ?_
        exact j_retZP C (Or.inl rfl) dX3_takes_69
set_option maxRecDepth 20000 in
theorem m_X3_takes_0 (l : Launch) (fu : Nat) (h : Hp) {r : Int32 × Hp} (e : X3_takes fu 0 h = some r) : CT l yX3_takes cX3_takes 3 (some .boolean) 4 cwX (fun g => [rf g 42, .ref (g.2.2.2.2.1 0)]) h (qZ cwX r.1 r.2) := by
  refine ct_of (QR := (fun r : Int32 × Hp => qZ cwX r.1 r.2)) (by decide +kernel) (fun g => ⟨rfl, Nat.le_of_ble_eq_true rfl⟩) e (fun x g hl C => ?_)
  unfold X3_takes
  refine j_aload_n C dX3_takes_0 rfl (n := 1) rfl ?_
  refine gf_X3_9 C 42 (cX_42 g _) rfl dX3_takes_1 (n := 4) rfl ?_
  refine j_aload_n C dX3_takes_4 rfl (n := 5) rfl ?_
  refine gf_X3_32 C 42 (cX_42 g _) rfl dX3_takes_5 (n := 8) rfl ?_
  refine j_iald C 43 (cX_43 g _) dX3_takes_8 (n := 9) rfl ?_
  refine j_iconst C dX3_takes_9 ic_1 (n := 10) rfl ?_
  refine j_icmp_ne C dX3_takes_10 (tgt := 29) (n := 13) (by decide) rfl (fun q1 => ?_) (fun q1 => ?_)
  · refine j_iconst C dX3_takes_29 ic_0 (n := 30) rfl ?_
    exact j_retZP C (Or.inl rfl) dX3_takes_30
  · refine j_aload_n C dX3_takes_13 rfl (n := 14) rfl ?_
    refine gf_X3_18 C 42 (cX_42 g _) rfl dX3_takes_14 (n := 17) rfl ?_
    refine j_aload_n C dX3_takes_17 rfl (n := 18) rfl ?_
    refine gf_X3_32 C 42 (cX_42 g _) rfl dX3_takes_18 (n := 21) rfl ?_
    refine j_iald C 45 (cX_45 g _) dX3_takes_21 (n := 22) rfl ?_
    refine j_aload_n C dX3_takes_22 rfl (n := 23) rfl ?_
    refine j_ci C (run_len C lm_X3_163 (Nat.le_of_ble_eq_true rfl) (w := 0) (Nat.le_of_ble_eq_true rfl) rfl (Nat.le_of_ble_eq_true rfl) dX3_takes_23) (n := 26) rfl ?_
    refine j_icmp_eq C dX3_takes_26 (tgt := 31) (n := 29) (by decide) rfl (fun q2 => ?_) (fun q2 => ?_)
    · refine j_iconst C dX3_takes_31 ic_0 (n := 32) rfl ?_
      refine j_istore_n C dX3_takes_32 (Nat.le_of_ble_eq_true rfl) (n := 33) rfl ?_
      exact j_to (j_X3_takes_33_0 C _ _ _ _) ⟨rfl, ⟨rfl, ⟨rfl, trivial⟩⟩⟩
    · refine j_iconst C dX3_takes_29 ic_0 (n := 30) rfl ?_
      exact j_retZP C (Or.inl rfl) dX3_takes_30
-- X3_takes
set_option maxRecDepth 20000 in
theorem j_X3_takes_33_10 {x : Fx} {g : Gl} (C : Ok x g RX3 cX3_takes 3 (some .boolean)) (fu : Nat) : ∀ (n : Nat) (x2 : Int32) (h : Hp), J x g cwX 3 4 (fun r : Int32 × Hp => qZ cwX r.1 r.2) 33 [some (rf g 42), some (.ref (g.2.2.2.2.1 10)), some (.int x2)] [] h (X3_takes_33 fu 10 n x2 h) := by
  intro n
  induction n with
  | zero =>
    intro x2 h
    rw [X3_takes_33]
    exact j_none
  | succ n ih =>
    intro x2 h
    rw [X3_takes_33]
    refine j_iload_n C dX3_takes_33 rfl (n := 34) rfl ?_
    refine j_aload_n C dX3_takes_34 rfl (n := 35) rfl ?_
    refine j_ci C (run_len C lm_X3_163 (Nat.le_of_ble_eq_true rfl) (w := 10) (Nat.le_of_ble_eq_true rfl) rfl (Nat.le_of_ble_eq_true rfl) dX3_takes_35) (n := 38) rfl ?_
    refine j_icmp_ge C dX3_takes_38 (tgt := 76) (n := 41) (by decide) rfl (fun q1 => ?_) (fun q1 => ?_)
    · refine j_aload_n C dX3_takes_76 rfl (n := 77) rfl ?_
      refine j_dup C dX3_takes_77 rfl (n := 78) rfl ?_
      refine gf_X3_32 C 42 (cX_42 g _) rfl dX3_takes_78 (n := 81) rfl ?_
      refine j_iconst C dX3_takes_81 ic_1 (n := 82) rfl ?_
      refine j_iadd C dX3_takes_82 (n := 83) rfl ?_
      refine pf_X3_32 C 42 (cX_42 g _) (sX_42_6 g _ _) rfl dX3_takes_83 (n := 86) rfl ?_
      refine j_iconst C dX3_takes_86 ic_1 (n := 87) rfl ?_
      exact j_retZP C (Or.inr rfl) dX3_takes_87
    · refine j_aload_n C dX3_takes_41 rfl (n := 42) rfl ?_
      refine gf_X3_21 C 42 (cX_42 g _) rfl dX3_takes_42 (n := 45) rfl ?_
      refine gf_X3_48 C 40 (cX_40 g _) rfl dX3_takes_45 (n := 48) rfl ?_
      refine j_aload_n C dX3_takes_48 rfl (n := 49) rfl ?_
      refine gf_X3_15 C 42 (cX_42 g _) rfl dX3_takes_49 (n := 52) rfl ?_
      refine j_aload_n C dX3_takes_52 rfl (n := 53) rfl ?_
      refine gf_X3_32 C 42 (cX_42 g _) rfl dX3_takes_53 (n := 56) rfl ?_
      refine j_iald C 44 (cX_44 g _) dX3_takes_56 (n := 57) rfl ?_
      refine j_iload_n C dX3_takes_57 rfl (n := 58) rfl ?_
      refine j_iadd C dX3_takes_58 (n := 59) rfl ?_
      refine j_bald C 41 (cX_41 g _) dX3_takes_59 (n := 60) rfl ?_
      refine j_aload_n C dX3_takes_60 rfl (n := 61) rfl ?_
      refine j_iload_n C dX3_takes_61 rfl (n := 62) rfl ?_
      refine j_chk (fun q2 => ?_)
      refine j_ci C (run_chr C lm_X3_168 (Nat.le_of_ble_eq_true rfl) (w := 10) (Nat.le_of_ble_eq_true rfl) q2 rfl (Nat.le_of_ble_eq_true rfl) dX3_takes_62) (n := 65) rfl ?_
      refine j_icmp_eq C dX3_takes_65 (tgt := 70) (n := 68) (by decide) rfl (fun q3 => ?_) (fun q3 => ?_)
      · refine j_iinc C dX3_takes_70 rfl ic_1 (Nat.le_of_ble_eq_true rfl) (n := 73) rfl ?_
        refine j_goto C dX3_takes_73 (n := 33) (by decide) ?_
        exact j_to (ih _ _) ⟨rfl, ⟨rfl, ⟨rfl, trivial⟩⟩⟩
      · refine j_iconst C dX3_takes_68 ic_0 (n := 69) rfl ?_
        exact j_retZP C (Or.inl rfl) dX3_takes_69
set_option maxRecDepth 20000 in
theorem m_X3_takes_10 (l : Launch) (fu : Nat) (h : Hp) {r : Int32 × Hp} (e : X3_takes fu 10 h = some r) : CT l yX3_takes cX3_takes 3 (some .boolean) 4 cwX (fun g => [rf g 42, .ref (g.2.2.2.2.1 10)]) h (qZ cwX r.1 r.2) := by
  refine ct_of (QR := (fun r : Int32 × Hp => qZ cwX r.1 r.2)) (by decide +kernel) (fun g => ⟨rfl, Nat.le_of_ble_eq_true rfl⟩) e (fun x g hl C => ?_)
  unfold X3_takes
  refine j_aload_n C dX3_takes_0 rfl (n := 1) rfl ?_
  refine gf_X3_9 C 42 (cX_42 g _) rfl dX3_takes_1 (n := 4) rfl ?_
  refine j_aload_n C dX3_takes_4 rfl (n := 5) rfl ?_
  refine gf_X3_32 C 42 (cX_42 g _) rfl dX3_takes_5 (n := 8) rfl ?_
  refine j_iald C 43 (cX_43 g _) dX3_takes_8 (n := 9) rfl ?_
  refine j_iconst C dX3_takes_9 ic_1 (n := 10) rfl ?_
  refine j_icmp_ne C dX3_takes_10 (tgt := 29) (n := 13) (by decide) rfl (fun q1 => ?_) (fun q1 => ?_)
  · refine j_iconst C dX3_takes_29 ic_0 (n := 30) rfl ?_
    exact j_retZP C (Or.inl rfl) dX3_takes_30
  · refine j_aload_n C dX3_takes_13 rfl (n := 14) rfl ?_
    refine gf_X3_18 C 42 (cX_42 g _) rfl dX3_takes_14 (n := 17) rfl ?_
    refine j_aload_n C dX3_takes_17 rfl (n := 18) rfl ?_
    refine gf_X3_32 C 42 (cX_42 g _) rfl dX3_takes_18 (n := 21) rfl ?_
    refine j_iald C 45 (cX_45 g _) dX3_takes_21 (n := 22) rfl ?_
    refine j_aload_n C dX3_takes_22 rfl (n := 23) rfl ?_
    refine j_ci C (run_len C lm_X3_163 (Nat.le_of_ble_eq_true rfl) (w := 10) (Nat.le_of_ble_eq_true rfl) rfl (Nat.le_of_ble_eq_true rfl) dX3_takes_23) (n := 26) rfl ?_
    refine j_icmp_eq C dX3_takes_26 (tgt := 31) (n := 29) (by decide) rfl (fun q2 => ?_) (fun q2 => ?_)
    · refine j_iconst C dX3_takes_31 ic_0 (n := 32) rfl ?_
      refine j_istore_n C dX3_takes_32 (Nat.le_of_ble_eq_true rfl) (n := 33) rfl ?_
      exact j_to (j_X3_takes_33_10 C _ _ _ _) ⟨rfl, ⟨rfl, ⟨rfl, trivial⟩⟩⟩
    · refine j_iconst C dX3_takes_29 ic_0 (n := 30) rfl ?_
      exact j_retZP C (Or.inl rfl) dX3_takes_30
-- X3_takes
set_option maxRecDepth 20000 in
theorem j_X3_takes_33_12 {x : Fx} {g : Gl} (C : Ok x g RX3 cX3_takes 3 (some .boolean)) (fu : Nat) : ∀ (n : Nat) (x2 : Int32) (h : Hp), J x g cwX 3 4 (fun r : Int32 × Hp => qZ cwX r.1 r.2) 33 [some (rf g 42), some (.ref (g.2.2.2.2.1 12)), some (.int x2)] [] h (X3_takes_33 fu 12 n x2 h) := by
  intro n
  induction n with
  | zero =>
    intro x2 h
    rw [X3_takes_33]
    exact j_none
  | succ n ih =>
    intro x2 h
    rw [X3_takes_33]
    refine j_iload_n C dX3_takes_33 rfl (n := 34) rfl ?_
    refine j_aload_n C dX3_takes_34 rfl (n := 35) rfl ?_
    refine j_ci C (run_len C lm_X3_163 (Nat.le_of_ble_eq_true rfl) (w := 12) (Nat.le_of_ble_eq_true rfl) rfl (Nat.le_of_ble_eq_true rfl) dX3_takes_35) (n := 38) rfl ?_
    refine j_icmp_ge C dX3_takes_38 (tgt := 76) (n := 41) (by decide) rfl (fun q1 => ?_) (fun q1 => ?_)
    · refine j_aload_n C dX3_takes_76 rfl (n := 77) rfl ?_
      refine j_dup C dX3_takes_77 rfl (n := 78) rfl ?_
      refine gf_X3_32 C 42 (cX_42 g _) rfl dX3_takes_78 (n := 81) rfl ?_
      refine j_iconst C dX3_takes_81 ic_1 (n := 82) rfl ?_
      refine j_iadd C dX3_takes_82 (n := 83) rfl ?_
      refine pf_X3_32 C 42 (cX_42 g _) (sX_42_6 g _ _) rfl dX3_takes_83 (n := 86) rfl ?_
      refine j_iconst C dX3_takes_86 ic_1 (n := 87) rfl ?_
      exact j_retZP C (Or.inr rfl) dX3_takes_87
    · refine j_aload_n C dX3_takes_41 rfl (n := 42) rfl ?_
      refine gf_X3_21 C 42 (cX_42 g _) rfl dX3_takes_42 (n := 45) rfl ?_
      refine gf_X3_48 C 40 (cX_40 g _) rfl dX3_takes_45 (n := 48) rfl ?_
      refine j_aload_n C dX3_takes_48 rfl (n := 49) rfl ?_
      refine gf_X3_15 C 42 (cX_42 g _) rfl dX3_takes_49 (n := 52) rfl ?_
      refine j_aload_n C dX3_takes_52 rfl (n := 53) rfl ?_
      refine gf_X3_32 C 42 (cX_42 g _) rfl dX3_takes_53 (n := 56) rfl ?_
      refine j_iald C 44 (cX_44 g _) dX3_takes_56 (n := 57) rfl ?_
      refine j_iload_n C dX3_takes_57 rfl (n := 58) rfl ?_
      refine j_iadd C dX3_takes_58 (n := 59) rfl ?_
      refine j_bald C 41 (cX_41 g _) dX3_takes_59 (n := 60) rfl ?_
      refine j_aload_n C dX3_takes_60 rfl (n := 61) rfl ?_
      refine j_iload_n C dX3_takes_61 rfl (n := 62) rfl ?_
      refine j_chk (fun q2 => ?_)
      refine j_ci C (run_chr C lm_X3_168 (Nat.le_of_ble_eq_true rfl) (w := 12) (Nat.le_of_ble_eq_true rfl) q2 rfl (Nat.le_of_ble_eq_true rfl) dX3_takes_62) (n := 65) rfl ?_
      refine j_icmp_eq C dX3_takes_65 (tgt := 70) (n := 68) (by decide) rfl (fun q3 => ?_) (fun q3 => ?_)
      · refine j_iinc C dX3_takes_70 rfl ic_1 (Nat.le_of_ble_eq_true rfl) (n := 73) rfl ?_
        refine j_goto C dX3_takes_73 (n := 33) (by decide) ?_
        exact j_to (ih _ _) ⟨rfl, ⟨rfl, ⟨rfl, trivial⟩⟩⟩
      · refine j_iconst C dX3_takes_68 ic_0 (n := 69) rfl ?_
        exact j_retZP C (Or.inl rfl) dX3_takes_69
set_option maxRecDepth 20000 in
theorem m_X3_takes_12 (l : Launch) (fu : Nat) (h : Hp) {r : Int32 × Hp} (e : X3_takes fu 12 h = some r) : CT l yX3_takes cX3_takes 3 (some .boolean) 4 cwX (fun g => [rf g 42, .ref (g.2.2.2.2.1 12)]) h (qZ cwX r.1 r.2) := by
  refine ct_of (QR := (fun r : Int32 × Hp => qZ cwX r.1 r.2)) (by decide +kernel) (fun g => ⟨rfl, Nat.le_of_ble_eq_true rfl⟩) e (fun x g hl C => ?_)
  unfold X3_takes
  refine j_aload_n C dX3_takes_0 rfl (n := 1) rfl ?_
  refine gf_X3_9 C 42 (cX_42 g _) rfl dX3_takes_1 (n := 4) rfl ?_
  refine j_aload_n C dX3_takes_4 rfl (n := 5) rfl ?_
  refine gf_X3_32 C 42 (cX_42 g _) rfl dX3_takes_5 (n := 8) rfl ?_
  refine j_iald C 43 (cX_43 g _) dX3_takes_8 (n := 9) rfl ?_
  refine j_iconst C dX3_takes_9 ic_1 (n := 10) rfl ?_
  refine j_icmp_ne C dX3_takes_10 (tgt := 29) (n := 13) (by decide) rfl (fun q1 => ?_) (fun q1 => ?_)
  · refine j_iconst C dX3_takes_29 ic_0 (n := 30) rfl ?_
    exact j_retZP C (Or.inl rfl) dX3_takes_30
  · refine j_aload_n C dX3_takes_13 rfl (n := 14) rfl ?_
    refine gf_X3_18 C 42 (cX_42 g _) rfl dX3_takes_14 (n := 17) rfl ?_
    refine j_aload_n C dX3_takes_17 rfl (n := 18) rfl ?_
    refine gf_X3_32 C 42 (cX_42 g _) rfl dX3_takes_18 (n := 21) rfl ?_
    refine j_iald C 45 (cX_45 g _) dX3_takes_21 (n := 22) rfl ?_
    refine j_aload_n C dX3_takes_22 rfl (n := 23) rfl ?_
    refine j_ci C (run_len C lm_X3_163 (Nat.le_of_ble_eq_true rfl) (w := 12) (Nat.le_of_ble_eq_true rfl) rfl (Nat.le_of_ble_eq_true rfl) dX3_takes_23) (n := 26) rfl ?_
    refine j_icmp_eq C dX3_takes_26 (tgt := 31) (n := 29) (by decide) rfl (fun q2 => ?_) (fun q2 => ?_)
    · refine j_iconst C dX3_takes_31 ic_0 (n := 32) rfl ?_
      refine j_istore_n C dX3_takes_32 (Nat.le_of_ble_eq_true rfl) (n := 33) rfl ?_
      exact j_to (j_X3_takes_33_12 C _ _ _ _) ⟨rfl, ⟨rfl, ⟨rfl, trivial⟩⟩⟩
    · refine j_iconst C dX3_takes_29 ic_0 (n := 30) rfl ?_
      exact j_retZP C (Or.inl rfl) dX3_takes_30
-- X3_takes
set_option maxRecDepth 20000 in
theorem j_X3_takes_33_13 {x : Fx} {g : Gl} (C : Ok x g RX3 cX3_takes 3 (some .boolean)) (fu : Nat) : ∀ (n : Nat) (x2 : Int32) (h : Hp), J x g cwX 3 4 (fun r : Int32 × Hp => qZ cwX r.1 r.2) 33 [some (rf g 42), some (.ref (g.2.2.2.2.1 13)), some (.int x2)] [] h (X3_takes_33 fu 13 n x2 h) := by
  intro n
  induction n with
  | zero =>
    intro x2 h
    rw [X3_takes_33]
    exact j_none
  | succ n ih =>
    intro x2 h
    rw [X3_takes_33]
    refine j_iload_n C dX3_takes_33 rfl (n := 34) rfl ?_
    refine j_aload_n C dX3_takes_34 rfl (n := 35) rfl ?_
    refine j_ci C (run_len C lm_X3_163 (Nat.le_of_ble_eq_true rfl) (w := 13) (Nat.le_of_ble_eq_true rfl) rfl (Nat.le_of_ble_eq_true rfl) dX3_takes_35) (n := 38) rfl ?_
    refine j_icmp_ge C dX3_takes_38 (tgt := 76) (n := 41) (by decide) rfl (fun q1 => ?_) (fun q1 => ?_)
    · refine j_aload_n C dX3_takes_76 rfl (n := 77) rfl ?_
      refine j_dup C dX3_takes_77 rfl (n := 78) rfl ?_
      refine gf_X3_32 C 42 (cX_42 g _) rfl dX3_takes_78 (n := 81) rfl ?_
      refine j_iconst C dX3_takes_81 ic_1 (n := 82) rfl ?_
      refine j_iadd C dX3_takes_82 (n := 83) rfl ?_
      refine pf_X3_32 C 42 (cX_42 g _) (sX_42_6 g _ _) rfl dX3_takes_83 (n := 86) rfl ?_
      refine j_iconst C dX3_takes_86 ic_1 (n := 87) rfl ?_
      exact j_retZP C (Or.inr rfl) dX3_takes_87
    · refine j_aload_n C dX3_takes_41 rfl (n := 42) rfl ?_
      refine gf_X3_21 C 42 (cX_42 g _) rfl dX3_takes_42 (n := 45) rfl ?_
      refine gf_X3_48 C 40 (cX_40 g _) rfl dX3_takes_45 (n := 48) rfl ?_
      refine j_aload_n C dX3_takes_48 rfl (n := 49) rfl ?_
      refine gf_X3_15 C 42 (cX_42 g _) rfl dX3_takes_49 (n := 52) rfl ?_
      refine j_aload_n C dX3_takes_52 rfl (n := 53) rfl ?_
      refine gf_X3_32 C 42 (cX_42 g _) rfl dX3_takes_53 (n := 56) rfl ?_
      refine j_iald C 44 (cX_44 g _) dX3_takes_56 (n := 57) rfl ?_
      refine j_iload_n C dX3_takes_57 rfl (n := 58) rfl ?_
      refine j_iadd C dX3_takes_58 (n := 59) rfl ?_
      refine j_bald C 41 (cX_41 g _) dX3_takes_59 (n := 60) rfl ?_
      refine j_aload_n C dX3_takes_60 rfl (n := 61) rfl ?_
      refine j_iload_n C dX3_takes_61 rfl (n := 62) rfl ?_
      refine j_chk (fun q2 => ?_)
      refine j_ci C (run_chr C lm_X3_168 (Nat.le_of_ble_eq_true rfl) (w := 13) (Nat.le_of_ble_eq_true rfl) q2 rfl (Nat.le_of_ble_eq_true rfl) dX3_takes_62) (n := 65) rfl ?_
      refine j_icmp_eq C dX3_takes_65 (tgt := 70) (n := 68) (by decide) rfl (fun q3 => ?_) (fun q3 => ?_)
      · refine j_iinc C dX3_takes_70 rfl ic_1 (Nat.le_of_ble_eq_true rfl) (n := 73) rfl ?_
        refine j_goto C dX3_takes_73 (n := 33) (by decide) ?_
        exact j_to (ih _ _) ⟨rfl, ⟨rfl, ⟨rfl, trivial⟩⟩⟩
      · refine j_iconst C dX3_takes_68 ic_0 (n := 69) rfl ?_
        exact j_retZP C (Or.inl rfl) dX3_takes_69
set_option maxRecDepth 20000 in
theorem m_X3_takes_13 (l : Launch) (fu : Nat) (h : Hp) {r : Int32 × Hp} (e : X3_takes fu 13 h = some r) : CT l yX3_takes cX3_takes 3 (some .boolean) 4 cwX (fun g => [rf g 42, .ref (g.2.2.2.2.1 13)]) h (qZ cwX r.1 r.2) := by
  refine ct_of (QR := (fun r : Int32 × Hp => qZ cwX r.1 r.2)) (by decide +kernel) (fun g => ⟨rfl, Nat.le_of_ble_eq_true rfl⟩) e (fun x g hl C => ?_)
  unfold X3_takes
  refine j_aload_n C dX3_takes_0 rfl (n := 1) rfl ?_
  refine gf_X3_9 C 42 (cX_42 g _) rfl dX3_takes_1 (n := 4) rfl ?_
  refine j_aload_n C dX3_takes_4 rfl (n := 5) rfl ?_
  refine gf_X3_32 C 42 (cX_42 g _) rfl dX3_takes_5 (n := 8) rfl ?_
  refine j_iald C 43 (cX_43 g _) dX3_takes_8 (n := 9) rfl ?_
  refine j_iconst C dX3_takes_9 ic_1 (n := 10) rfl ?_
  refine j_icmp_ne C dX3_takes_10 (tgt := 29) (n := 13) (by decide) rfl (fun q1 => ?_) (fun q1 => ?_)
  · refine j_iconst C dX3_takes_29 ic_0 (n := 30) rfl ?_
    exact j_retZP C (Or.inl rfl) dX3_takes_30
  · refine j_aload_n C dX3_takes_13 rfl (n := 14) rfl ?_
    refine gf_X3_18 C 42 (cX_42 g _) rfl dX3_takes_14 (n := 17) rfl ?_
    refine j_aload_n C dX3_takes_17 rfl (n := 18) rfl ?_
    refine gf_X3_32 C 42 (cX_42 g _) rfl dX3_takes_18 (n := 21) rfl ?_
    refine j_iald C 45 (cX_45 g _) dX3_takes_21 (n := 22) rfl ?_
    refine j_aload_n C dX3_takes_22 rfl (n := 23) rfl ?_
    refine j_ci C (run_len C lm_X3_163 (Nat.le_of_ble_eq_true rfl) (w := 13) (Nat.le_of_ble_eq_true rfl) rfl (Nat.le_of_ble_eq_true rfl) dX3_takes_23) (n := 26) rfl ?_
    refine j_icmp_eq C dX3_takes_26 (tgt := 31) (n := 29) (by decide) rfl (fun q2 => ?_) (fun q2 => ?_)
    · refine j_iconst C dX3_takes_31 ic_0 (n := 32) rfl ?_
      refine j_istore_n C dX3_takes_32 (Nat.le_of_ble_eq_true rfl) (n := 33) rfl ?_
      exact j_to (j_X3_takes_33_13 C _ _ _ _) ⟨rfl, ⟨rfl, ⟨rfl, trivial⟩⟩⟩
    · refine j_iconst C dX3_takes_29 ic_0 (n := 30) rfl ?_
      exact j_retZP C (Or.inl rfl) dX3_takes_30
-- X3_takes
set_option maxRecDepth 20000 in
theorem j_X3_takes_33_7 {x : Fx} {g : Gl} (C : Ok x g RX3 cX3_takes 3 (some .boolean)) (fu : Nat) : ∀ (n : Nat) (x2 : Int32) (h : Hp), J x g cwX 3 4 (fun r : Int32 × Hp => qZ cwX r.1 r.2) 33 [some (rf g 42), some (.ref (g.2.2.2.2.1 7)), some (.int x2)] [] h (X3_takes_33 fu 7 n x2 h) := by
  intro n
  induction n with
  | zero =>
    intro x2 h
    rw [X3_takes_33]
    exact j_none
  | succ n ih =>
    intro x2 h
    rw [X3_takes_33]
    refine j_iload_n C dX3_takes_33 rfl (n := 34) rfl ?_
    refine j_aload_n C dX3_takes_34 rfl (n := 35) rfl ?_
    refine j_ci C (run_len C lm_X3_163 (Nat.le_of_ble_eq_true rfl) (w := 7) (Nat.le_of_ble_eq_true rfl) rfl (Nat.le_of_ble_eq_true rfl) dX3_takes_35) (n := 38) rfl ?_
    refine j_icmp_ge C dX3_takes_38 (tgt := 76) (n := 41) (by decide) rfl (fun q1 => ?_) (fun q1 => ?_)
    · refine j_aload_n C dX3_takes_76 rfl (n := 77) rfl ?_
      refine j_dup C dX3_takes_77 rfl (n := 78) rfl ?_
      refine gf_X3_32 C 42 (cX_42 g _) rfl dX3_takes_78 (n := 81) rfl ?_
      refine j_iconst C dX3_takes_81 ic_1 (n := 82) rfl ?_
      refine j_iadd C dX3_takes_82 (n := 83) rfl ?_
      refine pf_X3_32 C 42 (cX_42 g _) (sX_42_6 g _ _) rfl dX3_takes_83 (n := 86) rfl ?_
      refine j_iconst C dX3_takes_86 ic_1 (n := 87) rfl ?_
      exact j_retZP C (Or.inr rfl) dX3_takes_87
    · refine j_aload_n C dX3_takes_41 rfl (n := 42) rfl ?_
      refine gf_X3_21 C 42 (cX_42 g _) rfl dX3_takes_42 (n := 45) rfl ?_
      refine gf_X3_48 C 40 (cX_40 g _) rfl dX3_takes_45 (n := 48) rfl ?_
      refine j_aload_n C dX3_takes_48 rfl (n := 49) rfl ?_
      refine gf_X3_15 C 42 (cX_42 g _) rfl dX3_takes_49 (n := 52) rfl ?_
      refine j_aload_n C dX3_takes_52 rfl (n := 53) rfl ?_
      refine gf_X3_32 C 42 (cX_42 g _) rfl dX3_takes_53 (n := 56) rfl ?_
      refine j_iald C 44 (cX_44 g _) dX3_takes_56 (n := 57) rfl ?_
      refine j_iload_n C dX3_takes_57 rfl (n := 58) rfl ?_
      refine j_iadd C dX3_takes_58 (n := 59) rfl ?_
      refine j_bald C 41 (cX_41 g _) dX3_takes_59 (n := 60) rfl ?_
      refine j_aload_n C dX3_takes_60 rfl (n := 61) rfl ?_
      refine j_iload_n C dX3_takes_61 rfl (n := 62) rfl ?_
      refine j_chk (fun q2 => ?_)
      refine j_ci C (run_chr C lm_X3_168 (Nat.le_of_ble_eq_true rfl) (w := 7) (Nat.le_of_ble_eq_true rfl) q2 rfl (Nat.le_of_ble_eq_true rfl) dX3_takes_62) (n := 65) rfl ?_
      refine j_icmp_eq C dX3_takes_65 (tgt := 70) (n := 68) (by decide) rfl (fun q3 => ?_) (fun q3 => ?_)
      · refine j_iinc C dX3_takes_70 rfl ic_1 (Nat.le_of_ble_eq_true rfl) (n := 73) rfl ?_
        refine j_goto C dX3_takes_73 (n := 33) (by decide) ?_
        exact j_to (ih _ _) ⟨rfl, ⟨rfl, ⟨rfl, trivial⟩⟩⟩
      · refine j_iconst C dX3_takes_68 ic_0 (n := 69) rfl ?_
        exact j_retZP C (Or.inl rfl) dX3_takes_69
set_option maxRecDepth 20000 in
theorem m_X3_takes_7 (l : Launch) (fu : Nat) (h : Hp) {r : Int32 × Hp} (e : X3_takes fu 7 h = some r) : CT l yX3_takes cX3_takes 3 (some .boolean) 4 cwX (fun g => [rf g 42, .ref (g.2.2.2.2.1 7)]) h (qZ cwX r.1 r.2) := by
  refine ct_of (QR := (fun r : Int32 × Hp => qZ cwX r.1 r.2)) (by decide +kernel) (fun g => ⟨rfl, Nat.le_of_ble_eq_true rfl⟩) e (fun x g hl C => ?_)
  unfold X3_takes
  refine j_aload_n C dX3_takes_0 rfl (n := 1) rfl ?_
  refine gf_X3_9 C 42 (cX_42 g _) rfl dX3_takes_1 (n := 4) rfl ?_
  refine j_aload_n C dX3_takes_4 rfl (n := 5) rfl ?_
  refine gf_X3_32 C 42 (cX_42 g _) rfl dX3_takes_5 (n := 8) rfl ?_
  refine j_iald C 43 (cX_43 g _) dX3_takes_8 (n := 9) rfl ?_
  refine j_iconst C dX3_takes_9 ic_1 (n := 10) rfl ?_
  refine j_icmp_ne C dX3_takes_10 (tgt := 29) (n := 13) (by decide) rfl (fun q1 => ?_) (fun q1 => ?_)
  · refine j_iconst C dX3_takes_29 ic_0 (n := 30) rfl ?_
    exact j_retZP C (Or.inl rfl) dX3_takes_30
  · refine j_aload_n C dX3_takes_13 rfl (n := 14) rfl ?_
    refine gf_X3_18 C 42 (cX_42 g _) rfl dX3_takes_14 (n := 17) rfl ?_
    refine j_aload_n C dX3_takes_17 rfl (n := 18) rfl ?_
    refine gf_X3_32 C 42 (cX_42 g _) rfl dX3_takes_18 (n := 21) rfl ?_
    refine j_iald C 45 (cX_45 g _) dX3_takes_21 (n := 22) rfl ?_
    refine j_aload_n C dX3_takes_22 rfl (n := 23) rfl ?_
    refine j_ci C (run_len C lm_X3_163 (Nat.le_of_ble_eq_true rfl) (w := 7) (Nat.le_of_ble_eq_true rfl) rfl (Nat.le_of_ble_eq_true rfl) dX3_takes_23) (n := 26) rfl ?_
    refine j_icmp_eq C dX3_takes_26 (tgt := 31) (n := 29) (by decide) rfl (fun q2 => ?_) (fun q2 => ?_)
    · refine j_iconst C dX3_takes_31 ic_0 (n := 32) rfl ?_
      refine j_istore_n C dX3_takes_32 (Nat.le_of_ble_eq_true rfl) (n := 33) rfl ?_
      exact j_to (j_X3_takes_33_7 C _ _ _ _) ⟨rfl, ⟨rfl, ⟨rfl, trivial⟩⟩⟩
    · refine j_iconst C dX3_takes_29 ic_0 (n := 30) rfl ?_
      exact j_retZP C (Or.inl rfl) dX3_takes_30
-- X3_takes
set_option maxRecDepth 20000 in
theorem j_X3_takes_33_8 {x : Fx} {g : Gl} (C : Ok x g RX3 cX3_takes 3 (some .boolean)) (fu : Nat) : ∀ (n : Nat) (x2 : Int32) (h : Hp), J x g cwX 3 4 (fun r : Int32 × Hp => qZ cwX r.1 r.2) 33 [some (rf g 42), some (.ref (g.2.2.2.2.1 8)), some (.int x2)] [] h (X3_takes_33 fu 8 n x2 h) := by
  intro n
  induction n with
  | zero =>
    intro x2 h
    rw [X3_takes_33]
    exact j_none
  | succ n ih =>
    intro x2 h
    rw [X3_takes_33]
    refine j_iload_n C dX3_takes_33 rfl (n := 34) rfl ?_
    refine j_aload_n C dX3_takes_34 rfl (n := 35) rfl ?_
    refine j_ci C (run_len C lm_X3_163 (Nat.le_of_ble_eq_true rfl) (w := 8) (Nat.le_of_ble_eq_true rfl) rfl (Nat.le_of_ble_eq_true rfl) dX3_takes_35) (n := 38) rfl ?_
    refine j_icmp_ge C dX3_takes_38 (tgt := 76) (n := 41) (by decide) rfl (fun q1 => ?_) (fun q1 => ?_)
    · refine j_aload_n C dX3_takes_76 rfl (n := 77) rfl ?_
      refine j_dup C dX3_takes_77 rfl (n := 78) rfl ?_
      refine gf_X3_32 C 42 (cX_42 g _) rfl dX3_takes_78 (n := 81) rfl ?_
      refine j_iconst C dX3_takes_81 ic_1 (n := 82) rfl ?_
      refine j_iadd C dX3_takes_82 (n := 83) rfl ?_
      refine pf_X3_32 C 42 (cX_42 g _) (sX_42_6 g _ _) rfl dX3_takes_83 (n := 86) rfl ?_
      refine j_iconst C dX3_takes_86 ic_1 (n := 87) rfl ?_
      exact j_retZP C (Or.inr rfl) dX3_takes_87
    · refine j_aload_n C dX3_takes_41 rfl (n := 42) rfl ?_
      refine gf_X3_21 C 42 (cX_42 g _) rfl dX3_takes_42 (n := 45) rfl ?_
      refine gf_X3_48 C 40 (cX_40 g _) rfl dX3_takes_45 (n := 48) rfl ?_
      refine j_aload_n C dX3_takes_48 rfl (n := 49) rfl ?_
      refine gf_X3_15 C 42 (cX_42 g _) rfl dX3_takes_49 (n := 52) rfl ?_
      refine j_aload_n C dX3_takes_52 rfl (n := 53) rfl ?_
      refine gf_X3_32 C 42 (cX_42 g _) rfl dX3_takes_53 (n := 56) rfl ?_
      refine j_iald C 44 (cX_44 g _) dX3_takes_56 (n := 57) rfl ?_
      refine j_iload_n C dX3_takes_57 rfl (n := 58) rfl ?_
      refine j_iadd C dX3_takes_58 (n := 59) rfl ?_
      refine j_bald C 41 (cX_41 g _) dX3_takes_59 (n := 60) rfl ?_
      refine j_aload_n C dX3_takes_60 rfl (n := 61) rfl ?_
      refine j_iload_n C dX3_takes_61 rfl (n := 62) rfl ?_
      refine j_chk (fun q2 => ?_)
      refine j_ci C (run_chr C lm_X3_168 (Nat.le_of_ble_eq_true rfl) (w := 8) (Nat.le_of_ble_eq_true rfl) q2 rfl (Nat.le_of_ble_eq_true rfl) dX3_takes_62) (n := 65) rfl ?_
      refine j_icmp_eq C dX3_takes_65 (tgt := 70) (n := 68) (by decide) rfl (fun q3 => ?_) (fun q3 => ?_)
      · refine j_iinc C dX3_takes_70 rfl ic_1 (Nat.le_of_ble_eq_true rfl) (n := 73) rfl ?_
        refine j_goto C dX3_takes_73 (n := 33) (by decide) ?_
        exact j_to (ih _ _) ⟨rfl, ⟨rfl, ⟨rfl, trivial⟩⟩⟩
      · refine j_iconst C dX3_takes_68 ic_0 (n := 69) rfl ?_
        exact j_retZP C (Or.inl rfl) dX3_takes_69
set_option maxRecDepth 20000 in
theorem m_X3_takes_8 (l : Launch) (fu : Nat) (h : Hp) {r : Int32 × Hp} (e : X3_takes fu 8 h = some r) : CT l yX3_takes cX3_takes 3 (some .boolean) 4 cwX (fun g => [rf g 42, .ref (g.2.2.2.2.1 8)]) h (qZ cwX r.1 r.2) := by
  refine ct_of (QR := (fun r : Int32 × Hp => qZ cwX r.1 r.2)) (by decide +kernel) (fun g => ⟨rfl, Nat.le_of_ble_eq_true rfl⟩) e (fun x g hl C => ?_)
  unfold X3_takes
  refine j_aload_n C dX3_takes_0 rfl (n := 1) rfl ?_
  refine gf_X3_9 C 42 (cX_42 g _) rfl dX3_takes_1 (n := 4) rfl ?_
  refine j_aload_n C dX3_takes_4 rfl (n := 5) rfl ?_
  refine gf_X3_32 C 42 (cX_42 g _) rfl dX3_takes_5 (n := 8) rfl ?_
  refine j_iald C 43 (cX_43 g _) dX3_takes_8 (n := 9) rfl ?_
  refine j_iconst C dX3_takes_9 ic_1 (n := 10) rfl ?_
  refine j_icmp_ne C dX3_takes_10 (tgt := 29) (n := 13) (by decide) rfl (fun q1 => ?_) (fun q1 => ?_)
  · refine j_iconst C dX3_takes_29 ic_0 (n := 30) rfl ?_
    exact j_retZP C (Or.inl rfl) dX3_takes_30
  · refine j_aload_n C dX3_takes_13 rfl (n := 14) rfl ?_
    refine gf_X3_18 C 42 (cX_42 g _) rfl dX3_takes_14 (n := 17) rfl ?_
    refine j_aload_n C dX3_takes_17 rfl (n := 18) rfl ?_
    refine gf_X3_32 C 42 (cX_42 g _) rfl dX3_takes_18 (n := 21) rfl ?_
    refine j_iald C 45 (cX_45 g _) dX3_takes_21 (n := 22) rfl ?_
    refine j_aload_n C dX3_takes_22 rfl (n := 23) rfl ?_
    refine j_ci C (run_len C lm_X3_163 (Nat.le_of_ble_eq_true rfl) (w := 8) (Nat.le_of_ble_eq_true rfl) rfl (Nat.le_of_ble_eq_true rfl) dX3_takes_23) (n := 26) rfl ?_
    refine j_icmp_eq C dX3_takes_26 (tgt := 31) (n := 29) (by decide) rfl (fun q2 => ?_) (fun q2 => ?_)
    · refine j_iconst C dX3_takes_31 ic_0 (n := 32) rfl ?_
      refine j_istore_n C dX3_takes_32 (Nat.le_of_ble_eq_true rfl) (n := 33) rfl ?_
      exact j_to (j_X3_takes_33_8 C _ _ _ _) ⟨rfl, ⟨rfl, ⟨rfl, trivial⟩⟩⟩
    · refine j_iconst C dX3_takes_29 ic_0 (n := 30) rfl ?_
      exact j_retZP C (Or.inl rfl) dX3_takes_30
-- X3_takes
set_option maxRecDepth 20000 in
theorem j_X3_takes_33_9 {x : Fx} {g : Gl} (C : Ok x g RX3 cX3_takes 3 (some .boolean)) (fu : Nat) : ∀ (n : Nat) (x2 : Int32) (h : Hp), J x g cwX 3 4 (fun r : Int32 × Hp => qZ cwX r.1 r.2) 33 [some (rf g 42), some (.ref (g.2.2.2.2.1 9)), some (.int x2)] [] h (X3_takes_33 fu 9 n x2 h) := by
  intro n
  induction n with
  | zero =>
    intro x2 h
    rw [X3_takes_33]
    exact j_none
  | succ n ih =>
    intro x2 h
    rw [X3_takes_33]
    refine j_iload_n C dX3_takes_33 rfl (n := 34) rfl ?_
    refine j_aload_n C dX3_takes_34 rfl (n := 35) rfl ?_
    refine j_ci C (run_len C lm_X3_163 (Nat.le_of_ble_eq_true rfl) (w := 9) (Nat.le_of_ble_eq_true rfl) rfl (Nat.le_of_ble_eq_true rfl) dX3_takes_35) (n := 38) rfl ?_
    refine j_icmp_ge C dX3_takes_38 (tgt := 76) (n := 41) (by decide) rfl (fun q1 => ?_) (fun q1 => ?_)
    · refine j_aload_n C dX3_takes_76 rfl (n := 77) rfl ?_
      refine j_dup C dX3_takes_77 rfl (n := 78) rfl ?_
      refine gf_X3_32 C 42 (cX_42 g _) rfl dX3_takes_78 (n := 81) rfl ?_
      refine j_iconst C dX3_takes_81 ic_1 (n := 82) rfl ?_
      refine j_iadd C dX3_takes_82 (n := 83) rfl ?_
      refine pf_X3_32 C 42 (cX_42 g _) (sX_42_6 g _ _) rfl dX3_takes_83 (n := 86) rfl ?_
      refine j_iconst C dX3_takes_86 ic_1 (n := 87) rfl ?_
      exact j_retZP C (Or.inr rfl) dX3_takes_87
    · refine j_aload_n C dX3_takes_41 rfl (n := 42) rfl ?_
      refine gf_X3_21 C 42 (cX_42 g _) rfl dX3_takes_42 (n := 45) rfl ?_
      refine gf_X3_48 C 40 (cX_40 g _) rfl dX3_takes_45 (n := 48) rfl ?_
      refine j_aload_n C dX3_takes_48 rfl (n := 49) rfl ?_
      refine gf_X3_15 C 42 (cX_42 g _) rfl dX3_takes_49 (n := 52) rfl ?_
      refine j_aload_n C dX3_takes_52 rfl (n := 53) rfl ?_
      refine gf_X3_32 C 42 (cX_42 g _) rfl dX3_takes_53 (n := 56) rfl ?_
      refine j_iald C 44 (cX_44 g _) dX3_takes_56 (n := 57) rfl ?_
      refine j_iload_n C dX3_takes_57 rfl (n := 58) rfl ?_
      refine j_iadd C dX3_takes_58 (n := 59) rfl ?_
      refine j_bald C 41 (cX_41 g _) dX3_takes_59 (n := 60) rfl ?_
      refine j_aload_n C dX3_takes_60 rfl (n := 61) rfl ?_
      refine j_iload_n C dX3_takes_61 rfl (n := 62) rfl ?_
      refine j_chk (fun q2 => ?_)
      refine j_ci C (run_chr C lm_X3_168 (Nat.le_of_ble_eq_true rfl) (w := 9) (Nat.le_of_ble_eq_true rfl) q2 rfl (Nat.le_of_ble_eq_true rfl) dX3_takes_62) (n := 65) rfl ?_
      refine j_icmp_eq C dX3_takes_65 (tgt := 70) (n := 68) (by decide) rfl (fun q3 => ?_) (fun q3 => ?_)
      · refine j_iinc C dX3_takes_70 rfl ic_1 (Nat.le_of_ble_eq_true rfl) (n := 73) rfl ?_
        refine j_goto C dX3_takes_73 (n := 33) (by decide) ?_
        exact j_to (ih _ _) ⟨rfl, ⟨rfl, ⟨rfl, trivial⟩⟩⟩
      · refine j_iconst C dX3_takes_68 ic_0 (n := 69) rfl ?_
        exact j_retZP C (Or.inl rfl) dX3_takes_69
set_option maxRecDepth 20000 in
theorem m_X3_takes_9 (l : Launch) (fu : Nat) (h : Hp) {r : Int32 × Hp} (e : X3_takes fu 9 h = some r) : CT l yX3_takes cX3_takes 3 (some .boolean) 4 cwX (fun g => [rf g 42, .ref (g.2.2.2.2.1 9)]) h (qZ cwX r.1 r.2) := by
  refine ct_of (QR := (fun r : Int32 × Hp => qZ cwX r.1 r.2)) (by decide +kernel) (fun g => ⟨rfl, Nat.le_of_ble_eq_true rfl⟩) e (fun x g hl C => ?_)
  unfold X3_takes
  refine j_aload_n C dX3_takes_0 rfl (n := 1) rfl ?_
  refine gf_X3_9 C 42 (cX_42 g _) rfl dX3_takes_1 (n := 4) rfl ?_
  refine j_aload_n C dX3_takes_4 rfl (n := 5) rfl ?_
  refine gf_X3_32 C 42 (cX_42 g _) rfl dX3_takes_5 (n := 8) rfl ?_
  refine j_iald C 43 (cX_43 g _) dX3_takes_8 (n := 9) rfl ?_
  refine j_iconst C dX3_takes_9 ic_1 (n := 10) rfl ?_
  refine j_icmp_ne C dX3_takes_10 (tgt := 29) (n := 13) (by decide) rfl (fun q1 => ?_) (fun q1 => ?_)
  · refine j_iconst C dX3_takes_29 ic_0 (n := 30) rfl ?_
    exact j_retZP C (Or.inl rfl) dX3_takes_30
  · refine j_aload_n C dX3_takes_13 rfl (n := 14) rfl ?_
    refine gf_X3_18 C 42 (cX_42 g _) rfl dX3_takes_14 (n := 17) rfl ?_
    refine j_aload_n C dX3_takes_17 rfl (n := 18) rfl ?_
    refine gf_X3_32 C 42 (cX_42 g _) rfl dX3_takes_18 (n := 21) rfl ?_
    refine j_iald C 45 (cX_45 g _) dX3_takes_21 (n := 22) rfl ?_
    refine j_aload_n C dX3_takes_22 rfl (n := 23) rfl ?_
    refine j_ci C (run_len C lm_X3_163 (Nat.le_of_ble_eq_true rfl) (w := 9) (Nat.le_of_ble_eq_true rfl) rfl (Nat.le_of_ble_eq_true rfl) dX3_takes_23) (n := 26) rfl ?_
    refine j_icmp_eq C dX3_takes_26 (tgt := 31) (n := 29) (by decide) rfl (fun q2 => ?_) (fun q2 => ?_)
    · refine j_iconst C dX3_takes_31 ic_0 (n := 32) rfl ?_
      refine j_istore_n C dX3_takes_32 (Nat.le_of_ble_eq_true rfl) (n := 33) rfl ?_
      exact j_to (j_X3_takes_33_9 C _ _ _ _) ⟨rfl, ⟨rfl, ⟨rfl, trivial⟩⟩⟩
    · refine j_iconst C dX3_takes_29 ic_0 (n := 30) rfl ?_
      exact j_retZP C (Or.inl rfl) dX3_takes_30
-- X3_takes
set_option maxRecDepth 20000 in
theorem j_X3_takes_33_11 {x : Fx} {g : Gl} (C : Ok x g RX3 cX3_takes 3 (some .boolean)) (fu : Nat) : ∀ (n : Nat) (x2 : Int32) (h : Hp), J x g cwX 3 4 (fun r : Int32 × Hp => qZ cwX r.1 r.2) 33 [some (rf g 42), some (.ref (g.2.2.2.2.1 11)), some (.int x2)] [] h (X3_takes_33 fu 11 n x2 h) := by
  intro n
  induction n with
  | zero =>
    intro x2 h
    rw [X3_takes_33]
    exact j_none
  | succ n ih =>
    intro x2 h
    rw [X3_takes_33]
    refine j_iload_n C dX3_takes_33 rfl (n := 34) rfl ?_
    refine j_aload_n C dX3_takes_34 rfl (n := 35) rfl ?_
    refine j_ci C (run_len C lm_X3_163 (Nat.le_of_ble_eq_true rfl) (w := 11) (Nat.le_of_ble_eq_true rfl) rfl (Nat.le_of_ble_eq_true rfl) dX3_takes_35) (n := 38) rfl ?_
    refine j_icmp_ge C dX3_takes_38 (tgt := 76) (n := 41) (by decide) rfl (fun q1 => ?_) (fun q1 => ?_)
    · refine j_aload_n C dX3_takes_76 rfl (n := 77) rfl ?_
      refine j_dup C dX3_takes_77 rfl (n := 78) rfl ?_
      refine gf_X3_32 C 42 (cX_42 g _) rfl dX3_takes_78 (n := 81) rfl ?_
      refine j_iconst C dX3_takes_81 ic_1 (n := 82) rfl ?_
      refine j_iadd C dX3_takes_82 (n := 83) rfl ?_
      refine pf_X3_32 C 42 (cX_42 g _) (sX_42_6 g _ _) rfl dX3_takes_83 (n := 86) rfl ?_
      refine j_iconst C dX3_takes_86 ic_1 (n := 87) rfl ?_
      exact j_retZP C (Or.inr rfl) dX3_takes_87
    · refine j_aload_n C dX3_takes_41 rfl (n := 42) rfl ?_
      refine gf_X3_21 C 42 (cX_42 g _) rfl dX3_takes_42 (n := 45) rfl ?_
      refine gf_X3_48 C 40 (cX_40 g _) rfl dX3_takes_45 (n := 48) rfl ?_
      refine j_aload_n C dX3_takes_48 rfl (n := 49) rfl ?_
      refine gf_X3_15 C 42 (cX_42 g _) rfl dX3_takes_49 (n := 52) rfl ?_
      refine j_aload_n C dX3_takes_52 rfl (n := 53) rfl ?_
      refine gf_X3_32 C 42 (cX_42 g _) rfl dX3_takes_53 (n := 56) rfl ?_
      refine j_iald C 44 (cX_44 g _) dX3_takes_56 (n := 57) rfl ?_
      refine j_iload_n C dX3_takes_57 rfl (n := 58) rfl ?_
      refine j_iadd C dX3_takes_58 (n := 59) rfl ?_
      refine j_bald C 41 (cX_41 g _) dX3_takes_59 (n := 60) rfl ?_
      refine j_aload_n C dX3_takes_60 rfl (n := 61) rfl ?_
      refine j_iload_n C dX3_takes_61 rfl (n := 62) rfl ?_
      refine j_chk (fun q2 => ?_)
      refine j_ci C (run_chr C lm_X3_168 (Nat.le_of_ble_eq_true rfl) (w := 11) (Nat.le_of_ble_eq_true rfl) q2 rfl (Nat.le_of_ble_eq_true rfl) dX3_takes_62) (n := 65) rfl ?_
      refine j_icmp_eq C dX3_takes_65 (tgt := 70) (n := 68) (by decide) rfl (fun q3 => ?_) (fun q3 => ?_)
      · refine j_iinc C dX3_takes_70 rfl ic_1 (Nat.le_of_ble_eq_true rfl) (n := 73) rfl ?_
        refine j_goto C dX3_takes_73 (n := 33) (by decide) ?_
        exact j_to (ih _ _) ⟨rfl, ⟨rfl, ⟨rfl, trivial⟩⟩⟩
      · refine j_iconst C dX3_takes_68 ic_0 (n := 69) rfl ?_
        exact j_retZP C (Or.inl rfl) dX3_takes_69
set_option maxRecDepth 20000 in
theorem m_X3_takes_11 (l : Launch) (fu : Nat) (h : Hp) {r : Int32 × Hp} (e : X3_takes fu 11 h = some r) : CT l yX3_takes cX3_takes 3 (some .boolean) 4 cwX (fun g => [rf g 42, .ref (g.2.2.2.2.1 11)]) h (qZ cwX r.1 r.2) := by
  refine ct_of (QR := (fun r : Int32 × Hp => qZ cwX r.1 r.2)) (by decide +kernel) (fun g => ⟨rfl, Nat.le_of_ble_eq_true rfl⟩) e (fun x g hl C => ?_)
  unfold X3_takes
  refine j_aload_n C dX3_takes_0 rfl (n := 1) rfl ?_
  refine gf_X3_9 C 42 (cX_42 g _) rfl dX3_takes_1 (n := 4) rfl ?_
  refine j_aload_n C dX3_takes_4 rfl (n := 5) rfl ?_
  refine gf_X3_32 C 42 (cX_42 g _) rfl dX3_takes_5 (n := 8) rfl ?_
  refine j_iald C 43 (cX_43 g _) dX3_takes_8 (n := 9) rfl ?_
  refine j_iconst C dX3_takes_9 ic_1 (n := 10) rfl ?_
  refine j_icmp_ne C dX3_takes_10 (tgt := 29) (n := 13) (by decide) rfl (fun q1 => ?_) (fun q1 => ?_)
  · refine j_iconst C dX3_takes_29 ic_0 (n := 30) rfl ?_
    exact j_retZP C (Or.inl rfl) dX3_takes_30
  · refine j_aload_n C dX3_takes_13 rfl (n := 14) rfl ?_
    refine gf_X3_18 C 42 (cX_42 g _) rfl dX3_takes_14 (n := 17) rfl ?_
    refine j_aload_n C dX3_takes_17 rfl (n := 18) rfl ?_
    refine gf_X3_32 C 42 (cX_42 g _) rfl dX3_takes_18 (n := 21) rfl ?_
    refine j_iald C 45 (cX_45 g _) dX3_takes_21 (n := 22) rfl ?_
    refine j_aload_n C dX3_takes_22 rfl (n := 23) rfl ?_
    refine j_ci C (run_len C lm_X3_163 (Nat.le_of_ble_eq_true rfl) (w := 11) (Nat.le_of_ble_eq_true rfl) rfl (Nat.le_of_ble_eq_true rfl) dX3_takes_23) (n := 26) rfl ?_
    refine j_icmp_eq C dX3_takes_26 (tgt := 31) (n := 29) (by decide) rfl (fun q2 => ?_) (fun q2 => ?_)
    · refine j_iconst C dX3_takes_31 ic_0 (n := 32) rfl ?_
      refine j_istore_n C dX3_takes_32 (Nat.le_of_ble_eq_true rfl) (n := 33) rfl ?_
      exact j_to (j_X3_takes_33_11 C _ _ _ _) ⟨rfl, ⟨rfl, ⟨rfl, trivial⟩⟩⟩
    · refine j_iconst C dX3_takes_29 ic_0 (n := 30) rfl ?_
      exact j_retZP C (Or.inl rfl) dX3_takes_30
-- X3_takeNumber
set_option maxRecDepth 20000 in
theorem m_X3_takeNumber (l : Launch) (x1 : Int32) (x2 : Int32) (h : Hp) {r : Int32 × Hp} (e : X3_takeNumber x1 x2 h = some r) : CT l yX3_takeNumber cX3_takeNumber 3 (some .int) 0 cwX (fun g => [rf g 42, .int x1, .int x2]) h (qI cwX r.1 r.2) := by
  refine ct_of (QR := (fun r : Int32 × Hp => qI cwX r.1 r.2)) (by decide +kernel) (fun g => ⟨rfl, Nat.le_of_ble_eq_true rfl⟩) e (fun x g hl C => ?_)
  unfold X3_takeNumber
  refine j_aload_n C dX3_takeNumber_0 rfl (n := 1) rfl ?_
  refine gf_X3_9 C 42 (cX_42 g _) rfl dX3_takeNumber_1 (n := 4) rfl ?_
  refine j_aload_n C dX3_takeNumber_4 rfl (n := 5) rfl ?_
  refine gf_X3_32 C 42 (cX_42 g _) rfl dX3_takeNumber_5 (n := 8) rfl ?_
  refine j_iald C 43 (cX_43 g _) dX3_takeNumber_8 (n := 9) rfl ?_
  refine j_iconst C dX3_takeNumber_9 ic_2 (n := 10) rfl ?_
  refine j_icmp_ne C dX3_takeNumber_10 (tgt := 39) (n := 13) (by decide) rfl (fun q1 => ?_) (fun q1 => ?_)
  · refine j_iconst C dX3_takeNumber_39 ic_m1 (n := 40) rfl ?_
    exact j_retP C dX3_takeNumber_40
  · refine j_aload_n C dX3_takeNumber_13 rfl (n := 14) rfl ?_
    refine gf_X3_18 C 42 (cX_42 g _) rfl dX3_takeNumber_14 (n := 17) rfl ?_
    refine j_aload_n C dX3_takeNumber_17 rfl (n := 18) rfl ?_
    refine gf_X3_32 C 42 (cX_42 g _) rfl dX3_takeNumber_18 (n := 21) rfl ?_
    refine j_iald C 45 (cX_45 g _) dX3_takeNumber_21 (n := 22) rfl ?_
    refine j_iload_n C dX3_takeNumber_22 rfl (n := 23) rfl ?_
    refine j_icmp_lt C dX3_takeNumber_23 (tgt := 39) (n := 26) (by decide) rfl (fun q2 => ?_) (fun q2 => ?_)
    · refine j_iconst C dX3_takeNumber_39 ic_m1 (n := 40) rfl ?_
      exact j_retP C dX3_takeNumber_40
    · refine j_aload_n C dX3_takeNumber_26 rfl (n := 27) rfl ?_
      refine gf_X3_18 C 42 (cX_42 g _) rfl dX3_takeNumber_27 (n := 30) rfl ?_
      refine j_aload_n C dX3_takeNumber_30 rfl (n := 31) rfl ?_
      refine gf_X3_32 C 42 (cX_42 g _) rfl dX3_takeNumber_31 (n := 34) rfl ?_
      refine j_iald C 45 (cX_45 g _) dX3_takeNumber_34 (n := 35) rfl ?_
      refine j_iload_n C dX3_takeNumber_35 rfl (n := 36) rfl ?_
      refine j_icmp_le C dX3_takeNumber_36 (tgt := 41) (n := 39) (by decide) rfl (fun q3 => ?_) (fun q3 => ?_)
      · refine j_aload_n C dX3_takeNumber_41 rfl (n := 42) rfl ?_
        refine j_dup C dX3_takeNumber_42 rfl (n := 43) rfl ?_
        refine gf_X3_32 C 42 (cX_42 g _) rfl dX3_takeNumber_43 (n := 46) rfl ?_
        refine j_iconst C dX3_takeNumber_46 ic_1 (n := 47) rfl ?_
        refine j_iadd C dX3_takeNumber_47 (n := 48) rfl ?_
        refine pf_X3_32 C 42 (cX_42 g _) (sX_42_6 g _ _) rfl dX3_takeNumber_48 (n := 51) rfl ?_
        refine j_aload_n C dX3_takeNumber_51 rfl (n := 52) rfl ?_
        refine gf_X3_18 C 42 (cX_42 g _) rfl dX3_takeNumber_52 (n := 55) rfl ?_
        refine j_aload_n C dX3_takeNumber_55 rfl (n := 56) rfl ?_
        refine gf_X3_32 C 42 (cX_42 g _) rfl dX3_takeNumber_56 (n := 59) rfl ?_
        refine j_iconst C dX3_takeNumber_59 ic_1 (n := 60) rfl ?_
        refine j_isub C dX3_takeNumber_60 (n := 61) rfl ?_
        refine j_iald C 45 (cX_45 g _) dX3_takeNumber_61 (n := 62) rfl ?_
        exact j_retP C dX3_takeNumber_62
      · refine j_iconst C dX3_takeNumber_39 ic_m1 (n := 40) rfl ?_
        exact j_retP C dX3_takeNumber_40
-- X3_tells
set_option maxRecDepth 20000 in
theorem m_X3_tells_30 (l : Launch) (x2 : Int32) (x3 : Int32) (x4 : Int32) (h : Hp) {r : Int32 × Hp} (e : X3_tells 30 x2 x3 x4 h = some r) : CT l yX3_tells cX3_tells 6 (some .boolean) 1 cwX (fun g => [rf g 42, rf g 30, .int x2, .int x3, .int x4]) h (qZ cwX r.1 r.2) := by
  refine ct_of (QR := (fun r : Int32 × Hp => qZ cwX r.1 r.2)) (by decide +kernel) (fun g => ⟨rfl, Nat.le_of_ble_eq_true rfl⟩) e (fun x g hl C => ?_)
  unfold X3_tells
  refine j_aload_n C dX3_tells_0 rfl (n := 1) rfl ?_
  refine j_iload_n C dX3_tells_1 rfl (n := 2) rfl ?_
  refine j_iload C dX3_tells_2 rfl (n := 4) rfl ?_
  refine j_bnd (fun r2 q1 => ?_)
  refine j_ci C (run_V C mi_X3_takeNumber lm_X3_138 iv_X3_takeNumber ⟨Nat.le_of_ble_eq_true rfl, Nat.le_of_ble_eq_true rfl⟩ (m_X3_takeNumber _ _ _ _ q1) (cX_42 g _) rfl rfl rfl rfl (Nat.le_of_ble_eq_true rfl) dX3_tells_4) (n := 7) rfl ?_
  refine j_istore C dX3_tells_7 (Nat.le_of_ble_eq_true rfl) (n := 9) rfl ?_
  refine j_iload C dX3_tells_9 rfl (n := 11) rfl ?_
  refine j_if_ge C dX3_tells_11 (tgt := 16) (n := 14) (by decide) rfl (fun q4 => ?_) (fun q4 => ?_)
  · refine j_aload_n C dX3_tells_16 rfl (n := 17) rfl ?_
    refine j_iload_n C dX3_tells_17 rfl (n := 18) rfl ?_
    refine j_iload C dX3_tells_18 rfl (n := 20) rfl ?_
    refine j_iast C 30 (cX_30 g _) (aX_30 g _ _ _) dX3_tells_20 (n := 21) rfl ?_
    refine j_iconst C dX3_tells_21 ic_1 (n := 22) rfl ?_
    exact j_retZP C (Or.inr rfl) dX3_tells_22
  · refine j_iconst C dX3_tells_14 ic_0 (n := 15) rfl ?_
    exact j_retZP C (Or.inl rfl) dX3_tells_15
-- X3_tells
set_option maxRecDepth 20000 in
theorem m_X3_tells_28 (l : Launch) (x2 : Int32) (x3 : Int32) (x4 : Int32) (h : Hp) {r : Int32 × Hp} (e : X3_tells 28 x2 x3 x4 h = some r) : CT l yX3_tells cX3_tells 6 (some .boolean) 1 cwX (fun g => [rf g 42, rf g 28, .int x2, .int x3, .int x4]) h (qZ cwX r.1 r.2) := by
  refine ct_of (QR := (fun r : Int32 × Hp => qZ cwX r.1 r.2)) (by decide +kernel) (fun g => ⟨rfl, Nat.le_of_ble_eq_true rfl⟩) e (fun x g hl C => ?_)
  unfold X3_tells
  refine j_aload_n C dX3_tells_0 rfl (n := 1) rfl ?_
  refine j_iload_n C dX3_tells_1 rfl (n := 2) rfl ?_
  refine j_iload C dX3_tells_2 rfl (n := 4) rfl ?_
  refine j_bnd (fun r2 q1 => ?_)
  refine j_ci C (run_V C mi_X3_takeNumber lm_X3_138 iv_X3_takeNumber ⟨Nat.le_of_ble_eq_true rfl, Nat.le_of_ble_eq_true rfl⟩ (m_X3_takeNumber _ _ _ _ q1) (cX_42 g _) rfl rfl rfl rfl (Nat.le_of_ble_eq_true rfl) dX3_tells_4) (n := 7) rfl ?_
  refine j_istore C dX3_tells_7 (Nat.le_of_ble_eq_true rfl) (n := 9) rfl ?_
  refine j_iload C dX3_tells_9 rfl (n := 11) rfl ?_
  refine j_if_ge C dX3_tells_11 (tgt := 16) (n := 14) (by decide) rfl (fun q4 => ?_) (fun q4 => ?_)
  · refine j_aload_n C dX3_tells_16 rfl (n := 17) rfl ?_
    refine j_iload_n C dX3_tells_17 rfl (n := 18) rfl ?_
    refine j_iload C dX3_tells_18 rfl (n := 20) rfl ?_
    refine j_iast C 28 (cX_28 g _) (aX_28 g _ _ _) dX3_tells_20 (n := 21) rfl ?_
    refine j_iconst C dX3_tells_21 ic_1 (n := 22) rfl ?_
    exact j_retZP C (Or.inr rfl) dX3_tells_22
  · refine j_iconst C dX3_tells_14 ic_0 (n := 15) rfl ?_
    exact j_retZP C (Or.inl rfl) dX3_tells_15
-- X3_tells
set_option maxRecDepth 20000 in
theorem m_X3_tells_25 (l : Launch) (x2 : Int32) (x3 : Int32) (x4 : Int32) (h : Hp) {r : Int32 × Hp} (e : X3_tells 25 x2 x3 x4 h = some r) : CT l yX3_tells cX3_tells 6 (some .boolean) 1 cwX (fun g => [rf g 42, rf g 25, .int x2, .int x3, .int x4]) h (qZ cwX r.1 r.2) := by
  refine ct_of (QR := (fun r : Int32 × Hp => qZ cwX r.1 r.2)) (by decide +kernel) (fun g => ⟨rfl, Nat.le_of_ble_eq_true rfl⟩) e (fun x g hl C => ?_)
  unfold X3_tells
  refine j_aload_n C dX3_tells_0 rfl (n := 1) rfl ?_
  refine j_iload_n C dX3_tells_1 rfl (n := 2) rfl ?_
  refine j_iload C dX3_tells_2 rfl (n := 4) rfl ?_
  refine j_bnd (fun r2 q1 => ?_)
  refine j_ci C (run_V C mi_X3_takeNumber lm_X3_138 iv_X3_takeNumber ⟨Nat.le_of_ble_eq_true rfl, Nat.le_of_ble_eq_true rfl⟩ (m_X3_takeNumber _ _ _ _ q1) (cX_42 g _) rfl rfl rfl rfl (Nat.le_of_ble_eq_true rfl) dX3_tells_4) (n := 7) rfl ?_
  refine j_istore C dX3_tells_7 (Nat.le_of_ble_eq_true rfl) (n := 9) rfl ?_
  refine j_iload C dX3_tells_9 rfl (n := 11) rfl ?_
  refine j_if_ge C dX3_tells_11 (tgt := 16) (n := 14) (by decide) rfl (fun q4 => ?_) (fun q4 => ?_)
  · refine j_aload_n C dX3_tells_16 rfl (n := 17) rfl ?_
    refine j_iload_n C dX3_tells_17 rfl (n := 18) rfl ?_
    refine j_iload C dX3_tells_18 rfl (n := 20) rfl ?_
    refine j_iast C 25 (cX_25 g _) (aX_25 g _ _ _) dX3_tells_20 (n := 21) rfl ?_
    refine j_iconst C dX3_tells_21 ic_1 (n := 22) rfl ?_
    exact j_retZP C (Or.inr rfl) dX3_tells_22
  · refine j_iconst C dX3_tells_14 ic_0 (n := 15) rfl ?_
    exact j_retZP C (Or.inl rfl) dX3_tells_15
-- X3_tells
set_option maxRecDepth 20000 in
theorem m_X3_tells_26 (l : Launch) (x2 : Int32) (x3 : Int32) (x4 : Int32) (h : Hp) {r : Int32 × Hp} (e : X3_tells 26 x2 x3 x4 h = some r) : CT l yX3_tells cX3_tells 6 (some .boolean) 1 cwX (fun g => [rf g 42, rf g 26, .int x2, .int x3, .int x4]) h (qZ cwX r.1 r.2) := by
  refine ct_of (QR := (fun r : Int32 × Hp => qZ cwX r.1 r.2)) (by decide +kernel) (fun g => ⟨rfl, Nat.le_of_ble_eq_true rfl⟩) e (fun x g hl C => ?_)
  unfold X3_tells
  refine j_aload_n C dX3_tells_0 rfl (n := 1) rfl ?_
  refine j_iload_n C dX3_tells_1 rfl (n := 2) rfl ?_
  refine j_iload C dX3_tells_2 rfl (n := 4) rfl ?_
  refine j_bnd (fun r2 q1 => ?_)
  refine j_ci C (run_V C mi_X3_takeNumber lm_X3_138 iv_X3_takeNumber ⟨Nat.le_of_ble_eq_true rfl, Nat.le_of_ble_eq_true rfl⟩ (m_X3_takeNumber _ _ _ _ q1) (cX_42 g _) rfl rfl rfl rfl (Nat.le_of_ble_eq_true rfl) dX3_tells_4) (n := 7) rfl ?_
  refine j_istore C dX3_tells_7 (Nat.le_of_ble_eq_true rfl) (n := 9) rfl ?_
  refine j_iload C dX3_tells_9 rfl (n := 11) rfl ?_
  refine j_if_ge C dX3_tells_11 (tgt := 16) (n := 14) (by decide) rfl (fun q4 => ?_) (fun q4 => ?_)
  · refine j_aload_n C dX3_tells_16 rfl (n := 17) rfl ?_
    refine j_iload_n C dX3_tells_17 rfl (n := 18) rfl ?_
    refine j_iload C dX3_tells_18 rfl (n := 20) rfl ?_
    refine j_iast C 26 (cX_26 g _) (aX_26 g _ _ _) dX3_tells_20 (n := 21) rfl ?_
    refine j_iconst C dX3_tells_21 ic_1 (n := 22) rfl ?_
    exact j_retZP C (Or.inr rfl) dX3_tells_22
  · refine j_iconst C dX3_tells_14 ic_0 (n := 15) rfl ?_
    exact j_retZP C (Or.inl rfl) dX3_tells_15
-- X3_tells
set_option maxRecDepth 20000 in
theorem m_X3_tells_27 (l : Launch) (x2 : Int32) (x3 : Int32) (x4 : Int32) (h : Hp) {r : Int32 × Hp} (e : X3_tells 27 x2 x3 x4 h = some r) : CT l yX3_tells cX3_tells 6 (some .boolean) 1 cwX (fun g => [rf g 42, rf g 27, .int x2, .int x3, .int x4]) h (qZ cwX r.1 r.2) := by
  refine ct_of (QR := (fun r : Int32 × Hp => qZ cwX r.1 r.2)) (by decide +kernel) (fun g => ⟨rfl, Nat.le_of_ble_eq_true rfl⟩) e (fun x g hl C => ?_)
  unfold X3_tells
  refine j_aload_n C dX3_tells_0 rfl (n := 1) rfl ?_
  refine j_iload_n C dX3_tells_1 rfl (n := 2) rfl ?_
  refine j_iload C dX3_tells_2 rfl (n := 4) rfl ?_
  refine j_bnd (fun r2 q1 => ?_)
  refine j_ci C (run_V C mi_X3_takeNumber lm_X3_138 iv_X3_takeNumber ⟨Nat.le_of_ble_eq_true rfl, Nat.le_of_ble_eq_true rfl⟩ (m_X3_takeNumber _ _ _ _ q1) (cX_42 g _) rfl rfl rfl rfl (Nat.le_of_ble_eq_true rfl) dX3_tells_4) (n := 7) rfl ?_
  refine j_istore C dX3_tells_7 (Nat.le_of_ble_eq_true rfl) (n := 9) rfl ?_
  refine j_iload C dX3_tells_9 rfl (n := 11) rfl ?_
  refine j_if_ge C dX3_tells_11 (tgt := 16) (n := 14) (by decide) rfl (fun q4 => ?_) (fun q4 => ?_)
  · refine j_aload_n C dX3_tells_16 rfl (n := 17) rfl ?_
    refine j_iload_n C dX3_tells_17 rfl (n := 18) rfl ?_
    refine j_iload C dX3_tells_18 rfl (n := 20) rfl ?_
    refine j_iast C 27 (cX_27 g _) (aX_27 g _ _ _) dX3_tells_20 (n := 21) rfl ?_
    refine j_iconst C dX3_tells_21 ic_1 (n := 22) rfl ?_
    exact j_retZP C (Or.inr rfl) dX3_tells_22
  · refine j_iconst C dX3_tells_14 ic_0 (n := 15) rfl ?_
    exact j_retZP C (Or.inl rfl) dX3_tells_15
-- X3_tells
set_option maxRecDepth 20000 in
theorem m_X3_tells_29 (l : Launch) (x2 : Int32) (x3 : Int32) (x4 : Int32) (h : Hp) {r : Int32 × Hp} (e : X3_tells 29 x2 x3 x4 h = some r) : CT l yX3_tells cX3_tells 6 (some .boolean) 1 cwX (fun g => [rf g 42, rf g 29, .int x2, .int x3, .int x4]) h (qZ cwX r.1 r.2) := by
  refine ct_of (QR := (fun r : Int32 × Hp => qZ cwX r.1 r.2)) (by decide +kernel) (fun g => ⟨rfl, Nat.le_of_ble_eq_true rfl⟩) e (fun x g hl C => ?_)
  unfold X3_tells
  refine j_aload_n C dX3_tells_0 rfl (n := 1) rfl ?_
  refine j_iload_n C dX3_tells_1 rfl (n := 2) rfl ?_
  refine j_iload C dX3_tells_2 rfl (n := 4) rfl ?_
  refine j_bnd (fun r2 q1 => ?_)
  refine j_ci C (run_V C mi_X3_takeNumber lm_X3_138 iv_X3_takeNumber ⟨Nat.le_of_ble_eq_true rfl, Nat.le_of_ble_eq_true rfl⟩ (m_X3_takeNumber _ _ _ _ q1) (cX_42 g _) rfl rfl rfl rfl (Nat.le_of_ble_eq_true rfl) dX3_tells_4) (n := 7) rfl ?_
  refine j_istore C dX3_tells_7 (Nat.le_of_ble_eq_true rfl) (n := 9) rfl ?_
  refine j_iload C dX3_tells_9 rfl (n := 11) rfl ?_
  refine j_if_ge C dX3_tells_11 (tgt := 16) (n := 14) (by decide) rfl (fun q4 => ?_) (fun q4 => ?_)
  · refine j_aload_n C dX3_tells_16 rfl (n := 17) rfl ?_
    refine j_iload_n C dX3_tells_17 rfl (n := 18) rfl ?_
    refine j_iload C dX3_tells_18 rfl (n := 20) rfl ?_
    refine j_iast C 29 (cX_29 g _) (aX_29 g _ _ _) dX3_tells_20 (n := 21) rfl ?_
    refine j_iconst C dX3_tells_21 ic_1 (n := 22) rfl ?_
    exact j_retZP C (Or.inr rfl) dX3_tells_22
  · refine j_iconst C dX3_tells_14 ic_0 (n := 15) rfl ?_
    exact j_retZP C (Or.inl rfl) dX3_tells_15
-- X3_mayTell
set_option maxRecDepth 20000 in
theorem m_X3_mayTell_7_25 (l : Launch) (fu : Nat) (x3 : Int32) (x4 : Int32) (x5 : Int32) (h : Hp) {r : Int32 × Hp} (e : X3_mayTell fu 7 25 x3 x4 x5 h = some r) : CT l yX3_mayTell cX3_mayTell 6 (some .boolean) 5 cwX (fun g => [rf g 42, .ref (g.2.2.2.2.1 7), rf g 25, .int x3, .int x4, .int x5]) h (qZ cwX r.1 r.2) := by
  refine ct_of (QR := (fun r : Int32 × Hp => qZ cwX r.1 r.2)) (by decide +kernel) (fun g => ⟨rfl, Nat.le_of_ble_eq_true rfl⟩) e (fun x g hl C => ?_)
  unfold X3_mayTell
  refine j_aload_n C dX3_mayTell_0 rfl (n := 1) rfl ?_
  refine j_aload_n C dX3_mayTell_1 rfl (n := 2) rfl ?_
  refine j_bnd (fun r2 q1 => ?_)
  refine j_cz C (run_V C mi_X3_takes lm_X3_80 iv_X3_takes ⟨Nat.le_of_ble_eq_true rfl, Nat.le_of_ble_eq_true rfl⟩ (m_X3_takes_7 _ _ _ q1) (cX_42 g _) rfl rfl rfl rfl (Nat.le_of_ble_eq_true rfl) dX3_mayTell_2) (n := 5) rfl (fun b3 => ?_)
  refine j_if_eq C dX3_mayTell_5 (tgt := 21) (n := 8) (by decide) rfl (fun q4 => ?_) (fun q4 => ?_)
  · refine j_iconst C dX3_mayTell_21 ic_1 (n := 22) rfl ?_
    refine j_goto C dX3_mayTell_22 (n := 26) (by decide) ?_
    exact j_retZP C (Or.inr rfl) dX3_mayTell_26
  · refine j_aload_n C dX3_mayTell_8 rfl (n := 9) rfl ?_
    refine j_aload_n C dX3_mayTell_9 rfl (n := 10) rfl ?_
    refine j_iload_n C dX3_mayTell_10 rfl (n := 11) rfl ?_
    refine j_iload C dX3_mayTell_11 rfl (n := 13) rfl ?_
    refine j_iload C dX3_mayTell_13 rfl (n := 15) rfl ?_
    refine j_bnd (fun r6 q5 => ?_)
    refine j_cz C (run_V C mi_X3_tells lm_X3_147 iv_X3_tells ⟨Nat.le_of_ble_eq_true rfl, Nat.le_of_ble_eq_true rfl⟩ (m_X3_tells_25 _ _ _ _ _ q5) (cX_42 g _) rfl rfl rfl rfl (Nat.le_of_ble_eq_true rfl) dX3_mayTell_15) (n := 18) rfl (fun b7 => ?_)
    refine j_if_eq C dX3_mayTell_18 (tgt := 25) (n := 21) (by decide) rfl (fun q8 => ?_) (fun q8 => ?_)
    · refine j_iconst C dX3_mayTell_25 ic_0 (n := 26) rfl ?_
      exact j_retZP C (Or.inl rfl) dX3_mayTell_26
    · refine j_iconst C dX3_mayTell_21 ic_1 (n := 22) rfl ?_
      refine j_goto C dX3_mayTell_22 (n := 26) (by decide) ?_
      exact j_retZP C (Or.inr rfl) dX3_mayTell_26
-- X3_mayTell
set_option maxRecDepth 20000 in
theorem m_X3_mayTell_8_26 (l : Launch) (fu : Nat) (x3 : Int32) (x4 : Int32) (x5 : Int32) (h : Hp) {r : Int32 × Hp} (e : X3_mayTell fu 8 26 x3 x4 x5 h = some r) : CT l yX3_mayTell cX3_mayTell 6 (some .boolean) 5 cwX (fun g => [rf g 42, .ref (g.2.2.2.2.1 8), rf g 26, .int x3, .int x4, .int x5]) h (qZ cwX r.1 r.2) := by
  refine ct_of (QR := (fun r : Int32 × Hp => qZ cwX r.1 r.2)) (by decide +kernel) (fun g => ⟨rfl, Nat.le_of_ble_eq_true rfl⟩) e (fun x g hl C => ?_)
  unfold X3_mayTell
  refine j_aload_n C dX3_mayTell_0 rfl (n := 1) rfl ?_
  refine j_aload_n C dX3_mayTell_1 rfl (n := 2) rfl ?_
  refine j_bnd (fun r2 q1 => ?_)
  refine j_cz C (run_V C mi_X3_takes lm_X3_80 iv_X3_takes ⟨Nat.le_of_ble_eq_true rfl, Nat.le_of_ble_eq_true rfl⟩ (m_X3_takes_8 _ _ _ q1) (cX_42 g _) rfl rfl rfl rfl (Nat.le_of_ble_eq_true rfl) dX3_mayTell_2) (n := 5) rfl (fun b3 => ?_)
  refine j_if_eq C dX3_mayTell_5 (tgt := 21) (n := 8) (by decide) rfl (fun q4 => ?_) (fun q4 => ?_)
  · refine j_iconst C dX3_mayTell_21 ic_1 (n := 22) rfl ?_
    refine j_goto C dX3_mayTell_22 (n := 26) (by decide) ?_
    exact j_retZP C (Or.inr rfl) dX3_mayTell_26
  · refine j_aload_n C dX3_mayTell_8 rfl (n := 9) rfl ?_
    refine j_aload_n C dX3_mayTell_9 rfl (n := 10) rfl ?_
    refine j_iload_n C dX3_mayTell_10 rfl (n := 11) rfl ?_
    refine j_iload C dX3_mayTell_11 rfl (n := 13) rfl ?_
    refine j_iload C dX3_mayTell_13 rfl (n := 15) rfl ?_
    refine j_bnd (fun r6 q5 => ?_)
    refine j_cz C (run_V C mi_X3_tells lm_X3_147 iv_X3_tells ⟨Nat.le_of_ble_eq_true rfl, Nat.le_of_ble_eq_true rfl⟩ (m_X3_tells_26 _ _ _ _ _ q5) (cX_42 g _) rfl rfl rfl rfl (Nat.le_of_ble_eq_true rfl) dX3_mayTell_15) (n := 18) rfl (fun b7 => ?_)
    refine j_if_eq C dX3_mayTell_18 (tgt := 25) (n := 21) (by decide) rfl (fun q8 => ?_) (fun q8 => ?_)
    · refine j_iconst C dX3_mayTell_25 ic_0 (n := 26) rfl ?_
      exact j_retZP C (Or.inl rfl) dX3_mayTell_26
    · refine j_iconst C dX3_mayTell_21 ic_1 (n := 22) rfl ?_
      refine j_goto C dX3_mayTell_22 (n := 26) (by decide) ?_
      exact j_retZP C (Or.inr rfl) dX3_mayTell_26
-- X3_mayTell
set_option maxRecDepth 20000 in
theorem m_X3_mayTell_9_27 (l : Launch) (fu : Nat) (x3 : Int32) (x4 : Int32) (x5 : Int32) (h : Hp) {r : Int32 × Hp} (e : X3_mayTell fu 9 27 x3 x4 x5 h = some r) : CT l yX3_mayTell cX3_mayTell 6 (some .boolean) 5 cwX (fun g => [rf g 42, .ref (g.2.2.2.2.1 9), rf g 27, .int x3, .int x4, .int x5]) h (qZ cwX r.1 r.2) := by
  refine ct_of (QR := (fun r : Int32 × Hp => qZ cwX r.1 r.2)) (by decide +kernel) (fun g => ⟨rfl, Nat.le_of_ble_eq_true rfl⟩) e (fun x g hl C => ?_)
  unfold X3_mayTell
  refine j_aload_n C dX3_mayTell_0 rfl (n := 1) rfl ?_
  refine j_aload_n C dX3_mayTell_1 rfl (n := 2) rfl ?_
  refine j_bnd (fun r2 q1 => ?_)
  refine j_cz C (run_V C mi_X3_takes lm_X3_80 iv_X3_takes ⟨Nat.le_of_ble_eq_true rfl, Nat.le_of_ble_eq_true rfl⟩ (m_X3_takes_9 _ _ _ q1) (cX_42 g _) rfl rfl rfl rfl (Nat.le_of_ble_eq_true rfl) dX3_mayTell_2) (n := 5) rfl (fun b3 => ?_)
  refine j_if_eq C dX3_mayTell_5 (tgt := 21) (n := 8) (by decide) rfl (fun q4 => ?_) (fun q4 => ?_)
  · refine j_iconst C dX3_mayTell_21 ic_1 (n := 22) rfl ?_
    refine j_goto C dX3_mayTell_22 (n := 26) (by decide) ?_
    exact j_retZP C (Or.inr rfl) dX3_mayTell_26
  · refine j_aload_n C dX3_mayTell_8 rfl (n := 9) rfl ?_
    refine j_aload_n C dX3_mayTell_9 rfl (n := 10) rfl ?_
    refine j_iload_n C dX3_mayTell_10 rfl (n := 11) rfl ?_
    refine j_iload C dX3_mayTell_11 rfl (n := 13) rfl ?_
    refine j_iload C dX3_mayTell_13 rfl (n := 15) rfl ?_
    refine j_bnd (fun r6 q5 => ?_)
    refine j_cz C (run_V C mi_X3_tells lm_X3_147 iv_X3_tells ⟨Nat.le_of_ble_eq_true rfl, Nat.le_of_ble_eq_true rfl⟩ (m_X3_tells_27 _ _ _ _ _ q5) (cX_42 g _) rfl rfl rfl rfl (Nat.le_of_ble_eq_true rfl) dX3_mayTell_15) (n := 18) rfl (fun b7 => ?_)
    refine j_if_eq C dX3_mayTell_18 (tgt := 25) (n := 21) (by decide) rfl (fun q8 => ?_) (fun q8 => ?_)
    · refine j_iconst C dX3_mayTell_25 ic_0 (n := 26) rfl ?_
      exact j_retZP C (Or.inl rfl) dX3_mayTell_26
    · refine j_iconst C dX3_mayTell_21 ic_1 (n := 22) rfl ?_
      refine j_goto C dX3_mayTell_22 (n := 26) (by decide) ?_
      exact j_retZP C (Or.inr rfl) dX3_mayTell_26
-- X3_mayTell
set_option maxRecDepth 20000 in
theorem m_X3_mayTell_11_29 (l : Launch) (fu : Nat) (x3 : Int32) (x4 : Int32) (x5 : Int32) (h : Hp) {r : Int32 × Hp} (e : X3_mayTell fu 11 29 x3 x4 x5 h = some r) : CT l yX3_mayTell cX3_mayTell 6 (some .boolean) 5 cwX (fun g => [rf g 42, .ref (g.2.2.2.2.1 11), rf g 29, .int x3, .int x4, .int x5]) h (qZ cwX r.1 r.2) := by
  refine ct_of (QR := (fun r : Int32 × Hp => qZ cwX r.1 r.2)) (by decide +kernel) (fun g => ⟨rfl, Nat.le_of_ble_eq_true rfl⟩) e (fun x g hl C => ?_)
  unfold X3_mayTell
  refine j_aload_n C dX3_mayTell_0 rfl (n := 1) rfl ?_
  refine j_aload_n C dX3_mayTell_1 rfl (n := 2) rfl ?_
  refine j_bnd (fun r2 q1 => ?_)
  refine j_cz C (run_V C mi_X3_takes lm_X3_80 iv_X3_takes ⟨Nat.le_of_ble_eq_true rfl, Nat.le_of_ble_eq_true rfl⟩ (m_X3_takes_11 _ _ _ q1) (cX_42 g _) rfl rfl rfl rfl (Nat.le_of_ble_eq_true rfl) dX3_mayTell_2) (n := 5) rfl (fun b3 => ?_)
  refine j_if_eq C dX3_mayTell_5 (tgt := 21) (n := 8) (by decide) rfl (fun q4 => ?_) (fun q4 => ?_)
  · refine j_iconst C dX3_mayTell_21 ic_1 (n := 22) rfl ?_
    refine j_goto C dX3_mayTell_22 (n := 26) (by decide) ?_
    exact j_retZP C (Or.inr rfl) dX3_mayTell_26
  · refine j_aload_n C dX3_mayTell_8 rfl (n := 9) rfl ?_
    refine j_aload_n C dX3_mayTell_9 rfl (n := 10) rfl ?_
    refine j_iload_n C dX3_mayTell_10 rfl (n := 11) rfl ?_
    refine j_iload C dX3_mayTell_11 rfl (n := 13) rfl ?_
    refine j_iload C dX3_mayTell_13 rfl (n := 15) rfl ?_
    refine j_bnd (fun r6 q5 => ?_)
    refine j_cz C (run_V C mi_X3_tells lm_X3_147 iv_X3_tells ⟨Nat.le_of_ble_eq_true rfl, Nat.le_of_ble_eq_true rfl⟩ (m_X3_tells_29 _ _ _ _ _ q5) (cX_42 g _) rfl rfl rfl rfl (Nat.le_of_ble_eq_true rfl) dX3_mayTell_15) (n := 18) rfl (fun b7 => ?_)
    refine j_if_eq C dX3_mayTell_18 (tgt := 25) (n := 21) (by decide) rfl (fun q8 => ?_) (fun q8 => ?_)
    · refine j_iconst C dX3_mayTell_25 ic_0 (n := 26) rfl ?_
      exact j_retZP C (Or.inl rfl) dX3_mayTell_26
    · refine j_iconst C dX3_mayTell_21 ic_1 (n := 22) rfl ?_
      refine j_goto C dX3_mayTell_22 (n := 26) (by decide) ?_
      exact j_retZP C (Or.inr rfl) dX3_mayTell_26
-- X3_readPart
set_option maxRecDepth 20000 in
theorem m_X3_readPart (l : Launch) (fu : Nat) (x1 : Int32) (h : Hp) {r : Int32 × Hp} (e : X3_readPart fu x1 h = some r) : CT l yX3_readPart cX3_readPart 3 (some .boolean) 6 cwX (fun g => [rf g 42, .int x1]) h (qZ cwX r.1 r.2) := by
  refine ct_of (QR := (fun r : Int32 × Hp => qZ cwX r.1 r.2)) (by decide +kernel) (fun g => ⟨rfl, Nat.le_of_ble_eq_true rfl⟩) e (fun x g hl C => ?_)
  unfold X3_readPart
  refine j_aload_n C dX3_readPart_0 rfl (n := 1) rfl ?_
  refine gf_X3_25 C 42 (cX_42 g _) rfl dX3_readPart_1 (n := 4) rfl ?_
  refine j_iload_n C dX3_readPart_4 rfl (n := 5) rfl ?_
  refine j_iconst C dX3_readPart_5 ic_0 (n := 6) rfl ?_
  refine j_bipush C dX3_readPart_6 bp_10 (n := 8) rfl ?_
  refine j_iconst C dX3_readPart_8 ic_m1 (n := 9) rfl ?_
  refine j_bnd (fun r2 q1 => ?_)
  refine j_ci C (run_V C mi_X1_addPart lm_X3_117 iv_X1_addPart ⟨Nat.le_of_ble_eq_true rfl, Nat.le_of_ble_eq_true rfl⟩ (m_X1_addPart_23 _ _ _ _ _ _ q1) (cX_23 g _) rfl rfl rfl rfl (Nat.le_of_ble_eq_true rfl) dX3_readPart_9) (n := 12) rfl ?_
  refine j_istore_n C dX3_readPart_12 (Nat.le_of_ble_eq_true rfl) (n := 13) rfl ?_
  refine j_aload_n C dX3_readPart_13 rfl (n := 14) rfl ?_
  refine j_ldcS C (sx_X3_121) dX3_readPart_14 (n := 16) rfl ?_
  refine j_aload_n C dX3_readPart_16 rfl (n := 17) rfl ?_
  refine gf_X3_25 C 42 (cX_42 g _) rfl dX3_readPart_17 (n := 20) rfl ?_
  refine gf_X3_123 C 23 (cX_23 g _) rfl dX3_readPart_20 (n := 23) rfl ?_
  refine j_iload_n C dX3_readPart_23 rfl (n := 24) rfl ?_
  refine j_iconst C dX3_readPart_24 ic_0 (n := 25) rfl ?_
  refine j_sipush C dX3_readPart_25 sp_255 (n := 28) rfl ?_
  refine j_bnd (fun r5 q4 => ?_)
  refine j_cz C (run_V C mi_X3_mayTell lm_X3_125 iv_X3_mayTell ⟨Nat.le_of_ble_eq_true rfl, Nat.le_of_ble_eq_true rfl⟩ (m_X3_mayTell_7_25 _ _ _ _ _ _ q4) (cX_42 g _) rfl rfl rfl rfl (Nat.le_of_ble_eq_true rfl) dX3_readPart_28) (n := 31) rfl (fun b6 => ?_)
  refine j_if_eq C dX3_readPart_31 (tgt := 77) (n := 34) (by decide) rfl (fun q7 => ?_) (fun q7 => ?_)
  · refine j_iconst C dX3_readPart_77 ic_0 (n := 78) rfl ?_
    exact j_retZP C (Or.inl rfl) dX3_readPart_78
  · refine j_aload_n C dX3_readPart_34 rfl (n := 35) rfl ?_
    refine j_ldcS C (sx_X3_129) dX3_readPart_35 (n := 37) rfl ?_
    refine j_aload_n C dX3_readPart_37 rfl (n := 38) rfl ?_
    refine gf_X3_25 C 42 (cX_42 g _) rfl dX3_readPart_38 (n := 41) rfl ?_
    refine gf_X3_131 C 23 (cX_23 g _) rfl dX3_readPart_41 (n := 44) rfl ?_
    refine j_iload_n C dX3_readPart_44 rfl (n := 45) rfl ?_
    refine j_iconst C dX3_readPart_45 ic_1 (n := 46) rfl ?_
    refine j_bipush C dX3_readPart_46 bp_60 (n := 48) rfl ?_
    refine j_bnd (fun r9 q8 => ?_)
    refine j_cz C (run_V C mi_X3_mayTell lm_X3_125 iv_X3_mayTell ⟨Nat.le_of_ble_eq_true rfl, Nat.le_of_ble_eq_true rfl⟩ (m_X3_mayTell_8_26 _ _ _ _ _ _ q8) (cX_42 g _) rfl rfl rfl rfl (Nat.le_of_ble_eq_true rfl) dX3_readPart_48) (n := 51) rfl (fun b10 => ?_)
    refine j_if_eq C dX3_readPart_51 (tgt := 77) (n := 54) (by decide) rfl (fun q11 => ?_) (fun q11 => ?_)
    · refine j_iconst C dX3_readPart_77 ic_0 (n := 78) rfl ?_
      exact j_retZP C (Or.inl rfl) dX3_readPart_78
    · refine j_aload_n C dX3_readPart_54 rfl (n := 55) rfl ?_
      refine j_ldcS C (sx_X3_133) dX3_readPart_55 (n := 57) rfl ?_
      refine j_aload_n C dX3_readPart_57 rfl (n := 58) rfl ?_
      refine gf_X3_25 C 42 (cX_42 g _) rfl dX3_readPart_58 (n := 61) rfl ?_
      refine gf_X3_135 C 23 (cX_23 g _) rfl dX3_readPart_61 (n := 64) rfl ?_
      refine j_iload_n C dX3_readPart_64 rfl (n := 65) rfl ?_
      refine j_iconst C dX3_readPart_65 ic_0 (n := 66) rfl ?_
      refine j_iconst C dX3_readPart_66 ic_5 (n := 67) rfl ?_
      refine j_bnd (fun r13 q12 => ?_)
      refine j_cz C (run_V C mi_X3_mayTell lm_X3_125 iv_X3_mayTell ⟨Nat.le_of_ble_eq_true rfl, Nat.le_of_ble_eq_true rfl⟩ (m_X3_mayTell_9_27 _ _ _ _ _ _ q12) (cX_42 g _) rfl rfl rfl rfl (Nat.le_of_ble_eq_true rfl) dX3_readPart_67) (n := 70) rfl (fun b14 => ?_)
      refine j_if_eq C dX3_readPart_70 (tgt := 77) (n := 73) (by decide) rfl (fun q15 => ?_) (fun q15 => ?_)
      · refine j_iconst C dX3_readPart_77 ic_0 (n := 78) rfl ?_
        exact j_retZP C (Or.inl rfl) dX3_readPart_78
      · refine j_iconst C dX3_readPart_73 ic_1 (n := 74) rfl ?_
        refine j_goto C dX3_readPart_74 (n := 78) (by decide) ?_
        exact j_retZP C (Or.inr rfl) dX3_readPart_78
-- X3_readFace
set_option maxRecDepth 20000 in
theorem m_X3_readFace (l : Launch) (fu : Nat) (h : Hp) {r : Int32 × Hp} (e : X3_readFace fu h = some r) : CT l yX3_readFace cX3_readFace 2 (some .boolean) 6 cwX (fun g => [rf g 42]) h (qZ cwX r.1 r.2) := by
  refine ct_of (QR := (fun r : Int32 × Hp => qZ cwX r.1 r.2)) (by decide +kernel) (fun g => ⟨rfl, Nat.le_of_ble_eq_true rfl⟩) e (fun x g hl C => ?_)
  unfold X3_readFace
  refine j_aload_n C dX3_readFace_0 rfl (n := 1) rfl ?_
  refine j_iconst C dX3_readFace_1 ic_0 (n := 2) rfl ?_
  refine j_iconst C dX3_readFace_2 ic_5 (n := 3) rfl ?_
  refine j_bnd (fun r2 q1 => ?_)
  refine j_ci C (run_V C mi_X3_takeNumber lm_X3_138 iv_X3_takeNumber ⟨Nat.le_of_ble_eq_true rfl, Nat.le_of_ble_eq_true rfl⟩ (m_X3_takeNumber _ _ _ _ q1) (cX_42 g _) rfl rfl rfl rfl (Nat.le_of_ble_eq_true rfl) dX3_readFace_3) (n := 6) rfl ?_
  refine j_istore_n C dX3_readFace_6 (Nat.le_of_ble_eq_true rfl) (n := 7) rfl ?_
  refine j_iload_n C dX3_readFace_7 rfl (n := 8) rfl ?_
  refine j_cz C (run_SN C mi_X7_isFace ns_X3_141 st_X7_isFace ⟨Nat.le_of_ble_eq_true rfl, Nat.le_of_ble_eq_true rfl⟩ (m_X7_isFace _ _ _) rfl rfl rfl (Nat.le_of_ble_eq_true rfl) dX3_readFace_8) (n := 11) rfl (fun b4 => ?_)
  refine j_if_eq C dX3_readFace_11 (tgt := 66) (n := 14) (by decide) rfl (fun q5 => ?_) (fun q5 => ?_)
  · refine j_iconst C dX3_readFace_66 ic_0 (n := 67) rfl ?_
    exact j_retZP C (Or.inl rfl) dX3_readFace_67
  · refine j_aload_n C dX3_readFace_14 rfl (n := 15) rfl ?_
    refine j_ldcS C (sx_X3_121) dX3_readFace_15 (n := 17) rfl ?_
    refine j_bnd (fun r7 q6 => ?_)
    refine j_cz C (run_V C mi_X3_takes lm_X3_80 iv_X3_takes ⟨Nat.le_of_ble_eq_true rfl, Nat.le_of_ble_eq_true rfl⟩ (m_X3_takes_7 _ _ _ q6) (cX_42 g _) rfl rfl rfl rfl (Nat.le_of_ble_eq_true rfl) dX3_readFace_17) (n := 20) rfl (fun b8 => ?_)
    refine j_if_eq C dX3_readFace_20 (tgt := 66) (n := 23) (by decide) rfl (fun q9 => ?_) (fun q9 => ?_)
    · refine j_iconst C dX3_readFace_66 ic_0 (n := 67) rfl ?_
      exact j_retZP C (Or.inl rfl) dX3_readFace_67
    · refine j_aload_n C dX3_readFace_23 rfl (n := 24) rfl ?_
      refine j_aload_n C dX3_readFace_24 rfl (n := 25) rfl ?_
      refine gf_X3_25 C 42 (cX_42 g _) rfl dX3_readFace_25 (n := 28) rfl ?_
      refine gf_X3_144 C 23 (cX_23 g _) rfl dX3_readFace_28 (n := 31) rfl ?_
      refine j_iload_n C dX3_readFace_31 rfl (n := 32) rfl ?_
      refine j_iconst C dX3_readFace_32 ic_0 (n := 33) rfl ?_
      refine j_sipush C dX3_readFace_33 sp_255 (n := 36) rfl ?_
      refine j_bnd (fun r11 q10 => ?_)
      refine j_cz C (run_V C mi_X3_tells lm_X3_147 iv_X3_tells ⟨Nat.le_of_ble_eq_true rfl, Nat.le_of_ble_eq_true rfl⟩ (m_X3_tells_28 _ _ _ _ _ q10) (cX_42 g _) rfl rfl rfl rfl (Nat.le_of_ble_eq_true rfl) dX3_readFace_36) (n := 39) rfl (fun b12 => ?_)
      refine j_if_eq C dX3_readFace_39 (tgt := 66) (n := 42) (by decide) rfl (fun q13 => ?_) (fun q13 => ?_)
      · refine j_iconst C dX3_readFace_66 ic_0 (n := 67) rfl ?_
        exact j_retZP C (Or.inl rfl) dX3_readFace_67
      · refine j_aload_n C dX3_readFace_42 rfl (n := 43) rfl ?_
        refine j_ldcS C (sx_X3_151) dX3_readFace_43 (n := 45) rfl ?_
        refine j_aload_n C dX3_readFace_45 rfl (n := 46) rfl ?_
        refine gf_X3_25 C 42 (cX_42 g _) rfl dX3_readFace_46 (n := 49) rfl ?_
        refine gf_X3_153 C 23 (cX_23 g _) rfl dX3_readFace_49 (n := 52) rfl ?_
        refine j_iload_n C dX3_readFace_52 rfl (n := 53) rfl ?_
        refine j_iconst C dX3_readFace_53 ic_0 (n := 54) rfl ?_
        refine j_bipush C dX3_readFace_54 bp_99 (n := 56) rfl ?_
        refine j_bnd (fun r15 q14 => ?_)
        refine j_cz C (run_V C mi_X3_mayTell lm_X3_125 iv_X3_mayTell ⟨Nat.le_of_ble_eq_true rfl, Nat.le_of_ble_eq_true rfl⟩ (m_X3_mayTell_11_29 _ _ _ _ _ _ q14) (cX_42 g _) rfl rfl rfl rfl (Nat.le_of_ble_eq_true rfl) dX3_readFace_56) (n := 59) rfl (fun b16 => ?_)
        refine j_if_eq C dX3_readFace_59 (tgt := 66) (n := 62) (by decide) rfl (fun q17 => ?_) (fun q17 => ?_)
        · refine j_iconst C dX3_readFace_66 ic_0 (n := 67) rfl ?_
          exact j_retZP C (Or.inl rfl) dX3_readFace_67
        · refine j_iconst C dX3_readFace_62 ic_1 (n := 63) rfl ?_
          refine j_goto C dX3_readFace_63 (n := 67) (by decide) ?_
          exact j_retZP C (Or.inr rfl) dX3_readFace_67
-- X3_readShow
set_option maxRecDepth 20000 in
theorem m_X3_readShow (l : Launch) (h : Hp) {r : Int32 × Hp} (e : X3_readShow h = some r) : CT l yX3_readShow cX3_readShow 2 (some .boolean) 2 cwX (fun g => [rf g 42]) h (qZ cwX r.1 r.2) := by
  refine ct_of (QR := (fun r : Int32 × Hp => qZ cwX r.1 r.2)) (by decide +kernel) (fun g => ⟨rfl, Nat.le_of_ble_eq_true rfl⟩) e (fun x g hl C => ?_)
  unfold X3_readShow
  refine j_aload_n C dX3_readShow_0 rfl (n := 1) rfl ?_
  refine j_iconst C dX3_readShow_1 ic_0 (n := 2) rfl ?_
  refine j_iconst C dX3_readShow_2 ic_5 (n := 3) rfl ?_
  refine j_bnd (fun r2 q1 => ?_)
  refine j_ci C (run_V C mi_X3_takeNumber lm_X3_138 iv_X3_takeNumber ⟨Nat.le_of_ble_eq_true rfl, Nat.le_of_ble_eq_true rfl⟩ (m_X3_takeNumber _ _ _ _ q1) (cX_42 g _) rfl rfl rfl rfl (Nat.le_of_ble_eq_true rfl) dX3_readShow_3) (n := 6) rfl ?_
  refine j_istore_n C dX3_readShow_6 (Nat.le_of_ble_eq_true rfl) (n := 7) rfl ?_
  refine j_iload_n C dX3_readShow_7 rfl (n := 8) rfl ?_
  refine j_cz C (run_SN C mi_X7_isRoom ns_X3_155 st_X7_isRoom ⟨Nat.le_of_ble_eq_true rfl, Nat.le_of_ble_eq_true rfl⟩ (m_X7_isRoom _ _ _) rfl rfl rfl (Nat.le_of_ble_eq_true rfl) dX3_readShow_8) (n := 11) rfl (fun b4 => ?_)
  refine j_if_eq C dX3_readShow_11 (tgt := 35) (n := 14) (by decide) rfl (fun q5 => ?_) (fun q5 => ?_)
  · refine j_iconst C dX3_readShow_35 ic_0 (n := 36) rfl ?_
    exact j_retZP C (Or.inl rfl) dX3_readShow_36
  · refine j_aload_n C dX3_readShow_14 rfl (n := 15) rfl ?_
    refine j_aload_n C dX3_readShow_15 rfl (n := 16) rfl ?_
    refine gf_X3_25 C 42 (cX_42 g _) rfl dX3_readShow_16 (n := 19) rfl ?_
    refine gf_X3_158 C 23 (cX_23 g _) rfl dX3_readShow_19 (n := 22) rfl ?_
    refine j_iload_n C dX3_readShow_22 rfl (n := 23) rfl ?_
    refine j_iconst C dX3_readShow_23 ic_0 (n := 24) rfl ?_
    refine j_iconst C dX3_readShow_24 ic_5 (n := 25) rfl ?_
    refine j_bnd (fun r7 q6 => ?_)
    refine j_cz C (run_V C mi_X3_tells lm_X3_147 iv_X3_tells ⟨Nat.le_of_ble_eq_true rfl, Nat.le_of_ble_eq_true rfl⟩ (m_X3_tells_30 _ _ _ _ _ q6) (cX_42 g _) rfl rfl rfl rfl (Nat.le_of_ble_eq_true rfl) dX3_readShow_25) (n := 28) rfl (fun b8 => ?_)
    refine j_if_eq C dX3_readShow_28 (tgt := 35) (n := 31) (by decide) rfl (fun q9 => ?_) (fun q9 => ?_)
    · refine j_iconst C dX3_readShow_35 ic_0 (n := 36) rfl ?_
      exact j_retZP C (Or.inl rfl) dX3_readShow_36
    · refine j_iconst C dX3_readShow_31 ic_1 (n := 32) rfl ?_
      refine j_goto C dX3_readShow_32 (n := 36) (by decide) ?_
      exact j_retZP C (Or.inr rfl) dX3_readShow_36
-- X3_readPace
set_option maxRecDepth 20000 in
theorem m_X3_readPace (l : Launch) (h : Hp) {r : Int32 × Hp} (e : X3_readPace h = some r) : CT l yX3_readPace cX3_readPace 2 (some .boolean) 1 cwX (fun g => [rf g 42]) h (qZ cwX r.1 r.2) := by
  refine ct_of (QR := (fun r : Int32 × Hp => qZ cwX r.1 r.2)) (by decide +kernel) (fun g => ⟨rfl, Nat.le_of_ble_eq_true rfl⟩) e (fun x g hl C => ?_)
  unfold X3_readPace
  refine j_aload_n C dX3_readPace_0 rfl (n := 1) rfl ?_
  refine j_iconst C dX3_readPace_1 ic_1 (n := 2) rfl ?_
  refine j_bipush C dX3_readPace_2 bp_20 (n := 4) rfl ?_
  refine j_bnd (fun r2 q1 => ?_)
  refine j_ci C (run_V C mi_X3_takeNumber lm_X3_138 iv_X3_takeNumber ⟨Nat.le_of_ble_eq_true rfl, Nat.le_of_ble_eq_true rfl⟩ (m_X3_takeNumber _ _ _ _ q1) (cX_42 g _) rfl rfl rfl rfl (Nat.le_of_ble_eq_true rfl) dX3_readPace_4) (n := 7) rfl ?_
  refine j_istore_n C dX3_readPace_7 (Nat.le_of_ble_eq_true rfl) (n := 8) rfl ?_
  refine j_iload_n C dX3_readPace_8 rfl (n := 9) rfl ?_
  refine j_if_ge C dX3_readPace_9 (tgt := 14) (n := 12) (by decide) rfl (fun q4 => ?_) (fun q4 => ?_)
  · refine j_aload_n C dX3_readPace_14 rfl (n := 15) rfl ?_
    refine gf_X3_25 C 42 (cX_42 g _) rfl dX3_readPace_15 (n := 18) rfl ?_
    refine j_iload_n C dX3_readPace_18 rfl (n := 19) rfl ?_
    refine pf_X3_161 C 23 (cX_23 g _) (sX_23_13 g _ _) rfl dX3_readPace_19 (n := 22) rfl ?_
    refine j_iconst C dX3_readPace_22 ic_1 (n := 23) rfl ?_
    exact j_retZP C (Or.inr rfl) dX3_readPace_23
  · refine j_iconst C dX3_readPace_12 ic_0 (n := 13) rfl ?_
    exact j_retZP C (Or.inl rfl) dX3_readPace_13
-- X3_readItem
set_option maxRecDepth 20000 in
theorem j_X3_readItem_43 {x : Fx} {g : Gl} (C : Ok x g RX3 cX3_readItem 2 (some .boolean)) (fu : Nat) (h : Hp) : J x g cwX 2 7 (fun r : Int32 × Hp => qZ cwX r.1 r.2) 43 [some (rf g 42)] [] h (X3_readItem_43 fu h) := by
  unfold X3_readItem_43
  refine j_aload_n C dX3_readItem_43 rfl (n := 44) rfl ?_
  refine j_ldcS C (sx_X3_88) dX3_readItem_44 (n := 46) rfl ?_
  refine j_bnd (fun r2 q1 => ?_)
  refine j_cz C (run_V C mi_X3_takes lm_X3_80 iv_X3_takes ⟨Nat.le_of_ble_eq_true rfl, Nat.le_of_ble_eq_true rfl⟩ (m_X3_takes_10 _ _ _ q1) (cX_42 g _) rfl rfl rfl rfl (Nat.le_of_ble_eq_true rfl) dX3_readItem_46) (n := 49) rfl (fun b3 => ?_)
  refine j_if_eq C dX3_readItem_49 (tgt := 57) (n := 52) (by decide) rfl (fun q4 => ?_) (fun q4 => ?_)
  · refine j_aload_n C dX3_readItem_57 rfl (n := 58) rfl ?_
    refine j_ldcS C (sx_X3_93) dX3_readItem_58 (n := 60) rfl ?_
    refine j_bnd (fun r6 q5 => ?_)
    refine j_cz C (run_V C mi_X3_takes lm_X3_80 iv_X3_takes ⟨Nat.le_of_ble_eq_true rfl, Nat.le_of_ble_eq_true rfl⟩ (m_X3_takes_12 _ _ _ q5) (cX_42 g _) rfl rfl rfl rfl (Nat.le_of_ble_eq_true rfl) dX3_readItem_60) (n := 63) rfl (fun b7 => ?_)
    refine j_if_eq C dX3_readItem_63 (tgt := 71) (n := 66) (by decide) rfl (fun q8 => ?_) (fun q8 => ?_)
    · refine j_aload_n C dX3_readItem_71 rfl (n := 72) rfl ?_
      refine j_ldcS C (sx_X3_98) dX3_readItem_72 (n := 74) rfl ?_
      refine j_bnd (fun r10 q9 => ?_)
      refine j_cz C (run_V C mi_X3_takes lm_X3_80 iv_X3_takes ⟨Nat.le_of_ble_eq_true rfl, Nat.le_of_ble_eq_true rfl⟩ (m_X3_takes_13 _ _ _ q9) (cX_42 g _) rfl rfl rfl rfl (Nat.le_of_ble_eq_true rfl) dX3_readItem_74) (n := 77) rfl (fun b11 => ?_)
      refine j_if_eq C dX3_readItem_77 (tgt := 91) (n := 80) (by decide) rfl (fun q12 => ?_) (fun q12 => ?_)
      · refine j_iconst C dX3_readItem_91 ic_0 (n := 92) rfl ?_
        exact j_retZP C (Or.inl rfl) dX3_readItem_92
      · refine j_aload_n C dX3_readItem_80 rfl (n := 81) rfl ?_
        refine j_bnd (fun r14 q13 => ?_)
        refine j_cz C (run_V C mi_X3_readPace lm_X3_100 iv_X3_readPace ⟨Nat.le_of_ble_eq_true rfl, Nat.le_of_ble_eq_true rfl⟩ (m_X3_readPace _ _ q13) (cX_42 g _) rfl rfl rfl rfl (Nat.le_of_ble_eq_true rfl) dX3_readItem_81) (n := 84) rfl (fun b15 => ?_)
        refine j_if_eq C dX3_readItem_84 (tgt := 91) (n := 87) (by decide) rfl (fun q16 => ?_) (fun q16 => ?_)
        · refine j_iconst C dX3_readItem_91 ic_0 (n := 92) rfl ?_
          exact j_retZP C (Or.inl rfl) dX3_readItem_92
        · refine j_iconst C dX3_readItem_87 ic_1 (n := 88) rfl ?_
          refine j_goto C dX3_readItem_88 (n := 92) (by decide) ?_
          exact j_retZP C (Or.inr rfl) dX3_readItem_92
    · refine j_aload_n C dX3_readItem_66 rfl (n := 67) rfl ?_
      refine j_bnd (fun r18 q17 => ?_)
      refine j_cz C (run_V C mi_X3_readShow lm_X3_95 iv_X3_readShow ⟨Nat.le_of_ble_eq_true rfl, Nat.le_of_ble_eq_true rfl⟩ (m_X3_readShow _ _ q17) (cX_42 g _) rfl rfl rfl rfl (Nat.le_of_ble_eq_true rfl) dX3_readItem_67) (n := 70) rfl (fun b19 => ?_)
      exact j_retZP C b19 dX3_readItem_70
  · refine j_aload_n C dX3_readItem_52 rfl (n := 53) rfl ?_
    refine j_bnd (fun r21 q20 => ?_)
    refine j_cz C (run_V C mi_X3_readFace lm_X3_90 iv_X3_readFace ⟨Nat.le_of_ble_eq_true rfl, Nat.le_of_ble_eq_true rfl⟩ (m_X3_readFace _ _ _ q20) (cX_42 g _) rfl rfl rfl rfl (Nat.le_of_ble_eq_true rfl) dX3_readItem_53) (n := 56) rfl (fun b22 => ?_)
    exact j_retZP C b22 dX3_readItem_56
set_option maxRecDepth 20000 in
theorem j_X3_readItem_2 {x : Fx} {g : Gl} (C : Ok x g RX3 cX3_readItem 2 (some .boolean)) (fu : Nat) : ∀ (n : Nat) (x1 : Int32) (h : Hp), J x g cwX 2 7 (fun r : Int32 × Hp => qZ cwX r.1 r.2) 2 [some (rf g 42), some (.int x1)] [] h (X3_readItem_2 fu n x1 h) := by
  intro n
  induction n with
  | zero =>
    intro x1 h
    rw [X3_readItem_2]
    exact j_none
  | succ n ih =>
    intro x1 h
    rw [X3_readItem_2]
    refine j_iload_n C dX3_readItem_2 rfl (n := 3) rfl ?_
    refine j_bipush C dX3_readItem_3 bp_6 (n := 5) rfl ?_
    refine j_icmp_gt C dX3_readItem_5 (tgt := 43) (n := 8) (by decide) rfl (fun q1 => ?_) (fun q1 => ?_)
    · exact j_to (j_X3_readItem_43 C _ _) ⟨rfl, trivial⟩
    · refine j_aload_n C dX3_readItem_8 rfl (n := 9) rfl ?_
      refine gf_X3_25 C 42 (cX_42 g _) rfl dX3_readItem_9 (n := 12) rfl ?_
      refine gf_X3_71 C 23 (cX_23 g _) rfl dX3_readItem_12 (n := 15) rfl ?_
      refine j_bipush C dX3_readItem_15 bp_10 (n := 17) rfl ?_
      refine j_icmp_ge C dX3_readItem_17 (tgt := 43) (n := 20) (by decide) rfl (fun q2 => ?_) (fun q2 => ?_)
      · exact j_to (j_X3_readItem_43 C _ _) ⟨rfl, trivial⟩
      · refine j_aload_n C dX3_readItem_20 rfl (n := 21) rfl ?_
        refine j_iload_n C dX3_readItem_21 rfl (n := 22) rfl ?_
        refine j_split (fun q3 => ?_) (fun q3 => ?_)
        · refine j_cS C (run_S C mi_X3_wordOf lm_X3_76 st_X3_wordOf ⟨Nat.le_of_ble_eq_true rfl, Nat.le_of_ble_eq_true rfl⟩ (m_X3_wordOf_1 _ _ q3 _) rfl rfl rfl (Nat.le_of_ble_eq_true rfl) dX3_readItem_22) rfl ?_
          refine j_bnd (fun r5 q4 => ?_)
          refine j_cz C (run_V C mi_X3_takes lm_X3_80 iv_X3_takes ⟨Nat.le_of_ble_eq_true rfl, Nat.le_of_ble_eq_true rfl⟩ (m_X3_takes_1 _ _ _ q4) (cX_42 g _) rfl rfl rfl rfl (Nat.le_of_ble_eq_true rfl) dX3_readItem_25) (n := 28) rfl (fun b6 => ?_)
          refine j_if_eq C dX3_readItem_28 (tgt := 37) (n := 31) (by decide) rfl (fun q7 => ?_) (fun q7 => ?_)
          · refine j_iinc C dX3_readItem_37 rfl ic_1 (Nat.le_of_ble_eq_true rfl) (n := 40) rfl ?_
            refine j_goto C dX3_readItem_40 (n := 2) (by decide) ?_
            exact j_to (ih _ _) ⟨rfl, ⟨rfl, trivial⟩⟩
          · refine j_aload_n C dX3_readItem_31 rfl (n := 32) rfl ?_
            refine j_iload_n C dX3_readItem_32 rfl (n := 33) rfl ?_
            refine j_bnd (fun r9 q8 => ?_)
            refine j_cz C (run_V C mi_X3_readPart lm_X3_84 iv_X3_readPart ⟨Nat.le_of_ble_eq_true rfl, Nat.le_of_ble_eq_true rfl⟩ (m_X3_readPart _ _ _ _ q8) (cX_42 g _) rfl rfl rfl rfl (Nat.le_of_ble_eq_true rfl) dX3_readItem_33) (n := 36) rfl (fun b10 => ?_)
            exact j_retZP C b10 dX3_readItem_36
        · refine j_split (fun q11 => ?_) (fun q11 => ?_)
          · refine j_cS C (run_S C mi_X3_wordOf lm_X3_76 st_X3_wordOf ⟨Nat.le_of_ble_eq_true rfl, Nat.le_of_ble_eq_true rfl⟩ (m_X3_wordOf_2 _ _ q11 _) rfl rfl rfl (Nat.le_of_ble_eq_true rfl) dX3_readItem_22) rfl ?_
            refine j_bnd (fun r13 q12 => ?_)
            refine j_cz C (run_V C mi_X3_takes lm_X3_80 iv_X3_takes ⟨Nat.le_of_ble_eq_true rfl, Nat.le_of_ble_eq_true rfl⟩ (m_X3_takes_2 _ _ _ q12) (cX_42 g _) rfl rfl rfl rfl (Nat.le_of_ble_eq_true rfl) dX3_readItem_25) (n := 28) rfl (fun b14 => ?_)
            refine j_if_eq C dX3_readItem_28 (tgt := 37) (n := 31) (by decide) rfl (fun q15 => ?_) (fun q15 => ?_)
            · refine j_iinc C dX3_readItem_37 rfl ic_1 (Nat.le_of_ble_eq_true rfl) (n := 40) rfl ?_
              refine j_goto C dX3_readItem_40 (n := 2) (by decide) ?_
              exact j_to (ih _ _) ⟨rfl, ⟨rfl, trivial⟩⟩
            · refine j_aload_n C dX3_readItem_31 rfl (n := 32) rfl ?_
              refine j_iload_n C dX3_readItem_32 rfl (n := 33) rfl ?_
              refine j_bnd (fun r17 q16 => ?_)
              refine j_cz C (run_V C mi_X3_readPart lm_X3_84 iv_X3_readPart ⟨Nat.le_of_ble_eq_true rfl, Nat.le_of_ble_eq_true rfl⟩ (m_X3_readPart _ _ _ _ q16) (cX_42 g _) rfl rfl rfl rfl (Nat.le_of_ble_eq_true rfl) dX3_readItem_33) (n := 36) rfl (fun b18 => ?_)
              exact j_retZP C b18 dX3_readItem_36
          · refine j_split (fun q19 => ?_) (fun q19 => ?_)
            · refine j_cS C (run_S C mi_X3_wordOf lm_X3_76 st_X3_wordOf ⟨Nat.le_of_ble_eq_true rfl, Nat.le_of_ble_eq_true rfl⟩ (m_X3_wordOf_3 _ _ q19 _) rfl rfl rfl (Nat.le_of_ble_eq_true rfl) dX3_readItem_22) rfl ?_
              refine j_bnd (fun r21 q20 => ?_)
              refine j_cz C (run_V C mi_X3_takes lm_X3_80 iv_X3_takes ⟨Nat.le_of_ble_eq_true rfl, Nat.le_of_ble_eq_true rfl⟩ (m_X3_takes_3 _ _ _ q20) (cX_42 g _) rfl rfl rfl rfl (Nat.le_of_ble_eq_true rfl) dX3_readItem_25) (n := 28) rfl (fun b22 => ?_)
              refine j_if_eq C dX3_readItem_28 (tgt := 37) (n := 31) (by decide) rfl (fun q23 => ?_) (fun q23 => ?_)
              · refine j_iinc C dX3_readItem_37 rfl ic_1 (Nat.le_of_ble_eq_true rfl) (n := 40) rfl ?_
                refine j_goto C dX3_readItem_40 (n := 2) (by decide) ?_
                exact j_to (ih _ _) ⟨rfl, ⟨rfl, trivial⟩⟩
              · refine j_aload_n C dX3_readItem_31 rfl (n := 32) rfl ?_
                refine j_iload_n C dX3_readItem_32 rfl (n := 33) rfl ?_
                refine j_bnd (fun r25 q24 => ?_)
                refine j_cz C (run_V C mi_X3_readPart lm_X3_84 iv_X3_readPart ⟨Nat.le_of_ble_eq_true rfl, Nat.le_of_ble_eq_true rfl⟩ (m_X3_readPart _ _ _ _ q24) (cX_42 g _) rfl rfl rfl rfl (Nat.le_of_ble_eq_true rfl) dX3_readItem_33) (n := 36) rfl (fun b26 => ?_)
                exact j_retZP C b26 dX3_readItem_36
            · refine j_split (fun q27 => ?_) (fun q27 => ?_)
              · refine j_cS C (run_S C mi_X3_wordOf lm_X3_76 st_X3_wordOf ⟨Nat.le_of_ble_eq_true rfl, Nat.le_of_ble_eq_true rfl⟩ (m_X3_wordOf_4 _ _ q27 _) rfl rfl rfl (Nat.le_of_ble_eq_true rfl) dX3_readItem_22) rfl ?_
                refine j_bnd (fun r29 q28 => ?_)
                refine j_cz C (run_V C mi_X3_takes lm_X3_80 iv_X3_takes ⟨Nat.le_of_ble_eq_true rfl, Nat.le_of_ble_eq_true rfl⟩ (m_X3_takes_4 _ _ _ q28) (cX_42 g _) rfl rfl rfl rfl (Nat.le_of_ble_eq_true rfl) dX3_readItem_25) (n := 28) rfl (fun b30 => ?_)
                refine j_if_eq C dX3_readItem_28 (tgt := 37) (n := 31) (by decide) rfl (fun q31 => ?_) (fun q31 => ?_)
                · refine j_iinc C dX3_readItem_37 rfl ic_1 (Nat.le_of_ble_eq_true rfl) (n := 40) rfl ?_
                  refine j_goto C dX3_readItem_40 (n := 2) (by decide) ?_
                  exact j_to (ih _ _) ⟨rfl, ⟨rfl, trivial⟩⟩
                · refine j_aload_n C dX3_readItem_31 rfl (n := 32) rfl ?_
                  refine j_iload_n C dX3_readItem_32 rfl (n := 33) rfl ?_
                  refine j_bnd (fun r33 q32 => ?_)
                  refine j_cz C (run_V C mi_X3_readPart lm_X3_84 iv_X3_readPart ⟨Nat.le_of_ble_eq_true rfl, Nat.le_of_ble_eq_true rfl⟩ (m_X3_readPart _ _ _ _ q32) (cX_42 g _) rfl rfl rfl rfl (Nat.le_of_ble_eq_true rfl) dX3_readItem_33) (n := 36) rfl (fun b34 => ?_)
                  exact j_retZP C b34 dX3_readItem_36
              · refine j_split (fun q35 => ?_) (fun q35 => ?_)
                · refine j_cS C (run_S C mi_X3_wordOf lm_X3_76 st_X3_wordOf ⟨Nat.le_of_ble_eq_true rfl, Nat.le_of_ble_eq_true rfl⟩ (m_X3_wordOf_5 _ _ q35 _) rfl rfl rfl (Nat.le_of_ble_eq_true rfl) dX3_readItem_22) rfl ?_
                  refine j_bnd (fun r37 q36 => ?_)
                  refine j_cz C (run_V C mi_X3_takes lm_X3_80 iv_X3_takes ⟨Nat.le_of_ble_eq_true rfl, Nat.le_of_ble_eq_true rfl⟩ (m_X3_takes_5 _ _ _ q36) (cX_42 g _) rfl rfl rfl rfl (Nat.le_of_ble_eq_true rfl) dX3_readItem_25) (n := 28) rfl (fun b38 => ?_)
                  refine j_if_eq C dX3_readItem_28 (tgt := 37) (n := 31) (by decide) rfl (fun q39 => ?_) (fun q39 => ?_)
                  · refine j_iinc C dX3_readItem_37 rfl ic_1 (Nat.le_of_ble_eq_true rfl) (n := 40) rfl ?_
                    refine j_goto C dX3_readItem_40 (n := 2) (by decide) ?_
                    exact j_to (ih _ _) ⟨rfl, ⟨rfl, trivial⟩⟩
                  · refine j_aload_n C dX3_readItem_31 rfl (n := 32) rfl ?_
                    refine j_iload_n C dX3_readItem_32 rfl (n := 33) rfl ?_
                    refine j_bnd (fun r41 q40 => ?_)
                    refine j_cz C (run_V C mi_X3_readPart lm_X3_84 iv_X3_readPart ⟨Nat.le_of_ble_eq_true rfl, Nat.le_of_ble_eq_true rfl⟩ (m_X3_readPart _ _ _ _ q40) (cX_42 g _) rfl rfl rfl rfl (Nat.le_of_ble_eq_true rfl) dX3_readItem_33) (n := 36) rfl (fun b42 => ?_)
                    exact j_retZP C b42 dX3_readItem_36
                · refine j_split (fun q43 => ?_) (fun q43 => ?_)
                  · refine j_cS C (run_S C mi_X3_wordOf lm_X3_76 st_X3_wordOf ⟨Nat.le_of_ble_eq_true rfl, Nat.le_of_ble_eq_true rfl⟩ (m_X3_wordOf_6 _ _ q43 _) rfl rfl rfl (Nat.le_of_ble_eq_true rfl) dX3_readItem_22) rfl ?_
                    refine j_bnd (fun r45 q44 => ?_)
                    refine j_cz C (run_V C mi_X3_takes lm_X3_80 iv_X3_takes ⟨Nat.le_of_ble_eq_true rfl, Nat.le_of_ble_eq_true rfl⟩ (m_X3_takes_6 _ _ _ q44) (cX_42 g _) rfl rfl rfl rfl (Nat.le_of_ble_eq_true rfl) dX3_readItem_25) (n := 28) rfl (fun b46 => ?_)
                    refine j_if_eq C dX3_readItem_28 (tgt := 37) (n := 31) (by decide) rfl (fun q47 => ?_) (fun q47 => ?_)
                    · refine j_iinc C dX3_readItem_37 rfl ic_1 (Nat.le_of_ble_eq_true rfl) (n := 40) rfl ?_
                      refine j_goto C dX3_readItem_40 (n := 2) (by decide) ?_
                      exact j_to (ih _ _) ⟨rfl, ⟨rfl, trivial⟩⟩
                    · refine j_aload_n C dX3_readItem_31 rfl (n := 32) rfl ?_
                      refine j_iload_n C dX3_readItem_32 rfl (n := 33) rfl ?_
                      refine j_bnd (fun r49 q48 => ?_)
                      refine j_cz C (run_V C mi_X3_readPart lm_X3_84 iv_X3_readPart ⟨Nat.le_of_ble_eq_true rfl, Nat.le_of_ble_eq_true rfl⟩ (m_X3_readPart _ _ _ _ q48) (cX_42 g _) rfl rfl rfl rfl (Nat.le_of_ble_eq_true rfl) dX3_readItem_33) (n := 36) rfl (fun b50 => ?_)
                      exact j_retZP C b50 dX3_readItem_36
                  · refine j_cS C (run_S C mi_X3_wordOf lm_X3_76 st_X3_wordOf ⟨Nat.le_of_ble_eq_true rfl, Nat.le_of_ble_eq_true rfl⟩ (m_X3_wordOf_d _ _ q3 q11 q19 q27 q35 q43 _) rfl rfl rfl (Nat.le_of_ble_eq_true rfl) dX3_readItem_22) rfl ?_
                    refine j_bnd (fun r52 q51 => ?_)
                    refine j_cz C (run_V C mi_X3_takes lm_X3_80 iv_X3_takes ⟨Nat.le_of_ble_eq_true rfl, Nat.le_of_ble_eq_true rfl⟩ (m_X3_takes_0 _ _ _ q51) (cX_42 g _) rfl rfl rfl rfl (Nat.le_of_ble_eq_true rfl) dX3_readItem_25) (n := 28) rfl (fun b53 => ?_)
                    refine j_if_eq C dX3_readItem_28 (tgt := 37) (n := 31) (by decide) rfl (fun q54 => ?_) (fun q54 => ?_)
                    · refine j_iinc C dX3_readItem_37 rfl ic_1 (Nat.le_of_ble_eq_true rfl) (n := 40) rfl ?_
                      refine j_goto C dX3_readItem_40 (n := 2) (by decide) ?_
                      exact j_to (ih _ _) ⟨rfl, ⟨rfl, trivial⟩⟩
                    · refine j_aload_n C dX3_readItem_31 rfl (n := 32) rfl ?_
                      refine j_iload_n C dX3_readItem_32 rfl (n := 33) rfl ?_
                      refine j_bnd (fun r56 q55 => ?_)
                      refine j_cz C (run_V C mi_X3_readPart lm_X3_84 iv_X3_readPart ⟨Nat.le_of_ble_eq_true rfl, Nat.le_of_ble_eq_true rfl⟩ (m_X3_readPart _ _ _ _ q55) (cX_42 g _) rfl rfl rfl rfl (Nat.le_of_ble_eq_true rfl) dX3_readItem_33) (n := 36) rfl (fun b57 => ?_)
                      exact j_retZP C b57 dX3_readItem_36
set_option maxRecDepth 20000 in
theorem m_X3_readItem (l : Launch) (fu : Nat) (h : Hp) {r : Int32 × Hp} (e : X3_readItem fu h = some r) : CT l yX3_readItem cX3_readItem 2 (some .boolean) 7 cwX (fun g => [rf g 42]) h (qZ cwX r.1 r.2) := by
  refine ct_of (QR := (fun r : Int32 × Hp => qZ cwX r.1 r.2)) (by decide +kernel) (fun g => ⟨rfl, Nat.le_of_ble_eq_true rfl⟩) e (fun x g hl C => ?_)
  unfold X3_readItem
  refine j_iconst C dX3_readItem_0 ic_0 (n := 1) rfl ?_
  refine j_istore_n C dX3_readItem_1 (Nat.le_of_ble_eq_true rfl) (n := 2) rfl ?_
  exact j_to (j_X3_readItem_2 C _ _ _ _) ⟨rfl, ⟨rfl, trivial⟩⟩
-- X3_read
set_option maxRecDepth 20000 in
theorem j_X3_read_11 {x : Fx} {g : Gl} (C : Ok x g RX3 cX3_read 2 (some .int)) (fu : Nat) : ∀ (n : Nat) (x1 : Int32) (h : Hp), J x g cwX 2 8 (fun r : Int32 × Hp => qI cwX r.1 r.2) 11 [some (rf g 42), some (.int x1)] [] h (X3_read_11 fu n x1 h) := by
  intro n
  induction n with
  | zero =>
    intro x1 h
    rw [X3_read_11]
    exact j_none
  | succ n ih =>
    intro x1 h
    rw [X3_read_11]
    refine j_iload_n C dX3_read_11 rfl (n := 12) rfl ?_
    refine j_bipush C dX3_read_12 bp_120 (n := 14) rfl ?_
    refine j_icmp_ge C dX3_read_14 (tgt := 79) (n := 17) (by decide) rfl (fun q1 => ?_) (fun q1 => ?_)
    · refine j_iconst C dX3_read_79 ic_m1 (n := 80) rfl ?_
      refine j_aload_n C dX3_read_80 rfl (n := 81) rfl ?_
      refine gf_X3_15 C 42 (cX_42 g _) rfl dX3_read_81 (n := 84) rfl ?_
      refine j_aload_n C dX3_read_84 rfl (n := 85) rfl ?_
      refine gf_X3_32 C 42 (cX_42 g _) rfl dX3_read_85 (n := 88) rfl ?_
      refine j_iald C 44 (cX_44 g _) dX3_read_88 (n := 89) rfl ?_
      refine j_isub C dX3_read_89 (n := 90) rfl ?_
      exact j_retP C dX3_read_90
    · refine j_aload_n C dX3_read_17 rfl (n := 18) rfl ?_
      refine j_bnd (fun r3 q2 => ?_)
      refine j_cz C (run_V C mi_X3_readItem lm_X3_36 iv_X3_readItem ⟨Nat.le_of_ble_eq_true rfl, Nat.le_of_ble_eq_true rfl⟩ (m_X3_readItem _ _ _ q2) (cX_42 g _) rfl rfl rfl rfl (Nat.le_of_ble_eq_true rfl) dX3_read_18) (n := 21) rfl (fun b4 => ?_)
      refine j_if_eq C dX3_read_21 (tgt := 79) (n := 24) (by decide) rfl (fun q5 => ?_) (fun q5 => ?_)
      · refine j_iconst C dX3_read_79 ic_m1 (n := 80) rfl ?_
        refine j_aload_n C dX3_read_80 rfl (n := 81) rfl ?_
        refine gf_X3_15 C 42 (cX_42 g _) rfl dX3_read_81 (n := 84) rfl ?_
        refine j_aload_n C dX3_read_84 rfl (n := 85) rfl ?_
        refine gf_X3_32 C 42 (cX_42 g _) rfl dX3_read_85 (n := 88) rfl ?_
        refine j_iald C 44 (cX_44 g _) dX3_read_88 (n := 89) rfl ?_
        refine j_isub C dX3_read_89 (n := 90) rfl ?_
        exact j_retP C dX3_read_90
      · refine j_iinc C dX3_read_24 rfl ic_1 (Nat.le_of_ble_eq_true rfl) (n := 27) rfl ?_
        refine j_aload_n C dX3_read_27 rfl (n := 28) rfl ?_
        refine gf_X3_9 C 42 (cX_42 g _) rfl dX3_read_28 (n := 31) rfl ?_
        refine j_aload_n C dX3_read_31 rfl (n := 32) rfl ?_
        refine gf_X3_32 C 42 (cX_42 g _) rfl dX3_read_32 (n := 35) rfl ?_
        refine j_iald C 43 (cX_43 g _) dX3_read_35 (n := 36) rfl ?_
        refine j_if_ne C dX3_read_36 (tgt := 41) (n := 39) (by decide) rfl (fun q6 => ?_) (fun q6 => ?_)
        · refine j_aload_n C dX3_read_41 rfl (n := 42) rfl ?_
          refine gf_X3_9 C 42 (cX_42 g _) rfl dX3_read_42 (n := 45) rfl ?_
          refine j_aload_n C dX3_read_45 rfl (n := 46) rfl ?_
          refine gf_X3_32 C 42 (cX_42 g _) rfl dX3_read_46 (n := 49) rfl ?_
          refine j_iald C 43 (cX_43 g _) dX3_read_49 (n := 50) rfl ?_
          refine j_iconst C dX3_read_50 ic_3 (n := 51) rfl ?_
          refine j_icmp_eq C dX3_read_51 (tgt := 66) (n := 54) (by decide) rfl (fun q7 => ?_) (fun q7 => ?_)
          · refine j_aload_n C dX3_read_66 rfl (n := 67) rfl ?_
            refine j_dup C dX3_read_67 rfl (n := 68) rfl ?_
            refine gf_X3_32 C 42 (cX_42 g _) rfl dX3_read_68 (n := 71) rfl ?_
            refine j_iconst C dX3_read_71 ic_1 (n := 72) rfl ?_
            refine j_iadd C dX3_read_72 (n := 73) rfl ?_
            refine pf_X3_32 C 42 (cX_42 g _) (sX_42_6 g _ _) rfl dX3_read_73 (n := 76) rfl ?_
            refine j_goto C dX3_read_76 (n := 11) (by decide) ?_
            exact j_to (ih _ _) ⟨rfl, ⟨rfl, trivial⟩⟩
          · refine j_iconst C dX3_read_54 ic_m1 (n := 55) rfl ?_
            refine j_aload_n C dX3_read_55 rfl (n := 56) rfl ?_
            refine gf_X3_15 C 42 (cX_42 g _) rfl dX3_read_56 (n := 59) rfl ?_
            refine j_aload_n C dX3_read_59 rfl (n := 60) rfl ?_
            refine gf_X3_32 C 42 (cX_42 g _) rfl dX3_read_60 (n := 63) rfl ?_
            refine j_iald C 44 (cX_44 g _) dX3_read_63 (n := 64) rfl ?_
            refine j_isub C dX3_read_64 (n := 65) rfl ?_
            exact j_retP C dX3_read_65
        · refine j_iload_n C dX3_read_39 rfl (n := 40) rfl ?_
          exact j_retP C dX3_read_40
set_option maxRecDepth 20000 in
theorem m_X3_read (l : Launch) (fu : Nat) (h : Hp) {r : Int32 × Hp} (e : X3_read fu h = some r) : CT l yX3_read cX3_read 2 (some .int) 8 cwX (fun g => [rf g 42]) h (qI cwX r.1 r.2) := by
  refine ct_of (QR := (fun r : Int32 × Hp => qI cwX r.1 r.2)) (by decide +kernel) (fun g => ⟨rfl, Nat.le_of_ble_eq_true rfl⟩) e (fun x g hl C => ?_)
  unfold X3_read
  refine j_aload_n C dX3_read_0 rfl (n := 1) rfl ?_
  refine j_bnd (fun h2 q1 => ?_)
  refine j_cv C (run_V C mi_X3_cut lm_X3_29 iv_X3_cut ⟨Nat.le_of_ble_eq_true rfl, Nat.le_of_ble_eq_true rfl⟩ (m_X3_cut _ _ _ q1) (cX_42 g _) rfl rfl rfl rfl (Nat.le_of_ble_eq_true rfl) dX3_read_1) (n := 4) rfl ?_
  refine j_aload_n C dX3_read_4 rfl (n := 5) rfl ?_
  refine j_iconst C dX3_read_5 ic_0 (n := 6) rfl ?_
  refine pf_X3_32 C 42 (cX_42 g _) (sX_42_6 g _ _) rfl dX3_read_6 (n := 9) rfl ?_
  refine j_iconst C dX3_read_9 ic_0 (n := 10) rfl ?_
  refine j_istore_n C dX3_read_10 (Nat.le_of_ble_eq_true rfl) (n := 11) rfl ?_
  exact j_to (j_X3_read_11 C _ _ _ _) ⟨rfl, ⟨rfl, trivial⟩⟩
-- X7_text
set_option maxRecDepth 20000 in
theorem m_X7_text (l : Launch) (fu : Nat) (h : Hp) {r : Int32 × Hp} (e : X7_text fu h = some r) : CT l yX7_text cX7_text 2 (some .int) 9 cwX (fun g => [rf g 0]) h (qI cwX r.1 r.2) := by
  refine ct_of (QR := (fun r : Int32 × Hp => qI cwX r.1 r.2)) (by decide +kernel) (fun g => ⟨rfl, Nat.le_of_ble_eq_true rfl⟩) e (fun x g hl C => ?_)
  unfold X7_text
  refine j_aload_n C dX7_text_0 rfl (n := 1) rfl ?_
  refine gf_X7_19 C 0 (cX_0 g _) rfl dX7_text_1 (n := 4) rfl ?_
  refine j_aload_n C dX7_text_4 rfl (n := 5) rfl ?_
  refine gf_X7_12 C 0 (cX_0 g _) rfl dX7_text_5 (n := 8) rfl ?_
  refine j_bnd (fun h2 q1 => ?_)
  refine j_cv C (run_V C mi_X1_become lm_X7_264 iv_X1_become ⟨Nat.le_of_ble_eq_true rfl, Nat.le_of_ble_eq_true rfl⟩ (m_X1_become_23_1 _ _ q1) (cX_23 g _) rfl rfl rfl rfl (Nat.le_of_ble_eq_true rfl) dX7_text_8) (n := 11) rfl ?_
  refine j_aload_n C dX7_text_11 rfl (n := 12) rfl ?_
  refine gf_X7_48 C 0 (cX_0 g _) rfl dX7_text_12 (n := 15) rfl ?_
  refine j_bnd (fun r4 q3 => ?_)
  refine j_ci C (run_V C mi_X3_read lm_X7_268 iv_X3_read ⟨Nat.le_of_ble_eq_true rfl, Nat.le_of_ble_eq_true rfl⟩ (m_X3_read _ _ _ q3) (cX_42 g _) rfl rfl rfl rfl (Nat.le_of_ble_eq_true rfl) dX7_text_15) (n := 18) rfl ?_
  refine j_istore_n C dX7_text_18 (Nat.le_of_ble_eq_true rfl) (n := 19) rfl ?_
  refine j_iload_n C dX7_text_19 rfl (n := 20) rfl ?_
  refine j_if_lt C dX7_text_20 (tgt := 34) (n := 23) (by decide) rfl (fun q6 => ?_) (fun q6 => ?_)
  · refine j_aload_n C dX7_text_34 rfl (n := 35) rfl ?_
    refine gf_X7_39 C 0 (cX_0 g _) rfl dX7_text_35 (n := 38) rfl ?_
    refine j_iconst C dX7_text_38 ic_0 (n := 39) rfl ?_
    refine pf_X7_257 C 40 (cX_40 g _) (sX_40_1 g _ _) rfl dX7_text_39 (n := 42) rfl ?_
    refine j_iload_n C dX7_text_42 rfl (n := 43) rfl ?_
    exact j_retP C dX7_text_43
  · refine j_aload_n C dX7_text_23 rfl (n := 24) rfl ?_
    refine gf_X7_12 C 0 (cX_0 g _) rfl dX7_text_24 (n := 27) rfl ?_
    refine j_aload_n C dX7_text_27 rfl (n := 28) rfl ?_
    refine gf_X7_19 C 0 (cX_0 g _) rfl dX7_text_28 (n := 31) rfl ?_
    refine j_bnd (fun h8 q7 => ?_)
    refine j_cv C (run_V C mi_X1_become lm_X7_264 iv_X1_become ⟨Nat.le_of_ble_eq_true rfl, Nat.le_of_ble_eq_true rfl⟩ (m_X1_become_1_23 _ _ q7) (cX_1 g _) rfl rfl rfl rfl (Nat.le_of_ble_eq_true rfl) dX7_text_31) (n := 34) rfl ?_
    refine j_aload_n C dX7_text_34 rfl (n := 35) rfl ?_
    refine gf_X7_39 C 0 (cX_0 g _) rfl dX7_text_35 (n := 38) rfl ?_
    refine j_iconst C dX7_text_38 ic_0 (n := 39) rfl ?_
    refine pf_X7_257 C 40 (cX_40 g _) (sX_40_1 g _ _) rfl dX7_text_39 (n := 42) rfl ?_
    refine j_iload_n C dX7_text_42 rfl (n := 43) rfl ?_
    exact j_retP C dX7_text_43
