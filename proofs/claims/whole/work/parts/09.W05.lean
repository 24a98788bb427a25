-- X7_copy
set_option maxRecDepth 20000 in
theorem m_X7_copy (l : Launch) (x1 : Int32) (x2 : Int32) (x3 : Int32) (x4 : Int32) (x5 : Int32) (h : Hp) {r : Int32 × Hp} (e : X7_copy x1 x2 x3 x4 x5 h = some r) : CT l yX7_copy cX7_copy 6 (some .int) 2 cwX (fun g => [rf g 0, .int x1, .int x2, .int x3, .int x4, .int x5]) h (qI cwX r.1 r.2) := by
  refine ct_of (QR := (fun r : Int32 × Hp => qI cwX r.1 r.2)) (by decide +kernel) (fun g => ⟨rfl, Nat.le_of_ble_eq_true rfl⟩) e (fun x g hl C => ?_)
  unfold X7_copy
  refine j_iload_n C dX7_copy_0 rfl (n := 1) rfl ?_
  refine j_cz C (run_S C mi_X7_isSheet lm_X7_229 st_X7_isSheet ⟨Nat.le_of_ble_eq_true rfl, Nat.le_of_ble_eq_true rfl⟩ (m_X7_isSheet _ _ _) rfl rfl rfl (Nat.le_of_ble_eq_true rfl) dX7_copy_1) (n := 4) rfl (fun b1 => ?_)
  refine j_if_eq C dX7_copy_4 (tgt := 14) (n := 7) (by decide) rfl (fun q2 => ?_) (fun q2 => ?_)
  · refine j_aload_n C dX7_copy_14 rfl (n := 15) rfl ?_
    refine j_ldc C dX7_copy_15 kc_X7_67 (n := 17) rfl ?_
    refine j_bnd (fun r4 q3 => ?_)
    refine j_ci C (run_V C mi_X7_finding lm_X7_68 iv_X7_finding ⟨Nat.le_of_ble_eq_true rfl, Nat.le_of_ble_eq_true rfl⟩ (m_X7_finding _ _ _ q3) (cX_0 g _) rfl rfl rfl rfl (Nat.le_of_ble_eq_true rfl) dX7_copy_17) (n := 20) rfl ?_
    exact j_retP C dX7_copy_20
  · refine j_iload_n C dX7_copy_7 rfl (n := 8) rfl ?_
    refine j_cz C (run_S C mi_X7_isSheet lm_X7_229 st_X7_isSheet ⟨Nat.le_of_ble_eq_true rfl, Nat.le_of_ble_eq_true rfl⟩ (m_X7_isSheet _ _ _) rfl rfl rfl (Nat.le_of_ble_eq_true rfl) dX7_copy_8) (n := 11) rfl (fun b6 => ?_)
    refine j_if_ne C dX7_copy_11 (tgt := 21) (n := 14) (by decide) rfl (fun q7 => ?_) (fun q7 => ?_)
    · refine j_aload_n C dX7_copy_21 rfl (n := 22) rfl ?_
      refine gf_X7_54 C 0 (cX_0 g _) rfl dX7_copy_22 (n := 25) rfl ?_
      refine j_iload_n C dX7_copy_25 rfl (n := 26) rfl ?_
      refine j_chk (fun q8 => ?_)
      rcases inR_4 q8 with rfl | rfl | rfl | rfl
      · rw [shc_0]
        refine j_aald C 46 2 (cX_46 g _) rfl (by decide) (b := g.2.1 47) rfl dX7_copy_26 rfl ?_
        refine j_cz C (run_V C mi_X4_isMissing lm_X7_232 iv_X4_isMissing ⟨Nat.le_of_ble_eq_true rfl, Nat.le_of_ble_eq_true rfl⟩ (m_X4_isMissing_47 _ _) (cX_47 g _) rfl rfl rfl rfl (Nat.le_of_ble_eq_true rfl) dX7_copy_27) (n := 30) rfl (fun b9 => ?_)
        refine j_if_ne C dX7_copy_30 (tgt := 45) (n := 33) (by decide) rfl (fun q10 => ?_) (fun q10 => ?_)
        · refine j_aload_n C dX7_copy_45 rfl (n := 46) rfl ?_
          refine j_ldc C dX7_copy_46 kc_X7_236 (n := 48) rfl ?_
          refine j_bnd (fun r12 q11 => ?_)
          refine j_ci C (run_V C mi_X7_finding lm_X7_68 iv_X7_finding ⟨Nat.le_of_ble_eq_true rfl, Nat.le_of_ble_eq_true rfl⟩ (m_X7_finding _ _ _ q11) (cX_0 g _) rfl rfl rfl rfl (Nat.le_of_ble_eq_true rfl) dX7_copy_48) (n := 51) rfl ?_
          exact j_retP C dX7_copy_51
        · refine j_aload_n C dX7_copy_33 rfl (n := 34) rfl ?_
          refine gf_X7_54 C 0 (cX_0 g _) rfl dX7_copy_34 (n := 37) rfl ?_
          refine j_iload_n C dX7_copy_37 rfl (n := 38) rfl ?_
          refine j_chk (fun q14 => ?_)
          rcases inR_4 q14 with rfl | rfl | rfl | rfl
          · rw [shc_0]
            refine j_aald C 46 2 (cX_46 g _) rfl (by decide) (b := g.2.1 47) rfl dX7_copy_38 rfl ?_
            refine j_cz C (run_V C mi_X4_isMissing lm_X7_232 iv_X4_isMissing ⟨Nat.le_of_ble_eq_true rfl, Nat.le_of_ble_eq_true rfl⟩ (m_X4_isMissing_47 _ _) (cX_47 g _) rfl rfl rfl rfl (Nat.le_of_ble_eq_true rfl) dX7_copy_39) (n := 42) rfl (fun b15 => ?_)
            refine j_if_eq C dX7_copy_42 (tgt := 52) (n := 45) (by decide) rfl (fun q16 => ?_) (fun q16 => ?_)
            · refine j_aload_n C dX7_copy_52 rfl (n := 53) rfl ?_
              refine gf_X7_54 C 0 (cX_0 g _) rfl dX7_copy_53 (n := 56) rfl ?_
              refine j_iload_n C dX7_copy_56 rfl (n := 57) rfl ?_
              refine j_aald C 46 2 (cX_46 g _) rfl (by decide) (b := g.2.1 47) rfl dX7_copy_57 rfl ?_
              refine gf_X7_293 C 47 (cX_47 g _) rfl dX7_copy_58 (n := 61) rfl ?_
              refine j_aload_n C dX7_copy_61 rfl (n := 62) rfl ?_
              refine gf_X7_54 C 0 (cX_0 g _) rfl dX7_copy_62 (n := 65) rfl ?_
              refine j_iload_n C dX7_copy_65 rfl (n := 66) rfl ?_
              refine j_aald C 46 2 (cX_46 g _) rfl (by decide) (b := g.2.1 47) rfl dX7_copy_66 rfl ?_
              refine gf_X7_293 C 47 (cX_47 g _) rfl dX7_copy_67 (n := 70) rfl ?_
              refine j_icmp_eq C dX7_copy_70 (tgt := 80) (n := 73) (by decide) rfl (fun q17 => ?_) (fun q17 => ?_)
              · refine j_aload_n C dX7_copy_80 rfl (n := 81) rfl ?_
                refine gf_X7_54 C 0 (cX_0 g _) rfl dX7_copy_81 (n := 84) rfl ?_
                refine j_iload_n C dX7_copy_84 rfl (n := 85) rfl ?_
                refine j_aald C 46 2 (cX_46 g _) rfl (by decide) (b := g.2.1 47) rfl dX7_copy_85 rfl ?_
                refine j_iload_n C dX7_copy_86 rfl (n := 87) rfl ?_
                refine j_iload C dX7_copy_87 rfl (n := 89) rfl ?_
                refine j_cz C (run_V C mi_X4_hasRun lm_X7_296 iv_X4_hasRun ⟨Nat.le_of_ble_eq_true rfl, Nat.le_of_ble_eq_true rfl⟩ (m_X4_hasRun_47 _ _ _ _) (cX_47 g _) rfl rfl rfl rfl (Nat.le_of_ble_eq_true rfl) dX7_copy_89) (n := 92) rfl (fun b18 => ?_)
                refine j_if_eq C dX7_copy_92 (tgt := 111) (n := 95) (by decide) rfl (fun q19 => ?_) (fun q19 => ?_)
                · refine j_aload_n C dX7_copy_111 rfl (n := 112) rfl ?_
                  refine j_ldc C dX7_copy_112 kc_X7_67 (n := 114) rfl ?_
                  refine j_bnd (fun r21 q20 => ?_)
                  refine j_ci C (run_V C mi_X7_finding lm_X7_68 iv_X7_finding ⟨Nat.le_of_ble_eq_true rfl, Nat.le_of_ble_eq_true rfl⟩ (m_X7_finding _ _ _ q20) (cX_0 g _) rfl rfl rfl rfl (Nat.le_of_ble_eq_true rfl) dX7_copy_114) (n := 117) rfl ?_
                  exact j_retP C dX7_copy_117
                · refine j_aload_n C dX7_copy_95 rfl (n := 96) rfl ?_
                  refine gf_X7_54 C 0 (cX_0 g _) rfl dX7_copy_96 (n := 99) rfl ?_
                  refine j_iload_n C dX7_copy_99 rfl (n := 100) rfl ?_
                  refine j_aald C 46 2 (cX_46 g _) rfl (by decide) (b := g.2.1 47) rfl dX7_copy_100 rfl ?_
                  refine j_iload C dX7_copy_101 rfl (n := 103) rfl ?_
                  refine j_iload C dX7_copy_103 rfl (n := 105) rfl ?_
                  refine j_cz C (run_V C mi_X4_hasRun lm_X7_296 iv_X4_hasRun ⟨Nat.le_of_ble_eq_true rfl, Nat.le_of_ble_eq_true rfl⟩ (m_X4_hasRun_47 _ _ _ _) (cX_47 g _) rfl rfl rfl rfl (Nat.le_of_ble_eq_true rfl) dX7_copy_105) (n := 108) rfl (fun b23 => ?_)
                  refine j_if_ne C dX7_copy_108 (tgt := 118) (n := 111) (by decide) rfl (fun q24 => ?_) (fun q24 => ?_)
                  · refine j_aload_n C dX7_copy_118 rfl (n := 119) rfl ?_
                    refine gf_X7_54 C 0 (cX_0 g _) rfl dX7_copy_119 (n := 122) rfl ?_
                    refine j_iload_n C dX7_copy_122 rfl (n := 123) rfl ?_
                    refine j_aald C 46 2 (cX_46 g _) rfl (by decide) (b := g.2.1 47) rfl dX7_copy_123 rfl ?_
                    refine gf_X7_299 C 47 (cX_47 g _) rfl dX7_copy_124 (n := 127) rfl ?_
                    refine j_iload_n C dX7_copy_127 rfl (n := 128) rfl ?_
                    refine j_aload_n C dX7_copy_128 rfl (n := 129) rfl ?_
                    refine gf_X7_54 C 0 (cX_0 g _) rfl dX7_copy_129 (n := 132) rfl ?_
                    refine j_iload_n C dX7_copy_132 rfl (n := 133) rfl ?_
                    refine j_aald C 46 2 (cX_46 g _) rfl (by decide) (b := g.2.1 47) rfl dX7_copy_133 rfl ?_
                    refine gf_X7_299 C 47 (cX_47 g _) rfl dX7_copy_134 (n := 137) rfl ?_
                    refine j_iload C dX7_copy_137 rfl (n := 139) rfl ?_
                    refine j_iload C dX7_copy_139 rfl (n := 141) rfl ?_
                    refine j_copy C 48 48 (cX_48 g _) (cX_48 g _) (wX_48 g _ _) lm_X7_302 (Nat.le_of_ble_eq_true rfl) (Nat.le_of_ble_eq_true rfl) dX7_copy_141 (n := 144) rfl ?_
                    refine j_iload C dX7_copy_144 rfl (n := 146) rfl ?_
                    exact j_retP C dX7_copy_146
                  · refine j_aload_n C dX7_copy_111 rfl (n := 112) rfl ?_
                    refine j_ldc C dX7_copy_112 kc_X7_67 (n := 114) rfl ?_
                    refine j_bnd (fun r26 q25 => ?_)
                    refine j_ci C (run_V C mi_X7_finding lm_X7_68 iv_X7_finding ⟨Nat.le_of_ble_eq_true rfl, Nat.le_of_ble_eq_true rfl⟩ (m_X7_finding _ _ _ q25) (cX_0 g _) rfl rfl rfl rfl (Nat.le_of_ble_eq_true rfl) dX7_copy_114) (n := 117) rfl ?_
                    exact j_retP C dX7_copy_117
              · refine j_aload_n C dX7_copy_73 rfl (n := 74) rfl ?_
                refine j_ldc C dX7_copy_74 kc_X7_201 (n := 76) rfl ?_
                refine j_bnd (fun r29 q28 => ?_)
                refine j_ci C (run_V C mi_X7_finding lm_X7_68 iv_X7_finding ⟨Nat.le_of_ble_eq_true rfl, Nat.le_of_ble_eq_true rfl⟩ (m_X7_finding _ _ _ q28) (cX_0 g _) rfl rfl rfl rfl (Nat.le_of_ble_eq_true rfl) dX7_copy_76) (n := 79) rfl ?_
                exact j_retP C dX7_copy_79
            · refine j_aload_n C dX7_copy_45 rfl (n := 46) rfl ?_
              refine j_ldc C dX7_copy_46 kc_X7_236 (n := 48) rfl ?_
              refine j_bnd (fun r32 q31 => ?_)
              refine j_ci C (run_V C mi_X7_finding lm_X7_68 iv_X7_finding ⟨Nat.le_of_ble_eq_true rfl, Nat.le_of_ble_eq_true rfl⟩ (m_X7_finding _ _ _ q31) (cX_0 g _) rfl rfl rfl rfl (Nat.le_of_ble_eq_true rfl) dX7_copy_48) (n := 51) rfl ?_
              exact j_retP C dX7_copy_51
          · rw [shc_1]
            refine j_aald C 46 2 (cX_46 g _) rfl (by decide) (b := g.2.1 49) rfl dX7_copy_38 rfl ?_
            refine j_cz C (run_V C mi_X4_isMissing lm_X7_232 iv_X4_isMissing ⟨Nat.le_of_ble_eq_true rfl, Nat.le_of_ble_eq_true rfl⟩ (m_X4_isMissing_49 _ _) (cX_49 g _) rfl rfl rfl rfl (Nat.le_of_ble_eq_true rfl) dX7_copy_39) (n := 42) rfl (fun b15 => ?_)
            refine j_if_eq C dX7_copy_42 (tgt := 52) (n := 45) (by decide) rfl (fun q16 => ?_) (fun q16 => ?_)
            · refine j_aload_n C dX7_copy_52 rfl (n := 53) rfl ?_
              refine gf_X7_54 C 0 (cX_0 g _) rfl dX7_copy_53 (n := 56) rfl ?_
              refine j_iload_n C dX7_copy_56 rfl (n := 57) rfl ?_
              refine j_aald C 46 2 (cX_46 g _) rfl (by decide) (b := g.2.1 47) rfl dX7_copy_57 rfl ?_
              refine gf_X7_293 C 47 (cX_47 g _) rfl dX7_copy_58 (n := 61) rfl ?_
              refine j_aload_n C dX7_copy_61 rfl (n := 62) rfl ?_
              refine gf_X7_54 C 0 (cX_0 g _) rfl dX7_copy_62 (n := 65) rfl ?_
              refine j_iload_n C dX7_copy_65 rfl (n := 66) rfl ?_
              refine j_aald C 46 2 (cX_46 g _) rfl (by decide) (b := g.2.1 49) rfl dX7_copy_66 rfl ?_
              refine gf_X7_293 C 49 (cX_49 g _) rfl dX7_copy_67 (n := 70) rfl ?_
              refine j_icmp_eq C dX7_copy_70 (tgt := 80) (n := 73) (by decide) rfl (fun q17 => ?_) (fun q17 => ?_)
              · refine j_aload_n C dX7_copy_80 rfl (n := 81) rfl ?_
                refine gf_X7_54 C 0 (cX_0 g _) rfl dX7_copy_81 (n := 84) rfl ?_
                refine j_iload_n C dX7_copy_84 rfl (n := 85) rfl ?_
                refine j_aald C 46 2 (cX_46 g _) rfl (by decide) (b := g.2.1 47) rfl dX7_copy_85 rfl ?_
                refine j_iload_n C dX7_copy_86 rfl (n := 87) rfl ?_
                refine j_iload C dX7_copy_87 rfl (n := 89) rfl ?_
                refine j_cz C (run_V C mi_X4_hasRun lm_X7_296 iv_X4_hasRun ⟨Nat.le_of_ble_eq_true rfl, Nat.le_of_ble_eq_true rfl⟩ (m_X4_hasRun_47 _ _ _ _) (cX_47 g _) rfl rfl rfl rfl (Nat.le_of_ble_eq_true rfl) dX7_copy_89) (n := 92) rfl (fun b18 => ?_)
                refine j_if_eq C dX7_copy_92 (tgt := 111) (n := 95) (by decide) rfl (fun q19 => ?_) (fun q19 => ?_)
                · refine j_aload_n C dX7_copy_111 rfl (n := 112) rfl ?_
                  refine j_ldc C dX7_copy_112 kc_X7_67 (n := 114) rfl ?_
                  refine j_bnd (fun r21 q20 => ?_)
                  refine j_ci C (run_V C mi_X7_finding lm_X7_68 iv_X7_finding ⟨Nat.le_of_ble_eq_true rfl, Nat.le_of_ble_eq_true rfl⟩ (m_X7_finding _ _ _ q20) (cX_0 g _) rfl rfl rfl rfl (Nat.le_of_ble_eq_true rfl) dX7_copy_114) (n := 117) rfl ?_
                  exact j_retP C dX7_copy_117
                · refine j_aload_n C dX7_copy_95 rfl (n := 96) rfl ?_
                  refine gf_X7_54 C 0 (cX_0 g _) rfl dX7_copy_96 (n := 99) rfl ?_
                  refine j_iload_n C dX7_copy_99 rfl (n := 100) rfl ?_
                  refine j_aald C 46 2 (cX_46 g _) rfl (by decide) (b := g.2.1 49) rfl dX7_copy_100 rfl ?_
                  refine j_iload C dX7_copy_101 rfl (n := 103) rfl ?_
                  refine j_iload C dX7_copy_103 rfl (n := 105) rfl ?_
                  refine j_cz C (run_V C mi_X4_hasRun lm_X7_296 iv_X4_hasRun ⟨Nat.le_of_ble_eq_true rfl, Nat.le_of_ble_eq_true rfl⟩ (m_X4_hasRun_49 _ _ _ _) (cX_49 g _) rfl rfl rfl rfl (Nat.le_of_ble_eq_true rfl) dX7_copy_105) (n := 108) rfl (fun b23 => ?_)
                  refine j_if_ne C dX7_copy_108 (tgt := 118) (n := 111) (by decide) rfl (fun q24 => ?_) (fun q24 => ?_)
                  · refine j_aload_n C dX7_copy_118 rfl (n := 119) rfl ?_
                    refine gf_X7_54 C 0 (cX_0 g _) rfl dX7_copy_119 (n := 122) rfl ?_
                    refine j_iload_n C dX7_copy_122 rfl (n := 123) rfl ?_
                    refine j_aald C 46 2 (cX_46 g _) rfl (by decide) (b := g.2.1 47) rfl dX7_copy_123 rfl ?_
                    refine gf_X7_299 C 47 (cX_47 g _) rfl dX7_copy_124 (n := 127) rfl ?_
                    refine j_iload_n C dX7_copy_127 rfl (n := 128) rfl ?_
                    refine j_aload_n C dX7_copy_128 rfl (n := 129) rfl ?_
                    refine gf_X7_54 C 0 (cX_0 g _) rfl dX7_copy_129 (n := 132) rfl ?_
                    refine j_iload_n C dX7_copy_132 rfl (n := 133) rfl ?_
                    refine j_aald C 46 2 (cX_46 g _) rfl (by decide) (b := g.2.1 49) rfl dX7_copy_133 rfl ?_
                    refine gf_X7_299 C 49 (cX_49 g _) rfl dX7_copy_134 (n := 137) rfl ?_
                    refine j_iload C dX7_copy_137 rfl (n := 139) rfl ?_
                    refine j_iload C dX7_copy_139 rfl (n := 141) rfl ?_
                    refine j_copy C 48 50 (cX_48 g _) (cX_50 g _) (wX_50 g _ _) lm_X7_302 (Nat.le_of_ble_eq_true rfl) (Nat.le_of_ble_eq_true rfl) dX7_copy_141 (n := 144) rfl ?_
                    refine j_iload C dX7_copy_144 rfl (n := 146) rfl ?_
                    exact j_retP C dX7_copy_146
                  · refine j_aload_n C dX7_copy_111 rfl (n := 112) rfl ?_
                    refine j_ldc C dX7_copy_112 kc_X7_67 (n := 114) rfl ?_
                    refine j_bnd (fun r26 q25 => ?_)
                    refine j_ci C (run_V C mi_X7_finding lm_X7_68 iv_X7_finding ⟨Nat.le_of_ble_eq_true rfl, Nat.le_of_ble_eq_true rfl⟩ (m_X7_finding _ _ _ q25) (cX_0 g _) rfl rfl rfl rfl (Nat.le_of_ble_eq_true rfl) dX7_copy_114) (n := 117) rfl ?_
                    exact j_retP C dX7_copy_117
              · refine j_aload_n C dX7_copy_73 rfl (n := 74) rfl ?_
                refine j_ldc C dX7_copy_74 kc_X7_201 (n := 76) rfl ?_
                refine j_bnd (fun r29 q28 => ?_)
                refine j_ci C (run_V C mi_X7_finding lm_X7_68 iv_X7_finding ⟨Nat.le_of_ble_eq_true rfl, Nat.le_of_ble_eq_true rfl⟩ (m_X7_finding _ _ _ q28) (cX_0 g _) rfl rfl rfl rfl (Nat.le_of_ble_eq_true rfl) dX7_copy_76) (n := 79) rfl ?_
                exact j_retP C dX7_copy_79
            · refine j_aload_n C dX7_copy_45 rfl (n := 46) rfl ?_
              refine j_ldc C dX7_copy_46 kc_X7_236 (n := 48) rfl ?_
              refine j_bnd (fun r32 q31 => ?_)
              refine j_ci C (run_V C mi_X7_finding lm_X7_68 iv_X7_finding ⟨Nat.le_of_ble_eq_true rfl, Nat.le_of_ble_eq_true rfl⟩ (m_X7_finding _ _ _ q31) (cX_0 g _) rfl rfl rfl rfl (Nat.le_of_ble_eq_true rfl) dX7_copy_48) (n := 51) rfl ?_
              exact j_retP C dX7_copy_51
          · rw [shc_2]
            refine j_aald C 46 2 (cX_46 g _) rfl (by decide) (b := g.2.1 51) rfl dX7_copy_38 rfl ?_
            refine j_cz C (run_V C mi_X4_isMissing lm_X7_232 iv_X4_isMissing ⟨Nat.le_of_ble_eq_true rfl, Nat.le_of_ble_eq_true rfl⟩ (m_X4_isMissing_51 _ _) (cX_51 g _) rfl rfl rfl rfl (Nat.le_of_ble_eq_true rfl) dX7_copy_39) (n := 42) rfl (fun b15 => ?_)
            refine j_if_eq C dX7_copy_42 (tgt := 52) (n := 45) (by decide) rfl (fun q16 => ?_) (fun q16 => ?_)
            · refine j_aload_n C dX7_copy_52 rfl (n := 53) rfl ?_
              refine gf_X7_54 C 0 (cX_0 g _) rfl dX7_copy_53 (n := 56) rfl ?_
              refine j_iload_n C dX7_copy_56 rfl (n := 57) rfl ?_
              refine j_aald C 46 2 (cX_46 g _) rfl (by decide) (b := g.2.1 47) rfl dX7_copy_57 rfl ?_
              refine gf_X7_293 C 47 (cX_47 g _) rfl dX7_copy_58 (n := 61) rfl ?_
              refine j_aload_n C dX7_copy_61 rfl (n := 62) rfl ?_
              refine gf_X7_54 C 0 (cX_0 g _) rfl dX7_copy_62 (n := 65) rfl ?_
              refine j_iload_n C dX7_copy_65 rfl (n := 66) rfl ?_
              refine j_aald C 46 2 (cX_46 g _) rfl (by decide) (b := g.2.1 51) rfl dX7_copy_66 rfl ?_
              refine gf_X7_293 C 51 (cX_51 g _) rfl dX7_copy_67 (n := 70) rfl ?_
              refine j_icmp_eq C dX7_copy_70 (tgt := 80) (n := 73) (by decide) rfl (fun q17 => ?_) (fun q17 => ?_)
              · refine j_aload_n C dX7_copy_80 rfl (n := 81) rfl ?_
                refine gf_X7_54 C 0 (cX_0 g _) rfl dX7_copy_81 (n := 84) rfl ?_
                refine j_iload_n C dX7_copy_84 rfl (n := 85) rfl ?_
                refine j_aald C 46 2 (cX_46 g _) rfl (by decide) (b := g.2.1 47) rfl dX7_copy_85 rfl ?_
                refine j_iload_n C dX7_copy_86 rfl (n := 87) rfl ?_
                refine j_iload C dX7_copy_87 rfl (n := 89) rfl ?_
                refine j_cz C (run_V C mi_X4_hasRun lm_X7_296 iv_X4_hasRun ⟨Nat.le_of_ble_eq_true rfl, Nat.le_of_ble_eq_true rfl⟩ (m_X4_hasRun_47 _ _ _ _) (cX_47 g _) rfl rfl rfl rfl (Nat.le_of_ble_eq_true rfl) dX7_copy_89) (n := 92) rfl (fun b18 => ?_)
                refine j_if_eq C dX7_copy_92 (tgt := 111) (n := 95) (by decide) rfl (fun q19 => ?_) (fun q19 => ?_)
                · refine j_aload_n C dX7_copy_111 rfl (n := 112) rfl ?_
                  refine j_ldc C dX7_copy_112 kc_X7_67 (n := 114) rfl ?_
                  refine j_bnd (fun r21 q20 => ?_)
                  refine j_ci C (run_V C mi_X7_finding lm_X7_68 iv_X7_finding ⟨Nat.le_of_ble_eq_true rfl, Nat.le_of_ble_eq_true rfl⟩ (m_X7_finding _ _ _ q20) (cX_0 g _) rfl rfl rfl rfl (Nat.le_of_ble_eq_true rfl) dX7_copy_114) (n := 117) rfl ?_
                  exact j_retP C dX7_copy_117
                · refine j_aload_n C dX7_copy_95 rfl (n := 96) rfl ?_
                  refine gf_X7_54 C 0 (cX_0 g _) rfl dX7_copy_96 (n := 99) rfl ?_
                  refine j_iload_n C dX7_copy_99 rfl (n := 100) rfl ?_
                  refine j_aald C 46 2 (cX_46 g _) rfl (by decide) (b := g.2.1 51) rfl dX7_copy_100 rfl ?_
                  refine j_iload C dX7_copy_101 rfl (n := 103) rfl ?_
                  refine j_iload C dX7_copy_103 rfl (n := 105) rfl ?_
                  refine j_cz C (run_V C mi_X4_hasRun lm_X7_296 iv_X4_hasRun ⟨Nat.le_of_ble_eq_true rfl, Nat.le_of_ble_eq_true rfl⟩ (m_X4_hasRun_51 _ _ _ _) (cX_51 g _) rfl rfl rfl rfl (Nat.le_of_ble_eq_true rfl) dX7_copy_105) (n := 108) rfl (fun b23 => ?_)
                  refine j_if_ne C dX7_copy_108 (tgt := 118) (n := 111) (by decide) rfl (fun q24 => ?_) (fun q24 => ?_)
                  · refine j_aload_n C dX7_copy_118 rfl (n := 119) rfl ?_
                    refine gf_X7_54 C 0 (cX_0 g _) rfl dX7_copy_119 (n := 122) rfl ?_
                    refine j_iload_n C dX7_copy_122 rfl (n := 123) rfl ?_
                    refine j_aald C 46 2 (cX_46 g _) rfl (by decide) (b := g.2.1 47) rfl dX7_copy_123 rfl ?_
                    refine gf_X7_299 C 47 (cX_47 g _) rfl dX7_copy_124 (n := 127) rfl ?_
                    refine j_iload_n C dX7_copy_127 rfl (n := 128) rfl ?_
                    refine j_aload_n C dX7_copy_128 rfl (n := 129) rfl ?_
                    refine gf_X7_54 C 0 (cX_0 g _) rfl dX7_copy_129 (n := 132) rfl ?_
                    refine j_iload_n C dX7_copy_132 rfl (n := 133) rfl ?_
                    refine j_aald C 46 2 (cX_46 g _) rfl (by decide) (b := g.2.1 51) rfl dX7_copy_133 rfl ?_
                    refine gf_X7_299 C 51 (cX_51 g _) rfl dX7_copy_134 (n := 137) rfl ?_
                    refine j_iload C dX7_copy_137 rfl (n := 139) rfl ?_
                    refine j_iload C dX7_copy_139 rfl (n := 141) rfl ?_
                    refine j_copy C 48 52 (cX_48 g _) (cX_52 g _) (wX_52 g _ _) lm_X7_302 (Nat.le_of_ble_eq_true rfl) (Nat.le_of_ble_eq_true rfl) dX7_copy_141 (n := 144) rfl ?_
                    refine j_iload C dX7_copy_144 rfl (n := 146) rfl ?_
                    exact j_retP C dX7_copy_146
                  · refine j_aload_n C dX7_copy_111 rfl (n := 112) rfl ?_
                    refine j_ldc C dX7_copy_112 kc_X7_67 (n := 114) rfl ?_
                    refine j_bnd (fun r26 q25 => ?_)
                    refine j_ci C (run_V C mi_X7_finding lm_X7_68 iv_X7_finding ⟨Nat.le_of_ble_eq_true rfl, Nat.le_of_ble_eq_true rfl⟩ (m_X7_finding _ _ _ q25) (cX_0 g _) rfl rfl rfl rfl (Nat.le_of_ble_eq_true rfl) dX7_copy_114) (n := 117) rfl ?_
                    exact j_retP C dX7_copy_117
              · refine j_aload_n C dX7_copy_73 rfl (n := 74) rfl ?_
                refine j_ldc C dX7_copy_74 kc_X7_201 (n := 76) rfl ?_
                refine j_bnd (fun r29 q28 => ?_)
                refine j_ci C (run_V C mi_X7_finding lm_X7_68 iv_X7_finding ⟨Nat.le_of_ble_eq_true rfl, Nat.le_of_ble_eq_true rfl⟩ (m_X7_finding _ _ _ q28) (cX_0 g _) rfl rfl rfl rfl (Nat.le_of_ble_eq_true rfl) dX7_copy_76) (n := 79) rfl ?_
                exact j_retP C dX7_copy_79
            · refine j_aload_n C dX7_copy_45 rfl (n := 46) rfl ?_
              refine j_ldc C dX7_copy_46 kc_X7_236 (n := 48) rfl ?_
              refine j_bnd (fun r32 q31 => ?_)
              refine j_ci C (run_V C mi_X7_finding lm_X7_68 iv_X7_finding ⟨Nat.le_of_ble_eq_true rfl, Nat.le_of_ble_eq_true rfl⟩ (m_X7_finding _ _ _ q31) (cX_0 g _) rfl rfl rfl rfl (Nat.le_of_ble_eq_true rfl) dX7_copy_48) (n := 51) rfl ?_
              exact j_retP C dX7_copy_51
          · rw [shc_3]
            refine j_aald C 46 2 (cX_46 g _) rfl (by decide) (b := g.2.1 53) rfl dX7_copy_38 rfl ?_
            refine j_cz C (run_V C mi_X4_isMissing lm_X7_232 iv_X4_isMissing ⟨Nat.le_of_ble_eq_true rfl, Nat.le_of_ble_eq_true rfl⟩ (m_X4_isMissing_53 _ _) (cX_53 g _) rfl rfl rfl rfl (Nat.le_of_ble_eq_true rfl) dX7_copy_39) (n := 42) rfl (fun b15 => ?_)
            refine j_if_eq C dX7_copy_42 (tgt := 52) (n := 45) (by decide) rfl (fun q16 => ?_) (fun q16 => ?_)
            · refine j_aload_n C dX7_copy_52 rfl (n := 53) rfl ?_
              refine gf_X7_54 C 0 (cX_0 g _) rfl dX7_copy_53 (n := 56) rfl ?_
              refine j_iload_n C dX7_copy_56 rfl (n := 57) rfl ?_
              refine j_aald C 46 2 (cX_46 g _) rfl (by decide) (b := g.2.1 47) rfl dX7_copy_57 rfl ?_
              refine gf_X7_293 C 47 (cX_47 g _) rfl dX7_copy_58 (n := 61) rfl ?_
              refine j_aload_n C dX7_copy_61 rfl (n := 62) rfl ?_
              refine gf_X7_54 C 0 (cX_0 g _) rfl dX7_copy_62 (n := 65) rfl ?_
              refine j_iload_n C dX7_copy_65 rfl (n := 66) rfl ?_
              refine j_aald C 46 2 (cX_46 g _) rfl (by decide) (b := g.2.1 53) rfl dX7_copy_66 rfl ?_
              refine gf_X7_293 C 53 (cX_53 g _) rfl dX7_copy_67 (n := 70) rfl ?_
              refine j_icmp_eq C dX7_copy_70 (tgt := 80) (n := 73) (by decide) rfl (fun q17 => ?_) (fun q17 => ?_)
              · refine j_aload_n C dX7_copy_80 rfl (n := 81) rfl ?_
                refine gf_X7_54 C 0 (cX_0 g _) rfl dX7_copy_81 (n := 84) rfl ?_
                refine j_iload_n C dX7_copy_84 rfl (n := 85) rfl ?_
                refine j_aald C 46 2 (cX_46 g _) rfl (by decide) (b := g.2.1 47) rfl dX7_copy_85 rfl ?_
                refine j_iload_n C dX7_copy_86 rfl (n := 87) rfl ?_
                refine j_iload C dX7_copy_87 rfl (n := 89) rfl ?_
                refine j_cz C (run_V C mi_X4_hasRun lm_X7_296 iv_X4_hasRun ⟨Nat.le_of_ble_eq_true rfl, Nat.le_of_ble_eq_true rfl⟩ (m_X4_hasRun_47 _ _ _ _) (cX_47 g _) rfl rfl rfl rfl (Nat.le_of_ble_eq_true rfl) dX7_copy_89) (n := 92) rfl (fun b18 => ?_)
                refine j_if_eq C dX7_copy_92 (tgt := 111) (n := 95) (by decide) rfl (fun q19 => ?_) (fun q19 => ?_)
                · refine j_aload_n C dX7_copy_111 rfl (n := 112) rfl ?_
                  refine j_ldc C dX7_copy_112 kc_X7_67 (n := 114) rfl ?_
                  refine j_bnd (fun r21 q20 => ?_)
                  refine j_ci C (run_V C mi_X7_finding lm_X7_68 iv_X7_finding ⟨Nat.le_of_ble_eq_true rfl, Nat.le_of_ble_eq_true rfl⟩ (m_X7_finding _ _ _ q20) (cX_0 g _) rfl rfl rfl rfl (Nat.le_of_ble_eq_true rfl) dX7_copy_114) (n := 117) rfl ?_
                  exact j_retP C dX7_copy_117
                · refine j_aload_n C dX7_copy_95 rfl (n := 96) rfl ?_
                  refine gf_X7_54 C 0 (cX_0 g _) rfl dX7_copy_96 (n := 99) rfl ?_
                  refine j_iload_n C dX7_copy_99 rfl (n := 100) rfl ?_
                  refine j_aald C 46 2 (cX_46 g _) rfl (by decide) (b := g.2.1 53) rfl dX7_copy_100 rfl ?_
                  refine j_iload C dX7_copy_101 rfl (n := 103) rfl ?_
                  refine j_iload C dX7_copy_103 rfl (n := 105) rfl ?_
                  refine j_cz C (run_V C mi_X4_hasRun lm_X7_296 iv_X4_hasRun ⟨Nat.le_of_ble_eq_true rfl, Nat.le_of_ble_eq_true rfl⟩ (m_X4_hasRun_53 _ _ _ _) (cX_53 g _) rfl rfl rfl rfl (Nat.le_of_ble_eq_true rfl) dX7_copy_105) (n := 108) rfl (fun b23 => ?_)
                  refine j_if_ne C dX7_copy_108 (tgt := 118) (n := 111) (by decide) rfl (fun q24 => ?_) (fun q24 => ?_)
                  · refine j_aload_n C dX7_copy_118 rfl (n := 119) rfl ?_
                    refine gf_X7_54 C 0 (cX_0 g _) rfl dX7_copy_119 (n := 122) rfl ?_
                    refine j_iload_n C dX7_copy_122 rfl (n := 123) rfl ?_
                    refine j_aald C 46 2 (cX_46 g _) rfl (by decide) (b := g.2.1 47) rfl dX7_copy_123 rfl ?_
                    refine gf_X7_299 C 47 (cX_47 g _) rfl dX7_copy_124 (n := 127) rfl ?_
                    refine j_iload_n C dX7_copy_127 rfl (n := 128) rfl ?_
                    refine j_aload_n C dX7_copy_128 rfl (n := 129) rfl ?_
                    refine gf_X7_54 C 0 (cX_0 g _) rfl dX7_copy_129 (n := 132) rfl ?_
                    refine j_iload_n C dX7_copy_132 rfl (n := 133) rfl ?_
                    refine j_aald C 46 2 (cX_46 g _) rfl (by decide) (b := g.2.1 53) rfl dX7_copy_133 rfl ?_
                    refine gf_X7_299 C 53 (cX_53 g _) rfl dX7_copy_134 (n := 137) rfl ?_
                    refine j_iload C dX7_copy_137 rfl (n := 139) rfl ?_
                    refine j_iload C dX7_copy_139 rfl (n := 141) rfl ?_
                    refine j_copy C 48 54 (cX_48 g _) (cX_54 g _) (wX_54 g _ _) lm_X7_302 (Nat.le_of_ble_eq_true rfl) (Nat.le_of_ble_eq_true rfl) dX7_copy_141 (n := 144) rfl ?_
                    refine j_iload C dX7_copy_144 rfl (n := 146) rfl ?_
                    exact j_retP C dX7_copy_146
                  · refine j_aload_n C dX7_copy_111 rfl (n := 112) rfl ?_
                    refine j_ldc C dX7_copy_112 kc_X7_67 (n := 114) rfl ?_
                    refine j_bnd (fun r26 q25 => ?_)
                    refine j_ci C (run_V C mi_X7_finding lm_X7_68 iv_X7_finding ⟨Nat.le_of_ble_eq_true rfl, Nat.le_of_ble_eq_true rfl⟩ (m_X7_finding _ _ _ q25) (cX_0 g _) rfl rfl rfl rfl (Nat.le_of_ble_eq_true rfl) dX7_copy_114) (n := 117) rfl ?_
                    exact j_retP C dX7_copy_117
              · refine j_aload_n C dX7_copy_73 rfl (n := 74) rfl ?_
                refine j_ldc C dX7_copy_74 kc_X7_201 (n := 76) rfl ?_
                refine j_bnd (fun r29 q28 => ?_)
                refine j_ci C (run_V C mi_X7_finding lm_X7_68 iv_X7_finding ⟨Nat.le_of_ble_eq_true rfl, Nat.le_of_ble_eq_true rfl⟩ (m_X7_finding _ _ _ q28) (cX_0 g _) rfl rfl rfl rfl (Nat.le_of_ble_eq_true rfl) dX7_copy_76) (n := 79) rfl ?_
                exact j_retP C dX7_copy_79
            · refine j_aload_n C dX7_copy_45 rfl (n := 46) rfl ?_
              refine j_ldc C dX7_copy_46 kc_X7_236 (n := 48) rfl ?_
              refine j_bnd (fun r32 q31 => ?_)
              refine j_ci C (run_V C mi_X7_finding lm_X7_68 iv_X7_finding ⟨Nat.le_of_ble_eq_true rfl, Nat.le_of_ble_eq_true rfl⟩ (m_X7_finding _ _ _ q31) (cX_0 g _) rfl rfl rfl rfl (Nat.le_of_ble_eq_true rfl) dX7_copy_48) (n := 51) rfl ?_
              exact j_retP C dX7_copy_51
      · rw [shc_1]
        refine j_aald C 46 2 (cX_46 g _) rfl (by decide) (b := g.2.1 49) rfl dX7_copy_26 rfl ?_
        refine j_cz C (run_V C mi_X4_isMissing lm_X7_232 iv_X4_isMissing ⟨Nat.le_of_ble_eq_true rfl, Nat.le_of_ble_eq_true rfl⟩ (m_X4_isMissing_49 _ _) (cX_49 g _) rfl rfl rfl rfl (Nat.le_of_ble_eq_true rfl) dX7_copy_27) (n := 30) rfl (fun b9 => ?_)
        refine j_if_ne C dX7_copy_30 (tgt := 45) (n := 33) (by decide) rfl (fun q10 => ?_) (fun q10 => ?_)
        · refine j_aload_n C dX7_copy_45 rfl (n := 46) rfl ?_
          refine j_ldc C dX7_copy_46 kc_X7_236 (n := 48) rfl ?_
          refine j_bnd (fun r12 q11 => ?_)
          refine j_ci C (run_V C mi_X7_finding lm_X7_68 iv_X7_finding ⟨Nat.le_of_ble_eq_true rfl, Nat.le_of_ble_eq_true rfl⟩ (m_X7_finding _ _ _ q11) (cX_0 g _) rfl rfl rfl rfl (Nat.le_of_ble_eq_true rfl) dX7_copy_48) (n := 51) rfl ?_
          exact j_retP C dX7_copy_51
        · refine j_aload_n C dX7_copy_33 rfl (n := 34) rfl ?_
          refine gf_X7_54 C 0 (cX_0 g _) rfl dX7_copy_34 (n := 37) rfl ?_
          refine j_iload_n C dX7_copy_37 rfl (n := 38) rfl ?_
          refine j_chk (fun q14 => ?_)
          rcases inR_4 q14 with rfl | rfl | rfl | rfl
          · rw [shc_0]
            refine j_aald C 46 2 (cX_46 g _) rfl (by decide) (b := g.2.1 47) rfl dX7_copy_38 rfl ?_
            refine j_cz C (run_V C mi_X4_isMissing lm_X7_232 iv_X4_isMissing ⟨Nat.le_of_ble_eq_true rfl, Nat.le_of_ble_eq_true rfl⟩ (m_X4_isMissing_47 _ _) (cX_47 g _) rfl rfl rfl rfl (Nat.le_of_ble_eq_true rfl) dX7_copy_39) (n := 42) rfl (fun b15 => ?_)
            refine j_if_eq C dX7_copy_42 (tgt := 52) (n := 45) (by decide) rfl (fun q16 => ?_) (fun q16 => ?_)
            · refine j_aload_n C dX7_copy_52 rfl (n := 53) rfl ?_
              refine gf_X7_54 C 0 (cX_0 g _) rfl dX7_copy_53 (n := 56) rfl ?_
              refine j_iload_n C dX7_copy_56 rfl (n := 57) rfl ?_
              refine j_aald C 46 2 (cX_46 g _) rfl (by decide) (b := g.2.1 49) rfl dX7_copy_57 rfl ?_
              refine gf_X7_293 C 49 (cX_49 g _) rfl dX7_copy_58 (n := 61) rfl ?_
              refine j_aload_n C dX7_copy_61 rfl (n := 62) rfl ?_
              refine gf_X7_54 C 0 (cX_0 g _) rfl dX7_copy_62 (n := 65) rfl ?_
              refine j_iload_n C dX7_copy_65 rfl (n := 66) rfl ?_
              refine j_aald C 46 2 (cX_46 g _) rfl (by decide) (b := g.2.1 47) rfl dX7_copy_66 rfl ?_
              refine gf_X7_293 C 47 (cX_47 g _) rfl dX7_copy_67 (n := 70) rfl ?_
              refine j_icmp_eq C dX7_copy_70 (tgt := 80) (n := 73) (by decide) rfl (fun q17 => ?_) (fun q17 => ?_)
              · refine j_aload_n C dX7_copy_80 rfl (n := 81) rfl ?_
                refine gf_X7_54 C 0 (cX_0 g _) rfl dX7_copy_81 (n := 84) rfl ?_
                refine j_iload_n C dX7_copy_84 rfl (n := 85) rfl ?_
                refine j_aald C 46 2 (cX_46 g _) rfl (by decide) (b := g.2.1 49) rfl dX7_copy_85 rfl ?_
                refine j_iload_n C dX7_copy_86 rfl (n := 87) rfl ?_
                refine j_iload C dX7_copy_87 rfl (n := 89) rfl ?_
                refine j_cz C (run_V C mi_X4_hasRun lm_X7_296 iv_X4_hasRun ⟨Nat.le_of_ble_eq_true rfl, Nat.le_of_ble_eq_true rfl⟩ (m_X4_hasRun_49 _ _ _ _) (cX_49 g _) rfl rfl rfl rfl (Nat.le_of_ble_eq_true rfl) dX7_copy_89) (n := 92) rfl (fun b18 => ?_)
                refine j_if_eq C dX7_copy_92 (tgt := 111) (n := 95) (by decide) rfl (fun q19 => ?_) (fun q19 => ?_)
                · refine j_aload_n C dX7_copy_111 rfl (n := 112) rfl ?_
                  refine j_ldc C dX7_copy_112 kc_X7_67 (n := 114) rfl ?_
                  refine j_bnd (fun r21 q20 => ?_)
                  refine j_ci C (run_V C mi_X7_finding lm_X7_68 iv_X7_finding ⟨Nat.le_of_ble_eq_true rfl, Nat.le_of_ble_eq_true rfl⟩ (m_X7_finding _ _ _ q20) (cX_0 g _) rfl rfl rfl rfl (Nat.le_of_ble_eq_true rfl) dX7_copy_114) (n := 117) rfl ?_
                  exact j_retP C dX7_copy_117
                · refine j_aload_n C dX7_copy_95 rfl (n := 96) rfl ?_
                  refine gf_X7_54 C 0 (cX_0 g _) rfl dX7_copy_96 (n := 99) rfl ?_
                  refine j_iload_n C dX7_copy_99 rfl (n := 100) rfl ?_
                  refine j_aald C 46 2 (cX_46 g _) rfl (by decide) (b := g.2.1 47) rfl dX7_copy_100 rfl ?_
                  refine j_iload C dX7_copy_101 rfl (n := 103) rfl ?_
                  refine j_iload C dX7_copy_103 rfl (n := 105) rfl ?_
                  refine j_cz C (run_V C mi_X4_hasRun lm_X7_296 iv_X4_hasRun ⟨Nat.le_of_ble_eq_true rfl, Nat.le_of_ble_eq_true rfl⟩ (m_X4_hasRun_47 _ _ _ _) (cX_47 g _) rfl rfl rfl rfl (Nat.le_of_ble_eq_true rfl) dX7_copy_105) (n := 108) rfl (fun b23 => ?_)
                  refine j_if_ne C dX7_copy_108 (tgt := 118) (n := 111) (by decide) rfl (fun q24 => ?_) (fun q24 => ?_)
                  · refine j_aload_n C dX7_copy_118 rfl (n := 119) rfl ?_
                    refine gf_X7_54 C 0 (cX_0 g _) rfl dX7_copy_119 (n := 122) rfl ?_
                    refine j_iload_n C dX7_copy_122 rfl (n := 123) rfl ?_
                    refine j_aald C 46 2 (cX_46 g _) rfl (by decide) (b := g.2.1 49) rfl dX7_copy_123 rfl ?_
                    refine gf_X7_299 C 49 (cX_49 g _) rfl dX7_copy_124 (n := 127) rfl ?_
                    refine j_iload_n C dX7_copy_127 rfl (n := 128) rfl ?_
                    refine j_aload_n C dX7_copy_128 rfl (n := 129) rfl ?_
                    refine gf_X7_54 C 0 (cX_0 g _) rfl dX7_copy_129 (n := 132) rfl ?_
                    refine j_iload_n C dX7_copy_132 rfl (n := 133) rfl ?_
                    refine j_aald C 46 2 (cX_46 g _) rfl (by decide) (b := g.2.1 47) rfl dX7_copy_133 rfl ?_
                    refine gf_X7_299 C 47 (cX_47 g _) rfl dX7_copy_134 (n := 137) rfl ?_
                    refine j_iload C dX7_copy_137 rfl (n := 139) rfl ?_
                    refine j_iload C dX7_copy_139 rfl (n := 141) rfl ?_
                    refine j_copy C 50 48 (cX_50 g _) (cX_48 g _) (wX_48 g _ _) lm_X7_302 (Nat.le_of_ble_eq_true rfl) (Nat.le_of_ble_eq_true rfl) dX7_copy_141 (n := 144) rfl ?_
                    refine j_iload C dX7_copy_144 rfl (n := 146) rfl ?_
                    exact j_retP C dX7_copy_146
                  · refine j_aload_n C dX7_copy_111 rfl (n := 112) rfl ?_
                    refine j_ldc C dX7_copy_112 kc_X7_67 (n := 114) rfl ?_
                    refine j_bnd (fun r26 q25 => ?_)
                    refine j_ci C (run_V C mi_X7_finding lm_X7_68 iv_X7_finding ⟨Nat.le_of_ble_eq_true rfl, Nat.le_of_ble_eq_true rfl⟩ (m_X7_finding _ _ _ q25) (cX_0 g _) rfl rfl rfl rfl (Nat.le_of_ble_eq_true rfl) dX7_copy_114) (n := 117) rfl ?_
                    exact j_retP C dX7_copy_117
              · refine j_aload_n C dX7_copy_73 rfl (n := 74) rfl ?_
                refine j_ldc C dX7_copy_74 kc_X7_201 (n := 76) rfl ?_
                refine j_bnd (fun r29 q28 => ?_)
                refine j_ci C (run_V C mi_X7_finding lm_X7_68 iv_X7_finding ⟨Nat.le_of_ble_eq_true rfl, Nat.le_of_ble_eq_true rfl⟩ (m_X7_finding _ _ _ q28) (cX_0 g _) rfl rfl rfl rfl (Nat.le_of_ble_eq_true rfl) dX7_copy_76) (n := 79) rfl ?_
                exact j_retP C dX7_copy_79
            · refine j_aload_n C dX7_copy_45 rfl (n := 46) rfl ?_
              refine j_ldc C dX7_copy_46 kc_X7_236 (n := 48) rfl ?_
              refine j_bnd (fun r32 q31 => ?_)
              refine j_ci C (run_V C mi_X7_finding lm_X7_68 iv_X7_finding ⟨Nat.le_of_ble_eq_true rfl, Nat.le_of_ble_eq_true rfl⟩ (m_X7_finding _ _ _ q31) (cX_0 g _) rfl rfl rfl rfl (Nat.le_of_ble_eq_true rfl) dX7_copy_48) (n := 51) rfl ?_
              exact j_retP C dX7_copy_51
          · rw [shc_1]
            refine j_aald C 46 2 (cX_46 g _) rfl (by decide) (b := g.2.1 49) rfl dX7_copy_38 rfl ?_
            refine j_cz C (run_V C mi_X4_isMissing lm_X7_232 iv_X4_isMissing ⟨Nat.le_of_ble_eq_true rfl, Nat.le_of_ble_eq_true rfl⟩ (m_X4_isMissing_49 _ _) (cX_49 g _) rfl rfl rfl rfl (Nat.le_of_ble_eq_true rfl) dX7_copy_39) (n := 42) rfl (fun b15 => ?_)
            refine j_if_eq C dX7_copy_42 (tgt := 52) (n := 45) (by decide) rfl (fun q16 => ?_) (fun q16 => ?_)
            · refine j_aload_n C dX7_copy_52 rfl (n := 53) rfl ?_
              refine gf_X7_54 C 0 (cX_0 g _) rfl dX7_copy_53 (n := 56) rfl ?_
              refine j_iload_n C dX7_copy_56 rfl (n := 57) rfl ?_
              refine j_aald C 46 2 (cX_46 g _) rfl (by decide) (b := g.2.1 49) rfl dX7_copy_57 rfl ?_
              refine gf_X7_293 C 49 (cX_49 g _) rfl dX7_copy_58 (n := 61) rfl ?_
              refine j_aload_n C dX7_copy_61 rfl (n := 62) rfl ?_
              refine gf_X7_54 C 0 (cX_0 g _) rfl dX7_copy_62 (n := 65) rfl ?_
              refine j_iload_n C dX7_copy_65 rfl (n := 66) rfl ?_
              refine j_aald C 46 2 (cX_46 g _) rfl (by decide) (b := g.2.1 49) rfl dX7_copy_66 rfl ?_
              refine gf_X7_293 C 49 (cX_49 g _) rfl dX7_copy_67 (n := 70) rfl ?_
              refine j_icmp_eq C dX7_copy_70 (tgt := 80) (n := 73) (by decide) rfl (fun q17 => ?_) (fun q17 => ?_)
              · refine j_aload_n C dX7_copy_80 rfl (n := 81) rfl ?_
                refine gf_X7_54 C 0 (cX_0 g _) rfl dX7_copy_81 (n := 84) rfl ?_
                refine j_iload_n C dX7_copy_84 rfl (n := 85) rfl ?_
                refine j_aald C 46 2 (cX_46 g _) rfl (by decide) (b := g.2.1 49) rfl dX7_copy_85 rfl ?_
                refine j_iload_n C dX7_copy_86 rfl (n := 87) rfl ?_
                refine j_iload C dX7_copy_87 rfl (n := 89) rfl ?_
                refine j_cz C (run_V C mi_X4_hasRun lm_X7_296 iv_X4_hasRun ⟨Nat.le_of_ble_eq_true rfl, Nat.le_of_ble_eq_true rfl⟩ (m_X4_hasRun_49 _ _ _ _) (cX_49 g _) rfl rfl rfl rfl (Nat.le_of_ble_eq_true rfl) dX7_copy_89) (n := 92) rfl (fun b18 => ?_)
                refine j_if_eq C dX7_copy_92 (tgt := 111) (n := 95) (by decide) rfl (fun q19 => ?_) (fun q19 => ?_)
                · refine j_aload_n C dX7_copy_111 rfl (n := 112) rfl ?_
                  refine j_ldc C dX7_copy_112 kc_X7_67 (n := 114) rfl ?_
                  refine j_bnd (fun r21 q20 => ?_)
                  refine j_ci C (run_V C mi_X7_finding lm_X7_68 iv_X7_finding ⟨Nat.le_of_ble_eq_true rfl, Nat.le_of_ble_eq_true rfl⟩ (m_X7_finding _ _ _ q20) (cX_0 g _) rfl rfl rfl rfl (Nat.le_of_ble_eq_true rfl) dX7_copy_114) (n := 117) rfl ?_
                  exact j_retP C dX7_copy_117
                · refine j_aload_n C dX7_copy_95 rfl (n := 96) rfl ?_
                  refine gf_X7_54 C 0 (cX_0 g _) rfl dX7_copy_96 (n := 99) rfl ?_
                  refine j_iload_n C dX7_copy_99 rfl (n := 100) rfl ?_
                  refine j_aald C 46 2 (cX_46 g _) rfl (by decide) (b := g.2.1 49) rfl dX7_copy_100 rfl ?_
                  refine j_iload C dX7_copy_101 rfl (n := 103) rfl ?_
                  refine j_iload C dX7_copy_103 rfl (n := 105) rfl ?_
                  refine j_cz C (run_V C mi_X4_hasRun lm_X7_296 iv_X4_hasRun ⟨Nat.le_of_ble_eq_true rfl, Nat.le_of_ble_eq_true rfl⟩ (m_X4_hasRun_49 _ _ _ _) (cX_49 g _) rfl rfl rfl rfl (Nat.le_of_ble_eq_true rfl) dX7_copy_105) (n := 108) rfl (fun b23 => ?_)
                  refine j_if_ne C dX7_copy_108 (tgt := 118) (n := 111) (by decide) rfl (fun q24 => ?_) (fun q24 => ?_)
                  · refine j_aload_n C dX7_copy_118 rfl (n := 119) rfl ?_
                    refine gf_X7_54 C 0 (cX_0 g _) rfl dX7_copy_119 (n := 122) rfl ?_
                    refine j_iload_n C dX7_copy_122 rfl (n := 123) rfl ?_
                    refine j_aald C 46 2 (cX_46 g _) rfl (by decide) (b := g.2.1 49) rfl dX7_copy_123 rfl ?_
                    refine gf_X7_299 C 49 (cX_49 g _) rfl dX7_copy_124 (n := 127) rfl ?_
                    refine j_iload_n C dX7_copy_127 rfl (n := 128) rfl ?_
                    refine j_aload_n C dX7_copy_128 rfl (n := 129) rfl ?_
                    refine gf_X7_54 C 0 (cX_0 g _) rfl dX7_copy_129 (n := 132) rfl ?_
                    refine j_iload_n C dX7_copy_132 rfl (n := 133) rfl ?_
                    refine j_aald C 46 2 (cX_46 g _) rfl (by decide) (b := g.2.1 49) rfl dX7_copy_133 rfl ?_
                    refine gf_X7_299 C 49 (cX_49 g _) rfl dX7_copy_134 (n := 137) rfl ?_
                    refine j_iload C dX7_copy_137 rfl (n := 139) rfl ?_
                    refine j_iload C dX7_copy_139 rfl (n := 141) rfl ?_
                    refine j_copy C 50 50 (cX_50 g _) (cX_50 g _) (wX_50 g _ _) lm_X7_302 (Nat.le_of_ble_eq_true rfl) (Nat.le_of_ble_eq_true rfl) dX7_copy_141 (n := 144) rfl ?_
                    refine j_iload C dX7_copy_144 rfl (n := 146) rfl ?_
                    exact j_retP C dX7_copy_146
                  · refine j_aload_n C dX7_copy_111 rfl (n := 112) rfl ?_
                    refine j_ldc C dX7_copy_112 kc_X7_67 (n := 114) rfl ?_
                    refine j_bnd (fun r26 q25 => ?_)
                    refine j_ci C (run_V C mi_X7_finding lm_X7_68 iv_X7_finding ⟨Nat.le_of_ble_eq_true rfl, Nat.le_of_ble_eq_true rfl⟩ (m_X7_finding _ _ _ q25) (cX_0 g _) rfl rfl rfl rfl (Nat.le_of_ble_eq_true rfl) dX7_copy_114) (n := 117) rfl ?_
                    exact j_retP C dX7_copy_117
              · refine j_aload_n C dX7_copy_73 rfl (n := 74) rfl ?_
                refine j_ldc C dX7_copy_74 kc_X7_201 (n := 76) rfl ?_
                refine j_bnd (fun r29 q28 => ?_)
                refine j_ci C (run_V C mi_X7_finding lm_X7_68 iv_X7_finding ⟨Nat.le_of_ble_eq_true rfl, Nat.le_of_ble_eq_true rfl⟩ (m_X7_finding _ _ _ q28) (cX_0 g _) rfl rfl rfl rfl (Nat.le_of_ble_eq_true rfl) dX7_copy_76) (n := 79) rfl ?_
                exact j_retP C dX7_copy_79
            · refine j_aload_n C dX7_copy_45 rfl (n := 46) rfl ?_
              refine j_ldc C dX7_copy_46 kc_X7_236 (n := 48) rfl ?_
              refine j_bnd (fun r32 q31 => ?_)
              refine j_ci C (run_V C mi_X7_finding lm_X7_68 iv_X7_finding ⟨Nat.le_of_ble_eq_true rfl, Nat.le_of_ble_eq_true rfl⟩ (m_X7_finding _ _ _ q31) (cX_0 g _) rfl rfl rfl rfl (Nat.le_of_ble_eq_true rfl) dX7_copy_48) (n := 51) rfl ?_
              exact j_retP C dX7_copy_51
          · rw [shc_2]
            refine j_aald C 46 2 (cX_46 g _) rfl (by decide) (b := g.2.1 51) rfl dX7_copy_38 rfl ?_
            refine j_cz C (run_V C mi_X4_isMissing lm_X7_232 iv_X4_isMissing ⟨Nat.le_of_ble_eq_true rfl, Nat.le_of_ble_eq_true rfl⟩ (m_X4_isMissing_51 _ _) (cX_51 g _) rfl rfl rfl rfl (Nat.le_of_ble_eq_true rfl) dX7_copy_39) (n := 42) rfl (fun b15 => ?_)
            refine j_if_eq C dX7_copy_42 (tgt := 52) (n := 45) (by decide) rfl (fun q16 => ?_) (fun q16 => ?_)
            · refine j_aload_n C dX7_copy_52 rfl (n := 53) rfl ?_
              refine gf_X7_54 C 0 (cX_0 g _) rfl dX7_copy_53 (n := 56) rfl ?_
              refine j_iload_n C dX7_copy_56 rfl (n := 57) rfl ?_
              refine j_aald C 46 2 (cX_46 g _) rfl (by decide) (b := g.2.1 49) rfl dX7_copy_57 rfl ?_
              refine gf_X7_293 C 49 (cX_49 g _) rfl dX7_copy_58 (n := 61) rfl ?_
              refine j_aload_n C dX7_copy_61 rfl (n := 62) rfl ?_
              refine gf_X7_54 C 0 (cX_0 g _) rfl dX7_copy_62 (n := 65) rfl ?_
              refine j_iload_n C dX7_copy_65 rfl (n := 66) rfl ?_
              refine j_aald C 46 2 (cX_46 g _) rfl (by decide) (b := g.2.1 51) rfl dX7_copy_66 rfl ?_
              refine gf_X7_293 C 51 (cX_51 g _) rfl dX7_copy_67 (n := 70) rfl ?_
              refine j_icmp_eq C dX7_copy_70 (tgt := 80) (n := 73) (by decide) rfl (fun q17 => ?_) (fun q17 => ?_)
              · refine j_aload_n C dX7_copy_80 rfl (n := 81) rfl ?_
                refine gf_X7_54 C 0 (cX_0 g _) rfl dX7_copy_81 (n := 84) rfl ?_
                refine j_iload_n C dX7_copy_84 rfl (n := 85) rfl ?_
                refine j_aald C 46 2 (cX_46 g _) rfl (by decide) (b := g.2.1 49) rfl dX7_copy_85 rfl ?_
                refine j_iload_n C dX7_copy_86 rfl (n := 87) rfl ?_
                refine j_iload C dX7_copy_87 rfl (n := 89) rfl ?_
                refine j_cz C (run_V C mi_X4_hasRun lm_X7_296 iv_X4_hasRun ⟨Nat.le_of_ble_eq_true rfl, Nat.le_of_ble_eq_true rfl⟩ (m_X4_hasRun_49 _ _ _ _) (cX_49 g _) rfl rfl rfl rfl (Nat.le_of_ble_eq_true rfl) dX7_copy_89) (n := 92) rfl (fun b18 => ?_)
                refine j_if_eq C dX7_copy_92 (tgt := 111) (n := 95) (by decide) rfl (fun q19 => ?_) (fun q19 => ?_)
                · refine j_aload_n C dX7_copy_111 rfl (n := 112) rfl ?_
                  refine j_ldc C dX7_copy_112 kc_X7_67 (n := 114) rfl ?_
                  refine j_bnd (fun r21 q20 => ?_)
                  refine j_ci C (run_V C mi_X7_finding lm_X7_68 iv_X7_finding ⟨Nat.le_of_ble_eq_true rfl, Nat.le_of_ble_eq_true rfl⟩ (m_X7_finding _ _ _ q20) (cX_0 g _) rfl rfl rfl rfl (Nat.le_of_ble_eq_true rfl) dX7_copy_114) (n := 117) rfl ?_
                  exact j_retP C dX7_copy_117
                · refine j_aload_n C dX7_copy_95 rfl (n := 96) rfl ?_
                  refine gf_X7_54 C 0 (cX_0 g _) rfl dX7_copy_96 (n := 99) rfl ?_
                  refine j_iload_n C dX7_copy_99 rfl (n := 100) rfl ?_
                  refine j_aald C 46 2 (cX_46 g _) rfl (by decide) (b := g.2.1 51) rfl dX7_copy_100 rfl ?_
                  refine j_iload C dX7_copy_101 rfl (n := 103) rfl ?_
                  refine j_iload C dX7_copy_103 rfl (n := 105) rfl ?_
                  refine j_cz C (run_V C mi_X4_hasRun lm_X7_296 iv_X4_hasRun ⟨Nat.le_of_ble_eq_true rfl, Nat.le_of_ble_eq_true rfl⟩ (m_X4_hasRun_51 _ _ _ _) (cX_51 g _) rfl rfl rfl rfl (Nat.le_of_ble_eq_true rfl) dX7_copy_105) (n := 108) rfl (fun b23 => ?_)
                  refine j_if_ne C dX7_copy_108 (tgt := 118) (n := 111) (by decide) rfl (fun q24 => ?_) (fun q24 => ?_)
                  · refine j_aload_n C dX7_copy_118 rfl (n := 119) rfl ?_
                    refine gf_X7_54 C 0 (cX_0 g _) rfl dX7_copy_119 (n := 122) rfl ?_
                    refine j_iload_n C dX7_copy_122 rfl (n := 123) rfl ?_
                    refine j_aald C 46 2 (cX_46 g _) rfl (by decide) (b := g.2.1 49) rfl dX7_copy_123 rfl ?_
                    refine gf_X7_299 C 49 (cX_49 g _) rfl dX7_copy_124 (n := 127) rfl ?_
                    refine j_iload_n C dX7_copy_127 rfl (n := 128) rfl ?_
                    refine j_aload_n C dX7_copy_128 rfl (n := 129) rfl ?_
                    refine gf_X7_54 C 0 (cX_0 g _) rfl dX7_copy_129 (n := 132) rfl ?_
                    refine j_iload_n C dX7_copy_132 rfl (n := 133) rfl ?_
                    refine j_aald C 46 2 (cX_46 g _) rfl (by decide) (b := g.2.1 51) rfl dX7_copy_133 rfl ?_
                    refine gf_X7_299 C 51 (cX_51 g _) rfl dX7_copy_134 (n := 137) rfl ?_
                    refine j_iload C dX7_copy_137 rfl (n := 139) rfl ?_
                    refine j_iload C dX7_copy_139 rfl (n := 141) rfl ?_
                    refine j_copy C 50 52 (cX_50 g _) (cX_52 g _) (wX_52 g _ _) lm_X7_302 (Nat.le_of_ble_eq_true rfl) (Nat.le_of_ble_eq_true rfl) dX7_copy_141 (n := 144) rfl ?_
                    refine j_iload C dX7_copy_144 rfl (n := 146) rfl ?_
                    exact j_retP C dX7_copy_146
                  · refine j_aload_n C dX7_copy_111 rfl (n := 112) rfl ?_
                    refine j_ldc C dX7_copy_112 kc_X7_67 (n := 114) rfl ?_
                    refine j_bnd (fun r26 q25 => ?_)
                    refine j_ci C (run_V C mi_X7_finding lm_X7_68 iv_X7_finding ⟨Nat.le_of_ble_eq_true rfl, Nat.le_of_ble_eq_true rfl⟩ (m_X7_finding _ _ _ q25) (cX_0 g _) rfl rfl rfl rfl (Nat.le_of_ble_eq_true rfl) dX7_copy_114) (n := 117) rfl ?_
                    exact j_retP C dX7_copy_117
              · refine j_aload_n C dX7_copy_73 rfl (n := 74) rfl ?_
                refine j_ldc C dX7_copy_74 kc_X7_201 (n := 76) rfl ?_
                refine j_bnd (fun r29 q28 => ?_)
                refine j_ci C (run_V C mi_X7_finding lm_X7_68 iv_X7_finding ⟨Nat.le_of_ble_eq_true rfl, Nat.le_of_ble_eq_true rfl⟩ (m_X7_finding _ _ _ q28) (cX_0 g _) rfl rfl rfl rfl (Nat.le_of_ble_eq_true rfl) dX7_copy_76) (n := 79) rfl ?_
                exact j_retP C dX7_copy_79
            · refine j_aload_n C dX7_copy_45 rfl (n := 46) rfl ?_
              refine j_ldc C dX7_copy_46 kc_X7_236 (n := 48) rfl ?_
              refine j_bnd (fun r32 q31 => ?_)
              refine j_ci C (run_V C mi_X7_finding lm_X7_68 iv_X7_finding ⟨Nat.le_of_ble_eq_true rfl, Nat.le_of_ble_eq_true rfl⟩ (m_X7_finding _ _ _ q31) (cX_0 g _) rfl rfl rfl rfl (Nat.le_of_ble_eq_true rfl) dX7_copy_48) (n := 51) rfl ?_
              exact j_retP C dX7_copy_51
          · rw [shc_3]
            refine j_aald C 46 2 (cX_46 g _) rfl (by decide) (b := g.2.1 53) rfl dX7_copy_38 rfl ?_
            refine j_cz C (run_V C mi_X4_isMissing lm_X7_232 iv_X4_isMissing ⟨Nat.le_of_ble_eq_true rfl, Nat.le_of_ble_eq_true rfl⟩ (m_X4_isMissing_53 _ _) (cX_53 g _) rfl rfl rfl rfl (Nat.le_of_ble_eq_true rfl) dX7_copy_39) (n := 42) rfl (fun b15 => ?_)
            refine j_if_eq C dX7_copy_42 (tgt := 52) (n := 45) (by decide) rfl (fun q16 => ?_) (fun q16 => ?_)
            · refine j_aload_n C dX7_copy_52 rfl (n := 53) rfl ?_
              refine gf_X7_54 C 0 (cX_0 g _) rfl dX7_copy_53 (n := 56) rfl ?_
              refine j_iload_n C dX7_copy_56 rfl (n := 57) rfl ?_
              refine j_aald C 46 2 (cX_46 g _) rfl (by decide) (b := g.2.1 49) rfl dX7_copy_57 rfl ?_
              refine gf_X7_293 C 49 (cX_49 g _) rfl dX7_copy_58 (n := 61) rfl ?_
              refine j_aload_n C dX7_copy_61 rfl (n := 62) rfl ?_
              refine gf_X7_54 C 0 (cX_0 g _) rfl dX7_copy_62 (n := 65) rfl ?_
              refine j_iload_n C dX7_copy_65 rfl (n := 66) rfl ?_
              refine j_aald C 46 2 (cX_46 g _) rfl (by decide) (b := g.2.1 53) rfl dX7_copy_66 rfl ?_
              refine gf_X7_293 C 53 (cX_53 g _) rfl dX7_copy_67 (n := 70) rfl ?_
              refine j_icmp_eq C dX7_copy_70 (tgt := 80) (n := 73) (by decide) rfl (fun q17 => ?_) (fun q17 => ?_)
              · refine j_aload_n C dX7_copy_80 rfl (n := 81) rfl ?_
                refine gf_X7_54 C 0 (cX_0 g _) rfl dX7_copy_81 (n := 84) rfl ?_
                refine j_iload_n C dX7_copy_84 rfl (n := 85) rfl ?_
                refine j_aald C 46 2 (cX_46 g _) rfl (by decide) (b := g.2.1 49) rfl dX7_copy_85 rfl ?_
                refine j_iload_n C dX7_copy_86 rfl (n := 87) rfl ?_
                refine j_iload C dX7_copy_87 rfl (n := 89) rfl ?_
                refine j_cz C (run_V C mi_X4_hasRun lm_X7_296 iv_X4_hasRun ⟨Nat.le_of_ble_eq_true rfl, Nat.le_of_ble_eq_true rfl⟩ (m_X4_hasRun_49 _ _ _ _) (cX_49 g _) rfl rfl rfl rfl (Nat.le_of_ble_eq_true rfl) dX7_copy_89) (n := 92) rfl (fun b18 => ?_)
                refine j_if_eq C dX7_copy_92 (tgt := 111) (n := 95) (by decide) rfl (fun q19 => ?_) (fun q19 => ?_)
                · refine j_aload_n C dX7_copy_111 rfl (n := 112) rfl ?_
                  refine j_ldc C dX7_copy_112 kc_X7_67 (n := 114) rfl ?_
                  refine j_bnd (fun r21 q20 => ?_)
                  refine j_ci C (run_V C mi_X7_finding lm_X7_68 iv_X7_finding ⟨Nat.le_of_ble_eq_true rfl, Nat.le_of_ble_eq_true rfl⟩ (m_X7_finding _ _ _ q20) (cX_0 g _) rfl rfl rfl rfl (Nat.le_of_ble_eq_true rfl) dX7_copy_114) (n := 117) rfl ?_
                  exact j_retP C dX7_copy_117
                · refine j_aload_n C dX7_copy_95 rfl (n := 96) rfl ?_
                  refine gf_X7_54 C 0 (cX_0 g _) rfl dX7_copy_96 (n := 99) rfl ?_
                  refine j_iload_n C dX7_copy_99 rfl (n := 100) rfl ?_
                  refine j_aald C 46 2 (cX_46 g _) rfl (by decide) (b := g.2.1 53) rfl dX7_copy_100 rfl ?_
                  refine j_iload C dX7_copy_101 rfl (n := 103) rfl ?_
                  refine j_iload C dX7_copy_103 rfl (n := 105) rfl ?_
                  refine j_cz C (run_V C mi_X4_hasRun lm_X7_296 iv_X4_hasRun ⟨Nat.le_of_ble_eq_true rfl, Nat.le_of_ble_eq_true rfl⟩ (m_X4_hasRun_53 _ _ _ _) (cX_53 g _) rfl rfl rfl rfl (Nat.le_of_ble_eq_true rfl) dX7_copy_105) (n := 108) rfl (fun b23 => ?_)
                  refine j_if_ne C dX7_copy_108 (tgt := 118) (n := 111) (by decide) rfl (fun q24 => ?_) (fun q24 => ?_)
                  · refine j_aload_n C dX7_copy_118 rfl (n := 119) rfl ?_
                    refine gf_X7_54 C 0 (cX_0 g _) rfl dX7_copy_119 (n := 122) rfl ?_
                    refine j_iload_n C dX7_copy_122 rfl (n := 123) rfl ?_
                    refine j_aald C 46 2 (cX_46 g _) rfl (by decide) (b := g.2.1 49) rfl dX7_copy_123 rfl ?_
                    refine gf_X7_299 C 49 (cX_49 g _) rfl dX7_copy_124 (n := 127) rfl ?_
                    refine j_iload_n C dX7_copy_127 rfl (n := 128) rfl ?_
                    refine j_aload_n C dX7_copy_128 rfl (n := 129) rfl ?_
                    refine gf_X7_54 C 0 (cX_0 g _) rfl dX7_copy_129 (n := 132) rfl ?_
                    refine j_iload_n C dX7_copy_132 rfl (n := 133) rfl ?_
                    refine j_aald C 46 2 (cX_46 g _) rfl (by decide) (b := g.2.1 53) rfl dX7_copy_133 rfl ?_
                    refine gf_X7_299 C 53 (cX_53 g _) rfl dX7_copy_134 (n := 137) rfl ?_
                    refine j_iload C dX7_copy_137 rfl (n := 139) rfl ?_
                    refine j_iload C dX7_copy_139 rfl (n := 141) rfl ?_
                    refine j_copy C 50 54 (cX_50 g _) (cX_54 g _) (wX_54 g _ _) lm_X7_302 (Nat.le_of_ble_eq_true rfl) (Nat.le_of_ble_eq_true rfl) dX7_copy_141 (n := 144) rfl ?_
                    refine j_iload C dX7_copy_144 rfl (n := 146) rfl ?_
                    exact j_retP C dX7_copy_146
                  · refine j_aload_n C dX7_copy_111 rfl (n := 112) rfl ?_
                    refine j_ldc C dX7_copy_112 kc_X7_67 (n := 114) rfl ?_
                    refine j_bnd (fun r26 q25 => ?_)
                    refine j_ci C (run_V C mi_X7_finding lm_X7_68 iv_X7_finding ⟨Nat.le_of_ble_eq_true rfl, Nat.le_of_ble_eq_true rfl⟩ (m_X7_finding _ _ _ q25) (cX_0 g _) rfl rfl rfl rfl (Nat.le_of_ble_eq_true rfl) dX7_copy_114) (n := 117) rfl ?_
                    exact j_retP C dX7_copy_117
              · refine j_aload_n C dX7_copy_73 rfl (n := 74) rfl ?_
                refine j_ldc C dX7_copy_74 kc_X7_201 (n := 76) rfl ?_
                refine j_bnd (fun r29 q28 => ?_)
                refine j_ci C (run_V C mi_X7_finding lm_X7_68 iv_X7_finding ⟨Nat.le_of_ble_eq_true rfl, Nat.le_of_ble_eq_true rfl⟩ (m_X7_finding _ _ _ q28) (cX_0 g _) rfl rfl rfl rfl (Nat.le_of_ble_eq_true rfl) dX7_copy_76) (n := 79) rfl ?_
                exact j_retP C dX7_copy_79
            · refine j_aload_n C dX7_copy_45 rfl (n := 46) rfl ?_
              refine j_ldc C dX7_copy_46 kc_X7_236 (n := 48) rfl ?_
              refine j_bnd (fun r32 q31 => ?_)
              refine j_ci C (run_V C mi_X7_finding lm_X7_68 iv_X7_finding ⟨Nat.le_of_ble_eq_true rfl, Nat.le_of_ble_eq_true rfl⟩ (m_X7_finding _ _ _ q31) (cX_0 g _) rfl rfl rfl rfl (Nat.le_of_ble_eq_true rfl) dX7_copy_48) (n := 51) rfl ?_
              exact j_retP C dX7_copy_51
      · rw [shc_2]
        refine j_aald C 46 2 (cX_46 g _) rfl (by decide) (b := g.2.1 51) rfl dX7_copy_26 rfl ?_
        refine j_cz C (run_V C mi_X4_isMissing lm_X7_232 iv_X4_isMissing ⟨Nat.le_of_ble_eq_true rfl, Nat.le_of_ble_eq_true rfl⟩ (m_X4_isMissing_51 _ _) (cX_51 g _) rfl rfl rfl rfl (Nat.le_of_ble_eq_true rfl) dX7_copy_27) (n := 30) rfl (fun b9 => ?_)
        refine j_if_ne C dX7_copy_30 (tgt := 45) (n := 33) (by decide) rfl (fun q10 => ?_) (fun q10 => ?_)
        · refine j_aload_n C dX7_copy_45 rfl (n := 46) rfl ?_
          refine j_ldc C dX7_copy_46 kc_X7_236 (n := 48) rfl ?_
          refine j_bnd (fun r12 q11 => ?_)
          refine j_ci C (run_V C mi_X7_finding lm_X7_68 iv_X7_finding ⟨Nat.le_of_ble_eq_true rfl, Nat.le_of_ble_eq_true rfl⟩ (m_X7_finding _ _ _ q11) (cX_0 g _) rfl rfl rfl rfl (Nat.le_of_ble_eq_true rfl) dX7_copy_48) (n := 51) rfl ?_
          exact j_retP C dX7_copy_51
        · refine j_aload_n C dX7_copy_33 rfl (n := 34) rfl ?_
          refine gf_X7_54 C 0 (cX_0 g _) rfl dX7_copy_34 (n := 37) rfl ?_
          refine j_iload_n C dX7_copy_37 rfl (n := 38) rfl ?_
          refine j_chk (fun q14 => ?_)
          rcases inR_4 q14 with rfl | rfl | rfl | rfl
          · rw [shc_0]
            refine j_aald C 46 2 (cX_46 g _) rfl (by decide) (b := g.2.1 47) rfl dX7_copy_38 rfl ?_
            refine j_cz C (run_V C mi_X4_isMissing lm_X7_232 iv_X4_isMissing ⟨Nat.le_of_ble_eq_true rfl, Nat.le_of_ble_eq_true rfl⟩ (m_X4_isMissing_47 _ _) (cX_47 g _) rfl rfl rfl rfl (Nat.le_of_ble_eq_true rfl) dX7_copy_39) (n := 42) rfl (fun b15 => ?_)
            refine j_if_eq C dX7_copy_42 (tgt := 52) (n := 45) (by decide) rfl (fun q16 => ?_) (fun q16 => ?_)
            · refine j_aload_n C dX7_copy_52 rfl (n := 53) rfl ?_
              refine gf_X7_54 C 0 (cX_0 g _) rfl dX7_copy_53 (n := 56) rfl ?_
              refine j_iload_n C dX7_copy_56 rfl (n := 57) rfl ?_
              refine j_aald C 46 2 (cX_46 g _) rfl (by decide) (b := g.2.1 51) rfl dX7_copy_57 rfl ?_
              refine gf_X7_293 C 51 (cX_51 g _) rfl dX7_copy_58 (n := 61) rfl ?_
              refine j_aload_n C dX7_copy_61 rfl (n := 62) rfl ?_
              refine gf_X7_54 C 0 (cX_0 g _) rfl dX7_copy_62 (n := 65) rfl ?_
              refine j_iload_n C dX7_copy_65 rfl (n := 66) rfl ?_
              refine j_aald C 46 2 (cX_46 g _) rfl (by decide) (b := g.2.1 47) rfl dX7_copy_66 rfl ?_
              refine gf_X7_293 C 47 (cX_47 g _) rfl dX7_copy_67 (n := 70) rfl ?_
              refine j_icmp_eq C dX7_copy_70 (tgt := 80) (n := 73) (by decide) rfl (fun q17 => ?_) (fun q17 => ?_)
              · refine j_aload_n C dX7_copy_80 rfl (n := 81) rfl ?_
                refine gf_X7_54 C 0 (cX_0 g _) rfl dX7_copy_81 (n := 84) rfl ?_
                refine j_iload_n C dX7_copy_84 rfl (n := 85) rfl ?_
                refine j_aald C 46 2 (cX_46 g _) rfl (by decide) (b := g.2.1 51) rfl dX7_copy_85 rfl ?_
                refine j_iload_n C dX7_copy_86 rfl (n := 87) rfl ?_
                refine j_iload C dX7_copy_87 rfl (n := 89) rfl ?_
                refine j_cz C (run_V C mi_X4_hasRun lm_X7_296 iv_X4_hasRun ⟨Nat.le_of_ble_eq_true rfl, Nat.le_of_ble_eq_true rfl⟩ (m_X4_hasRun_51 _ _ _ _) (cX_51 g _) rfl rfl rfl rfl (Nat.le_of_ble_eq_true rfl) dX7_copy_89) (n := 92) rfl (fun b18 => ?_)
                refine j_if_eq C dX7_copy_92 (tgt := 111) (n := 95) (by decide) rfl (fun q19 => ?_) (fun q19 => ?_)
                · refine j_aload_n C dX7_copy_111 rfl (n := 112) rfl ?_
                  refine j_ldc C dX7_copy_112 kc_X7_67 (n := 114) rfl ?_
                  refine j_bnd (fun r21 q20 => ?_)
                  refine j_ci C (run_V C mi_X7_finding lm_X7_68 iv_X7_finding ⟨Nat.le_of_ble_eq_true rfl, Nat.le_of_ble_eq_true rfl⟩ (m_X7_finding _ _ _ q20) (cX_0 g _) rfl rfl rfl rfl (Nat.le_of_ble_eq_true rfl) dX7_copy_114) (n := 117) rfl ?_
                  exact j_retP C dX7_copy_117
                · refine j_aload_n C dX7_copy_95 rfl (n := 96) rfl ?_
                  refine gf_X7_54 C 0 (cX_0 g _) rfl dX7_copy_96 (n := 99) rfl ?_
                  refine j_iload_n C dX7_copy_99 rfl (n := 100) rfl ?_
                  refine j_aald C 46 2 (cX_46 g _) rfl (by decide) (b := g.2.1 47) rfl dX7_copy_100 rfl ?_
                  refine j_iload C dX7_copy_101 rfl (n := 103) rfl ?_
                  refine j_iload C dX7_copy_103 rfl (n := 105) rfl ?_
                  refine j_cz C (run_V C mi_X4_hasRun lm_X7_296 iv_X4_hasRun ⟨Nat.le_of_ble_eq_true rfl, Nat.le_of_ble_eq_true rfl⟩ (m_X4_hasRun_47 _ _ _ _) (cX_47 g _) rfl rfl rfl rfl (Nat.le_of_ble_eq_true rfl) dX7_copy_105) (n := 108) rfl (fun b23 => ?_)
                  refine j_if_ne C dX7_copy_108 (tgt := 118) (n := 111) (by decide) rfl (fun q24 => ?_) (fun q24 => ?_)
                  · refine j_aload_n C dX7_copy_118 rfl (n := 119) rfl ?_
                    refine gf_X7_54 C 0 (cX_0 g _) rfl dX7_copy_119 (n := 122) rfl ?_
                    refine j_iload_n C dX7_copy_122 rfl (n := 123) rfl ?_
                    refine j_aald C 46 2 (cX_46 g _) rfl (by decide) (b := g.2.1 51) rfl dX7_copy_123 rfl ?_
                    refine gf_X7_299 C 51 (cX_51 g _) rfl dX7_copy_124 (n := 127) rfl ?_
                    refine j_iload_n C dX7_copy_127 rfl (n := 128) rfl ?_
                    refine j_aload_n C dX7_copy_128 rfl (n := 129) rfl ?_
                    refine gf_X7_54 C 0 (cX_0 g _) rfl dX7_copy_129 (n := 132) rfl ?_
                    refine j_iload_n C dX7_copy_132 rfl (n := 133) rfl ?_
                    refine j_aald C 46 2 (cX_46 g _) rfl (by decide) (b := g.2.1 47) rfl dX7_copy_133 rfl ?_
                    refine gf_X7_299 C 47 (cX_47 g _) rfl dX7_copy_134 (n := 137) rfl ?_
                    refine j_iload C dX7_copy_137 rfl (n := 139) rfl ?_
                    refine j_iload C dX7_copy_139 rfl (n := 141) rfl ?_
                    refine j_copy C 52 48 (cX_52 g _) (cX_48 g _) (wX_48 g _ _) lm_X7_302 (Nat.le_of_ble_eq_true rfl) (Nat.le_of_ble_eq_true rfl) dX7_copy_141 (n := 144) rfl ?_
                    refine j_iload C dX7_copy_144 rfl (n := 146) rfl ?_
                    exact j_retP C dX7_copy_146
                  · refine j_aload_n C dX7_copy_111 rfl (n := 112) rfl ?_
                    refine j_ldc C dX7_copy_112 kc_X7_67 (n := 114) rfl ?_
                    refine j_bnd (fun r26 q25 => ?_)
                    refine j_ci C (run_V C mi_X7_finding lm_X7_68 iv_X7_finding ⟨Nat.le_of_ble_eq_true rfl, Nat.le_of_ble_eq_true rfl⟩ (m_X7_finding _ _ _ q25) (cX_0 g _) rfl rfl rfl rfl (Nat.le_of_ble_eq_true rfl) dX7_copy_114) (n := 117) rfl ?_
                    exact j_retP C dX7_copy_117
              · refine j_aload_n C dX7_copy_73 rfl (n := 74) rfl ?_
                refine j_ldc C dX7_copy_74 kc_X7_201 (n := 76) rfl ?_
                refine j_bnd (fun r29 q28 => ?_)
                refine j_ci C (run_V C mi_X7_finding lm_X7_68 iv_X7_finding ⟨Nat.le_of_ble_eq_true rfl, Nat.le_of_ble_eq_true rfl⟩ (m_X7_finding _ _ _ q28) (cX_0 g _) rfl rfl rfl rfl (Nat.le_of_ble_eq_true rfl) dX7_copy_76) (n := 79) rfl ?_
                exact j_retP C dX7_copy_79
            · refine j_aload_n C dX7_copy_45 rfl (n := 46) rfl ?_
              refine j_ldc C dX7_copy_46 kc_X7_236 (n := 48) rfl ?_
              refine j_bnd (fun r32 q31 => ?_)
              refine j_ci C (run_V C mi_X7_finding lm_X7_68 iv_X7_finding ⟨Nat.le_of_ble_eq_true rfl, Nat.le_of_ble_eq_true rfl⟩ (m_X7_finding _ _ _ q31) (cX_0 g _) rfl rfl rfl rfl (Nat.le_of_ble_eq_true rfl) dX7_copy_48) (n := 51) rfl ?_
              exact j_retP C dX7_copy_51
          · rw [shc_1]
            refine j_aald C 46 2 (cX_46 g _) rfl (by decide) (b := g.2.1 49) rfl dX7_copy_38 rfl ?_
            refine j_cz C (run_V C mi_X4_isMissing lm_X7_232 iv_X4_isMissing ⟨Nat.le_of_ble_eq_true rfl, Nat.le_of_ble_eq_true rfl⟩ (m_X4_isMissing_49 _ _) (cX_49 g _) rfl rfl rfl rfl (Nat.le_of_ble_eq_true rfl) dX7_copy_39) (n := 42) rfl (fun b15 => ?_)
            refine j_if_eq C dX7_copy_42 (tgt := 52) (n := 45) (by decide) rfl (fun q16 => ?_) (fun q16 => ?_)
            · refine j_aload_n C dX7_copy_52 rfl (n := 53) rfl ?_
              refine gf_X7_54 C 0 (cX_0 g _) rfl dX7_copy_53 (n := 56) rfl ?_
              refine j_iload_n C dX7_copy_56 rfl (n := 57) rfl ?_
              refine j_aald C 46 2 (cX_46 g _) rfl (by decide) (b := g.2.1 51) rfl dX7_copy_57 rfl ?_
              refine gf_X7_293 C 51 (cX_51 g _) rfl dX7_copy_58 (n := 61) rfl ?_
              refine j_aload_n C dX7_copy_61 rfl (n := 62) rfl ?_
              refine gf_X7_54 C 0 (cX_0 g _) rfl dX7_copy_62 (n := 65) rfl ?_
              refine j_iload_n C dX7_copy_65 rfl (n := 66) rfl ?_
              refine j_aald C 46 2 (cX_46 g _) rfl (by decide) (b := g.2.1 49) rfl dX7_copy_66 rfl ?_
              refine gf_X7_293 C 49 (cX_49 g _) rfl dX7_copy_67 (n := 70) rfl ?_
              refine j_icmp_eq C dX7_copy_70 (tgt := 80) (n := 73) (by decide) rfl (fun q17 => ?_) (fun q17 => ?_)
              · refine j_aload_n C dX7_copy_80 rfl (n := 81) rfl ?_
                refine gf_X7_54 C 0 (cX_0 g _) rfl dX7_copy_81 (n := 84) rfl ?_
                refine j_iload_n C dX7_copy_84 rfl (n := 85) rfl ?_
                refine j_aald C 46 2 (cX_46 g _) rfl (by decide) (b := g.2.1 51) rfl dX7_copy_85 rfl ?_
                refine j_iload_n C dX7_copy_86 rfl (n := 87) rfl ?_
                refine j_iload C dX7_copy_87 rfl (n := 89) rfl ?_
                refine j_cz C (run_V C mi_X4_hasRun lm_X7_296 iv_X4_hasRun ⟨Nat.le_of_ble_eq_true rfl, Nat.le_of_ble_eq_true rfl⟩ (m_X4_hasRun_51 _ _ _ _) (cX_51 g _) rfl rfl rfl rfl (Nat.le_of_ble_eq_true rfl) dX7_copy_89) (n := 92) rfl (fun b18 => ?_)
                refine j_if_eq C dX7_copy_92 (tgt := 111) (n := 95) (by decide) rfl (fun q19 => ?_) (fun q19 => ?_)
                · refine j_aload_n C dX7_copy_111 rfl (n := 112) rfl ?_
                  refine j_ldc C dX7_copy_112 kc_X7_67 (n := 114) rfl ?_
                  refine j_bnd (fun r21 q20 => ?_)
                  refine j_ci C (run_V C mi_X7_finding lm_X7_68 iv_X7_finding ⟨Nat.le_of_ble_eq_true rfl, Nat.le_of_ble_eq_true rfl⟩ (m_X7_finding _ _ _ q20) (cX_0 g _) rfl rfl rfl rfl (Nat.le_of_ble_eq_true rfl) dX7_copy_114) (n := 117) rfl ?_
                  exact j_retP C dX7_copy_117
                · refine j_aload_n C dX7_copy_95 rfl (n := 96) rfl ?_
                  refine gf_X7_54 C 0 (cX_0 g _) rfl dX7_copy_96 (n := 99) rfl ?_
                  refine j_iload_n C dX7_copy_99 rfl (n := 100) rfl ?_
                  refine j_aald C 46 2 (cX_46 g _) rfl (by decide) (b := g.2.1 49) rfl dX7_copy_100 rfl ?_
                  refine j_iload C dX7_copy_101 rfl (n := 103) rfl ?_
                  refine j_iload C dX7_copy_103 rfl (n := 105) rfl ?_
                  refine j_cz C (run_V C mi_X4_hasRun lm_X7_296 iv_X4_hasRun ⟨Nat.le_of_ble_eq_true rfl, Nat.le_of_ble_eq_true rfl⟩ (m_X4_hasRun_49 _ _ _ _) (cX_49 g _) rfl rfl rfl rfl (Nat.le_of_ble_eq_true rfl) dX7_copy_105) (n := 108) rfl (fun b23 => ?_)
                  refine j_if_ne C dX7_copy_108 (tgt := 118) (n := 111) (by decide) rfl (fun q24 => ?_) (fun q24 => ?_)
                  · refine j_aload_n C dX7_copy_118 rfl (n := 119) rfl ?_
                    refine gf_X7_54 C 0 (cX_0 g _) rfl dX7_copy_119 (n := 122) rfl ?_
                    refine j_iload_n C dX7_copy_122 rfl (n := 123) rfl ?_
                    refine j_aald C 46 2 (cX_46 g _) rfl (by decide) (b := g.2.1 51) rfl dX7_copy_123 rfl ?_
                    refine gf_X7_299 C 51 (cX_51 g _) rfl dX7_copy_124 (n := 127) rfl ?_
                    refine j_iload_n C dX7_copy_127 rfl (n := 128) rfl ?_
                    refine j_aload_n C dX7_copy_128 rfl (n := 129) rfl ?_
                    refine gf_X7_54 C 0 (cX_0 g _) rfl dX7_copy_129 (n := 132) rfl ?_
                    refine j_iload_n C dX7_copy_132 rfl (n := 133) rfl ?_
                    refine j_aald C 46 2 (cX_46 g _) rfl (by decide) (b := g.2.1 49) rfl dX7_copy_133 rfl ?_
                    refine gf_X7_299 C 49 (cX_49 g _) rfl dX7_copy_134 (n := 137) rfl ?_
                    refine j_iload C dX7_copy_137 rfl (n := 139) rfl ?_
                    refine j_iload C dX7_copy_139 rfl (n := 141) rfl ?_
                    refine j_copy C 52 50 (cX_52 g _) (cX_50 g _) (wX_50 g _ _) lm_X7_302 (Nat.le_of_ble_eq_true rfl) (Nat.le_of_ble_eq_true rfl) dX7_copy_141 (n := 144) rfl ?_
                    refine j_iload C dX7_copy_144 rfl (n := 146) rfl ?_
                    exact j_retP C dX7_copy_146
                  · refine j_aload_n C dX7_copy_111 rfl (n := 112) rfl ?_
                    refine j_ldc C dX7_copy_112 kc_X7_67 (n := 114) rfl ?_
                    refine j_bnd (fun r26 q25 => ?_)
                    refine j_ci C (run_V C mi_X7_finding lm_X7_68 iv_X7_finding ⟨Nat.le_of_ble_eq_true rfl, Nat.le_of_ble_eq_true rfl⟩ (m_X7_finding _ _ _ q25) (cX_0 g _) rfl rfl rfl rfl (Nat.le_of_ble_eq_true rfl) dX7_copy_114) (n := 117) rfl ?_
                    exact j_retP C dX7_copy_117
              · refine j_aload_n C dX7_copy_73 rfl (n := 74) rfl ?_
                refine j_ldc C dX7_copy_74 kc_X7_201 (n := 76) rfl ?_
                refine j_bnd (fun r29 q28 => ?_)
                refine j_ci C (run_V C mi_X7_finding lm_X7_68 iv_X7_finding ⟨Nat.le_of_ble_eq_true rfl, Nat.le_of_ble_eq_true rfl⟩ (m_X7_finding _ _ _ q28) (cX_0 g _) rfl rfl rfl rfl (Nat.le_of_ble_eq_true rfl) dX7_copy_76) (n := 79) rfl ?_
                exact j_retP C dX7_copy_79
            · refine j_aload_n C dX7_copy_45 rfl (n := 46) rfl ?_
              refine j_ldc C dX7_copy_46 kc_X7_236 (n := 48) rfl ?_
              refine j_bnd (fun r32 q31 => ?_)
              refine j_ci C (run_V C mi_X7_finding lm_X7_68 iv_X7_finding ⟨Nat.le_of_ble_eq_true rfl, Nat.le_of_ble_eq_true rfl⟩ (m_X7_finding _ _ _ q31) (cX_0 g _) rfl rfl rfl rfl (Nat.le_of_ble_eq_true rfl) dX7_copy_48) (n := 51) rfl ?_
              exact j_retP C dX7_copy_51
          · rw [shc_2]
            refine j_aald C 46 2 (cX_46 g _) rfl (by decide) (b := g.2.1 51) rfl dX7_copy_38 rfl ?_
            refine j_cz C (run_V C mi_X4_isMissing lm_X7_232 iv_X4_isMissing ⟨Nat.le_of_ble_eq_true rfl, Nat.le_of_ble_eq_true rfl⟩ (m_X4_isMissing_51 _ _) (cX_51 g _) rfl rfl rfl rfl (Nat.le_of_ble_eq_true rfl) dX7_copy_39) (n := 42) rfl (fun b15 => ?_)
            refine j_if_eq C dX7_copy_42 (tgt := 52) (n := 45) (by decide) rfl (fun q16 => ?_) (fun q16 => ?_)
            · refine j_aload_n C dX7_copy_52 rfl (n := 53) rfl ?_
              refine gf_X7_54 C 0 (cX_0 g _) rfl dX7_copy_53 (n := 56) rfl ?_
              refine j_iload_n C dX7_copy_56 rfl (n := 57) rfl ?_
              refine j_aald C 46 2 (cX_46 g _) rfl (by decide) (b := g.2.1 51) rfl dX7_copy_57 rfl ?_
              refine gf_X7_293 C 51 (cX_51 g _) rfl dX7_copy_58 (n := 61) rfl ?_
              refine j_aload_n C dX7_copy_61 rfl (n := 62) rfl ?_
              refine gf_X7_54 C 0 (cX_0 g _) rfl dX7_copy_62 (n := 65) rfl ?_
              refine j_iload_n C dX7_copy_65 rfl (n := 66) rfl ?_
              refine j_aald C 46 2 (cX_46 g _) rfl (by decide) (b := g.2.1 51) rfl dX7_copy_66 rfl ?_
              refine gf_X7_293 C 51 (cX_51 g _) rfl dX7_copy_67 (n := 70) rfl ?_
              refine j_icmp_eq C dX7_copy_70 (tgt := 80) (n := 73) (by decide) rfl (fun q17 => ?_) (fun q17 => ?_)
              · refine j_aload_n C dX7_copy_80 rfl (n := 81) rfl ?_
                refine gf_X7_54 C 0 (cX_0 g _) rfl dX7_copy_81 (n := 84) rfl ?_
                refine j_iload_n C dX7_copy_84 rfl (n := 85) rfl ?_
                refine j_aald C 46 2 (cX_46 g _) rfl (by decide) (b := g.2.1 51) rfl dX7_copy_85 rfl ?_
                refine j_iload_n C dX7_copy_86 rfl (n := 87) rfl ?_
                refine j_iload C dX7_copy_87 rfl (n := 89) rfl ?_
                refine j_cz C (run_V C mi_X4_hasRun lm_X7_296 iv_X4_hasRun ⟨Nat.le_of_ble_eq_true rfl, Nat.le_of_ble_eq_true rfl⟩ (m_X4_hasRun_51 _ _ _ _) (cX_51 g _) rfl rfl rfl rfl (Nat.le_of_ble_eq_true rfl) dX7_copy_89) (n := 92) rfl (fun b18 => ?_)
                refine j_if_eq C dX7_copy_92 (tgt := 111) (n := 95) (by decide) rfl (fun q19 => ?_) (fun q19 => ?_)
                · refine j_aload_n C dX7_copy_111 rfl (n := 112) rfl ?_
                  refine j_ldc C dX7_copy_112 kc_X7_67 (n := 114) rfl ?_
                  refine j_bnd (fun r21 q20 => ?_)
                  refine j_ci C (run_V C mi_X7_finding lm_X7_68 iv_X7_finding ⟨Nat.le_of_ble_eq_true rfl, Nat.le_of_ble_eq_true rfl⟩ (m_X7_finding _ _ _ q20) (cX_0 g _) rfl rfl rfl rfl (Nat.le_of_ble_eq_true rfl) dX7_copy_114) (n := 117) rfl ?_
                  exact j_retP C dX7_copy_117
                · refine j_aload_n C dX7_copy_95 rfl (n := 96) rfl ?_
                  refine gf_X7_54 C 0 (cX_0 g _) rfl dX7_copy_96 (n := 99) rfl ?_
                  refine j_iload_n C dX7_copy_99 rfl (n := 100) rfl ?_
                  refine j_aald C 46 2 (cX_46 g _) rfl (by decide) (b := g.2.1 51) rfl dX7_copy_100 rfl ?_
                  refine j_iload C dX7_copy_101 rfl (n := 103) rfl ?_
                  refine j_iload C dX7_copy_103 rfl (n := 105) rfl ?_
                  refine j_cz C (run_V C mi_X4_hasRun lm_X7_296 iv_X4_hasRun ⟨Nat.le_of_ble_eq_true rfl, Nat.le_of_ble_eq_true rfl⟩ (m_X4_hasRun_51 _ _ _ _) (cX_51 g _) rfl rfl rfl rfl (Nat.le_of_ble_eq_true rfl) dX7_copy_105) (n := 108) rfl (fun b23 => ?_)
                  refine j_if_ne C dX7_copy_108 (tgt := 118) (n := 111) (by decide) rfl (fun q24 => ?_) (fun q24 => ?_)
                  · refine j_aload_n C dX7_copy_118 rfl (n := 119) rfl ?_
                    refine gf_X7_54 C 0 (cX_0 g _) rfl dX7_copy_119 (n := 122) rfl ?_
                    refine j_iload_n C dX7_copy_122 rfl (n := 123) rfl ?_
                    refine j_aald C 46 2 (cX_46 g _) rfl (by decide) (b := g.2.1 51) rfl dX7_copy_123 rfl ?_
                    refine gf_X7_299 C 51 (cX_51 g _) rfl dX7_copy_124 (n := 127) rfl ?_
                    refine j_iload_n C dX7_copy_127 rfl (n := 128) rfl ?_
                    refine j_aload_n C dX7_copy_128 rfl (n := 129) rfl ?_
                    refine gf_X7_54 C 0 (cX_0 g _) rfl dX7_copy_129 (n := 132) rfl ?_
                    refine j_iload_n C dX7_copy_132 rfl (n := 133) rfl ?_
                    refine j_aald C 46 2 (cX_46 g _) rfl (by decide) (b := g.2.1 51) rfl dX7_copy_133 rfl ?_
                    refine gf_X7_299 C 51 (cX_51 g _) rfl dX7_copy_134 (n := 137) rfl ?_
                    refine j_iload C dX7_copy_137 rfl (n := 139) rfl ?_
                    refine j_iload C dX7_copy_139 rfl (n := 141) rfl ?_
                    refine j_copy C 52 52 (cX_52 g _) (cX_52 g _) (wX_52 g _ _) lm_X7_302 (Nat.le_of_ble_eq_true rfl) (Nat.le_of_ble_eq_true rfl) dX7_copy_141 (n := 144) rfl ?_
                    refine j_iload C dX7_copy_144 rfl (n := 146) rfl ?_
                    exact j_retP C dX7_copy_146
                  · refine j_aload_n C dX7_copy_111 rfl (n := 112) rfl ?_
                    refine j_ldc C dX7_copy_112 kc_X7_67 (n := 114) rfl ?_
                    refine j_bnd (fun r26 q25 => ?_)
                    refine j_ci C (run_V C mi_X7_finding lm_X7_68 iv_X7_finding ⟨Nat.le_of_ble_eq_true rfl, Nat.le_of_ble_eq_true rfl⟩ (m_X7_finding _ _ _ q25) (cX_0 g _) rfl rfl rfl rfl (Nat.le_of_ble_eq_true rfl) dX7_copy_114) (n := 117) rfl ?_
                    exact j_retP C dX7_copy_117
              · refine j_aload_n C dX7_copy_73 rfl (n := 74) rfl ?_
                refine j_ldc C dX7_copy_74 kc_X7_201 (n := 76) rfl ?_
                refine j_bnd (fun r29 q28 => ?_)
                refine j_ci C (run_V C mi_X7_finding lm_X7_68 iv_X7_finding ⟨Nat.le_of_ble_eq_true rfl, Nat.le_of_ble_eq_true rfl⟩ (m_X7_finding _ _ _ q28) (cX_0 g _) rfl rfl rfl rfl (Nat.le_of_ble_eq_true rfl) dX7_copy_76) (n := 79) rfl ?_
                exact j_retP C dX7_copy_79
            · refine j_aload_n C dX7_copy_45 rfl (n := 46) rfl ?_
              refine j_ldc C dX7_copy_46 kc_X7_236 (n := 48) rfl ?_
              refine j_bnd (fun r32 q31 => ?_)
              refine j_ci C (run_V C mi_X7_finding lm_X7_68 iv_X7_finding ⟨Nat.le_of_ble_eq_true rfl, Nat.le_of_ble_eq_true rfl⟩ (m_X7_finding _ _ _ q31) (cX_0 g _) rfl rfl rfl rfl (Nat.le_of_ble_eq_true rfl) dX7_copy_48) (n := 51) rfl ?_
              exact j_retP C dX7_copy_51
          · rw [shc_3]
            refine j_aald C 46 2 (cX_46 g _) rfl (by decide) (b := g.2.1 53) rfl dX7_copy_38 rfl ?_
            refine j_cz C (run_V C mi_X4_isMissing lm_X7_232 iv_X4_isMissing ⟨Nat.le_of_ble_eq_true rfl, Nat.le_of_ble_eq_true rfl⟩ (m_X4_isMissing_53 _ _) (cX_53 g _) rfl rfl rfl rfl (Nat.le_of_ble_eq_true rfl) dX7_copy_39) (n := 42) rfl (fun b15 => ?_)
            refine j_if_eq C dX7_copy_42 (tgt := 52) (n := 45) (by decide) rfl (fun q16 => ?_) (fun q16 => ?_)
            · refine j_aload_n C dX7_copy_52 rfl (n := 53) rfl ?_
              refine gf_X7_54 C 0 (cX_0 g _) rfl dX7_copy_53 (n := 56) rfl ?_
              refine j_iload_n C dX7_copy_56 rfl (n := 57) rfl ?_
              refine j_aald C 46 2 (cX_46 g _) rfl (by decide) (b := g.2.1 51) rfl dX7_copy_57 rfl ?_
              refine gf_X7_293 C 51 (cX_51 g _) rfl dX7_copy_58 (n := 61) rfl ?_
              refine j_aload_n C dX7_copy_61 rfl (n := 62) rfl ?_
              refine gf_X7_54 C 0 (cX_0 g _) rfl dX7_copy_62 (n := 65) rfl ?_
              refine j_iload_n C dX7_copy_65 rfl (n := 66) rfl ?_
              refine j_aald C 46 2 (cX_46 g _) rfl (by decide) (b := g.2.1 53) rfl dX7_copy_66 rfl ?_
              refine gf_X7_293 C 53 (cX_53 g _) rfl dX7_copy_67 (n := 70) rfl ?_
              refine j_icmp_eq C dX7_copy_70 (tgt := 80) (n := 73) (by decide) rfl (fun q17 => ?_) (fun q17 => ?_)
              · refine j_aload_n C dX7_copy_80 rfl (n := 81) rfl ?_
                refine gf_X7_54 C 0 (cX_0 g _) rfl dX7_copy_81 (n := 84) rfl ?_
                refine j_iload_n C dX7_copy_84 rfl (n := 85) rfl ?_
                refine j_aald C 46 2 (cX_46 g _) rfl (by decide) (b := g.2.1 51) rfl dX7_copy_85 rfl ?_
                refine j_iload_n C dX7_copy_86 rfl (n := 87) rfl ?_
                refine j_iload C dX7_copy_87 rfl (n := 89) rfl ?_
                refine j_cz C (run_V C mi_X4_hasRun lm_X7_296 iv_X4_hasRun ⟨Nat.le_of_ble_eq_true rfl, Nat.le_of_ble_eq_true rfl⟩ (m_X4_hasRun_51 _ _ _ _) (cX_51 g _) rfl rfl rfl rfl (Nat.le_of_ble_eq_true rfl) dX7_copy_89) (n := 92) rfl (fun b18 => ?_)
                refine j_if_eq C dX7_copy_92 (tgt := 111) (n := 95) (by decide) rfl (fun q19 => ?_) (fun q19 => ?_)
                · refine j_aload_n C dX7_copy_111 rfl (n := 112) rfl ?_
                  refine j_ldc C dX7_copy_112 kc_X7_67 (n := 114) rfl ?_
                  refine j_bnd (fun r21 q20 => ?_)
                  refine j_ci C (run_V C mi_X7_finding lm_X7_68 iv_X7_finding ⟨Nat.le_of_ble_eq_true rfl, Nat.le_of_ble_eq_true rfl⟩ (m_X7_finding _ _ _ q20) (cX_0 g _) rfl rfl rfl rfl (Nat.le_of_ble_eq_true rfl) dX7_copy_114) (n := 117) rfl ?_
                  exact j_retP C dX7_copy_117
                · refine j_aload_n C dX7_copy_95 rfl (n := 96) rfl ?_
                  refine gf_X7_54 C 0 (cX_0 g _) rfl dX7_copy_96 (n := 99) rfl ?_
                  refine j_iload_n C dX7_copy_99 rfl (n := 100) rfl ?_
                  refine j_aald C 46 2 (cX_46 g _) rfl (by decide) (b := g.2.1 53) rfl dX7_copy_100 rfl ?_
                  refine j_iload C dX7_copy_101 rfl (n := 103) rfl ?_
                  refine j_iload C dX7_copy_103 rfl (n := 105) rfl ?_
                  refine j_cz C (run_V C mi_X4_hasRun lm_X7_296 iv_X4_hasRun ⟨Nat.le_of_ble_eq_true rfl, Nat.le_of_ble_eq_true rfl⟩ (m_X4_hasRun_53 _ _ _ _) (cX_53 g _) rfl rfl rfl rfl (Nat.le_of_ble_eq_true rfl) dX7_copy_105) (n := 108) rfl (fun b23 => ?_)
                  refine j_if_ne C dX7_copy_108 (tgt := 118) (n := 111) (by decide) rfl (fun q24 => ?_) (fun q24 => ?_)
                  · refine j_aload_n C dX7_copy_118 rfl (n := 119) rfl ?_
                    refine gf_X7_54 C 0 (cX_0 g _) rfl dX7_copy_119 (n := 122) rfl ?_
                    refine j_iload_n C dX7_copy_122 rfl (n := 123) rfl ?_
                    refine j_aald C 46 2 (cX_46 g _) rfl (by decide) (b := g.2.1 51) rfl dX7_copy_123 rfl ?_
                    refine gf_X7_299 C 51 (cX_51 g _) rfl dX7_copy_124 (n := 127) rfl ?_
                    refine j_iload_n C dX7_copy_127 rfl (n := 128) rfl ?_
                    refine j_aload_n C dX7_copy_128 rfl (n := 129) rfl ?_
                    refine gf_X7_54 C 0 (cX_0 g _) rfl dX7_copy_129 (n := 132) rfl ?_
                    refine j_iload_n C dX7_copy_132 rfl (n := 133) rfl ?_
                    refine j_aald C 46 2 (cX_46 g _) rfl (by decide) (b := g.2.1 53) rfl dX7_copy_133 rfl ?_
                    refine gf_X7_299 C 53 (cX_53 g _) rfl dX7_copy_134 (n := 137) rfl ?_
                    refine j_iload C dX7_copy_137 rfl (n := 139) rfl ?_
                    refine j_iload C dX7_copy_139 rfl (n := 141) rfl ?_
                    refine j_copy C 52 54 (cX_52 g _) (cX_54 g _) (wX_54 g _ _) lm_X7_302 (Nat.le_of_ble_eq_true rfl) (Nat.le_of_ble_eq_true rfl) dX7_copy_141 (n := 144) rfl ?_
                    refine j_iload C dX7_copy_144 rfl (n := 146) rfl ?_
                    exact j_retP C dX7_copy_146
                  · refine j_aload_n C dX7_copy_111 rfl (n := 112) rfl ?_
                    refine j_ldc C dX7_copy_112 kc_X7_67 (n := 114) rfl ?_
                    refine j_bnd (fun r26 q25 => ?_)
                    refine j_ci C (run_V C mi_X7_finding lm_X7_68 iv_X7_finding ⟨Nat.le_of_ble_eq_true rfl, Nat.le_of_ble_eq_true rfl⟩ (m_X7_finding _ _ _ q25) (cX_0 g _) rfl rfl rfl rfl (Nat.le_of_ble_eq_true rfl) dX7_copy_114) (n := 117) rfl ?_
                    exact j_retP C dX7_copy_117
              · refine j_aload_n C dX7_copy_73 rfl (n := 74) rfl ?_
                refine j_ldc C dX7_copy_74 kc_X7_201 (n := 76) rfl ?_
                refine j_bnd (fun r29 q28 => ?_)
                refine j_ci C (run_V C mi_X7_finding lm_X7_68 iv_X7_finding ⟨Nat.le_of_ble_eq_true rfl, Nat.le_of_ble_eq_true rfl⟩ (m_X7_finding _ _ _ q28) (cX_0 g _) rfl rfl rfl rfl (Nat.le_of_ble_eq_true rfl) dX7_copy_76) (n := 79) rfl ?_
                exact j_retP C dX7_copy_79
            · refine j_aload_n C dX7_copy_45 rfl (n := 46) rfl ?_
              refine j_ldc C dX7_copy_46 kc_X7_236 (n := 48) rfl ?_
              refine j_bnd (fun r32 q31 => ?_)
              refine j_ci C (run_V C mi_X7_finding lm_X7_68 iv_X7_finding ⟨Nat.le_of_ble_eq_true rfl, Nat.le_of_ble_eq_true rfl⟩ (m_X7_finding _ _ _ q31) (cX_0 g _) rfl rfl rfl rfl (Nat.le_of_ble_eq_true rfl) dX7_copy_48) (n := 51) rfl ?_
              exact j_retP C dX7_copy_51
      · rw [shc_3]
        refine j_aald C 46 2 (cX_46 g _) rfl (by decide) (b := g.2.1 53) rfl dX7_copy_26 rfl ?_
        refine j_cz C (run_V C mi_X4_isMissing lm_X7_232 iv_X4_isMissing ⟨Nat.le_of_ble_eq_true rfl, Nat.le_of_ble_eq_true rfl⟩ (m_X4_isMissing_53 _ _) (cX_53 g _) rfl rfl rfl rfl (Nat.le_of_ble_eq_true rfl) dX7_copy_27) (n := 30) rfl (fun b9 => ?_)
        refine j_if_ne C dX7_copy_30 (tgt := 45) (n := 33) (by decide) rfl (fun q10 => ?_) (fun q10 => ?_)
        · refine j_aload_n C dX7_copy_45 rfl (n := 46) rfl ?_
          refine j_ldc C dX7_copy_46 kc_X7_236 (n := 48) rfl ?_
          refine j_bnd (fun r12 q11 => ?_)
          refine j_ci C (run_V C mi_X7_finding lm_X7_68 iv_X7_finding ⟨Nat.le_of_ble_eq_true rfl, Nat.le_of_ble_eq_true rfl⟩ (m_X7_finding _ _ _ q11) (cX_0 g _) rfl rfl rfl rfl (Nat.le_of_ble_eq_true rfl) dX7_copy_48) (n := 51) rfl ?_
          exact j_retP C dX7_copy_51
        · refine j_aload_n C dX7_copy_33 rfl (n := 34) rfl ?_
          refine gf_X7_54 C 0 (cX_0 g _) rfl dX7_copy_34 (n := 37) rfl ?_
          refine j_iload_n C dX7_copy_37 rfl (n := 38) rfl ?_
          refine j_chk (fun q14 => ?_)
          rcases inR_4 q14 with rfl | rfl | rfl | rfl
          · rw [shc_0]
            refine j_aald C 46 2 (cX_46 g _) rfl (by decide) (b := g.2.1 47) rfl dX7_copy_38 rfl ?_
            refine j_cz C (run_V C mi_X4_isMissing lm_X7_232 iv_X4_isMissing ⟨Nat.le_of_ble_eq_true rfl, Nat.le_of_ble_eq_true rfl⟩ (m_X4_isMissing_47 _ _) (cX_47 g _) rfl rfl rfl rfl (Nat.le_of_ble_eq_true rfl) dX7_copy_39) (n := 42) rfl (fun b15 => ?_)
            refine j_if_eq C dX7_copy_42 (tgt := 52) (n := 45) (by decide) rfl (fun q16 => ?_) (fun q16 => ?_)
            · refine j_aload_n C dX7_copy_52 rfl (n := 53) rfl ?_
              refine gf_X7_54 C 0 (cX_0 g _) rfl dX7_copy_53 (n := 56) rfl ?_
              refine j_iload_n C dX7_copy_56 rfl (n := 57) rfl ?_
              refine j_aald C 46 2 (cX_46 g _) rfl (by decide) (b := g.2.1 53) rfl dX7_copy_57 rfl ?_
              refine gf_X7_293 C 53 (cX_53 g _) rfl dX7_copy_58 (n := 61) rfl ?_
              refine j_aload_n C dX7_copy_61 rfl (n := 62) rfl ?_
              refine gf_X7_54 C 0 (cX_0 g _) rfl dX7_copy_62 (n := 65) rfl ?_
              refine j_iload_n C dX7_copy_65 rfl (n := 66) rfl ?_
              refine j_aald C 46 2 (cX_46 g _) rfl (by decide) (b := g.2.1 47) rfl dX7_copy_66 rfl ?_
              refine gf_X7_293 C 47 (cX_47 g _) rfl dX7_copy_67 (n := 70) rfl ?_
              refine j_icmp_eq C dX7_copy_70 (tgt := 80) (n := 73) (by decide) rfl (fun q17 => ?_) (fun q17 => ?_)
              · refine j_aload_n C dX7_copy_80 rfl (n := 81) rfl ?_
                refine gf_X7_54 C 0 (cX_0 g _) rfl dX7_copy_81 (n := 84) rfl ?_
                refine j_iload_n C dX7_copy_84 rfl (n := 85) rfl ?_
                refine j_aald C 46 2 (cX_46 g _) rfl (by decide) (b := g.2.1 53) rfl dX7_copy_85 rfl ?_
                refine j_iload_n C dX7_copy_86 rfl (n := 87) rfl ?_
                refine j_iload C dX7_copy_87 rfl (n := 89) rfl ?_
                refine j_cz C (run_V C mi_X4_hasRun lm_X7_296 iv_X4_hasRun ⟨Nat.le_of_ble_eq_true rfl, Nat.le_of_ble_eq_true rfl⟩ (m_X4_hasRun_53 _ _ _ _) (cX_53 g _) rfl rfl rfl rfl (Nat.le_of_ble_eq_true rfl) dX7_copy_89) (n := 92) rfl (fun b18 => ?_)
                refine j_if_eq C dX7_copy_92 (tgt := 111) (n := 95) (by decide) rfl (fun q19 => ?_) (fun q19 => ?_)
                · refine j_aload_n C dX7_copy_111 rfl (n := 112) rfl ?_
                  refine j_ldc C dX7_copy_112 kc_X7_67 (n := 114) rfl ?_
                  refine j_bnd (fun r21 q20 => ?_)
                  refine j_ci C (run_V C mi_X7_finding lm_X7_68 iv_X7_finding ⟨Nat.le_of_ble_eq_true rfl, Nat.le_of_ble_eq_true rfl⟩ (m_X7_finding _ _ _ q20) (cX_0 g _) rfl rfl rfl rfl (Nat.le_of_ble_eq_true rfl) dX7_copy_114) (n := 117) rfl ?_
                  exact j_retP C dX7_copy_117
                · refine j_aload_n C dX7_copy_95 rfl (n := 96) rfl ?_
                  refine gf_X7_54 C 0 (cX_0 g _) rfl dX7_copy_96 (n := 99) rfl ?_
                  refine j_iload_n C dX7_copy_99 rfl (n := 100) rfl ?_
                  refine j_aald C 46 2 (cX_46 g _) rfl (by decide) (b := g.2.1 47) rfl dX7_copy_100 rfl ?_
                  refine j_iload C dX7_copy_101 rfl (n := 103) rfl ?_
                  refine j_iload C dX7_copy_103 rfl (n := 105) rfl ?_
                  refine j_cz C (run_V C mi_X4_hasRun lm_X7_296 iv_X4_hasRun ⟨Nat.le_of_ble_eq_true rfl, Nat.le_of_ble_eq_true rfl⟩ (m_X4_hasRun_47 _ _ _ _) (cX_47 g _) rfl rfl rfl rfl (Nat.le_of_ble_eq_true rfl) dX7_copy_105) (n := 108) rfl (fun b23 => ?_)
                  refine j_if_ne C dX7_copy_108 (tgt := 118) (n := 111) (by decide) rfl (fun q24 => ?_) (fun q24 => ?_)
                  · refine j_aload_n C dX7_copy_118 rfl (n := 119) rfl ?_
                    refine gf_X7_54 C 0 (cX_0 g _) rfl dX7_copy_119 (n := 122) rfl ?_
                    refine j_iload_n C dX7_copy_122 rfl (n := 123) rfl ?_
                    refine j_aald C 46 2 (cX_46 g _) rfl (by decide) (b := g.2.1 53) rfl dX7_copy_123 rfl ?_
                    refine gf_X7_299 C 53 (cX_53 g _) rfl dX7_copy_124 (n := 127) rfl ?_
                    refine j_iload_n C dX7_copy_127 rfl (n := 128) rfl ?_
                    refine j_aload_n C dX7_copy_128 rfl (n := 129) rfl ?_
                    refine gf_X7_54 C 0 (cX_0 g _) rfl dX7_copy_129 (n := 132) rfl ?_
                    refine j_iload_n C dX7_copy_132 rfl (n := 133) rfl ?_
                    refine j_aald C 46 2 (cX_46 g _) rfl (by decide) (b := g.2.1 47) rfl dX7_copy_133 rfl ?_
                    refine gf_X7_299 C 47 (cX_47 g _) rfl dX7_copy_134 (n := 137) rfl ?_
                    refine j_iload C dX7_copy_137 rfl (n := 139) rfl ?_
                    refine j_iload C dX7_copy_139 rfl (n := 141) rfl ?_
                    refine j_copy C 54 48 (cX_54 g _) (cX_48 g _) (wX_48 g _ _) lm_X7_302 (Nat.le_of_ble_eq_true rfl) (Nat.le_of_ble_eq_true rfl) dX7_copy_141 (n := 144) rfl ?_
                    refine j_iload C dX7_copy_144 rfl (n := 146) rfl ?_
                    exact j_retP C dX7_copy_146
                  · refine j_aload_n C dX7_copy_111 rfl (n := 112) rfl ?_
                    refine j_ldc C dX7_copy_112 kc_X7_67 (n := 114) rfl ?_
                    refine j_bnd (fun r26 q25 => ?_)
                    refine j_ci C (run_V C mi_X7_finding lm_X7_68 iv_X7_finding ⟨Nat.le_of_ble_eq_true rfl, Nat.le_of_ble_eq_true rfl⟩ (m_X7_finding _ _ _ q25) (cX_0 g _) rfl rfl rfl rfl (Nat.le_of_ble_eq_true rfl) dX7_copy_114) (n := 117) rfl ?_
                    exact j_retP C dX7_copy_117
              · refine j_aload_n C dX7_copy_73 rfl (n := 74) rfl ?_
                refine j_ldc C dX7_copy_74 kc_X7_201 (n := 76) rfl ?_
                refine j_bnd (fun r29 q28 => ?_)
                refine j_ci C (run_V C mi_X7_finding lm_X7_68 iv_X7_finding ⟨Nat.le_of_ble_eq_true rfl, Nat.le_of_ble_eq_true rfl⟩ (m_X7_finding _ _ _ q28) (cX_0 g _) rfl rfl rfl rfl (Nat.le_of_ble_eq_true rfl) dX7_copy_76) (n := 79) rfl ?_
                exact j_retP C dX7_copy_79
            · refine j_aload_n C dX7_copy_45 rfl (n := 46) rfl ?_
              refine j_ldc C dX7_copy_46 kc_X7_236 (n := 48) rfl ?_
              refine j_bnd (fun r32 q31 => ?_)
              refine j_ci C (run_V C mi_X7_finding lm_X7_68 iv_X7_finding ⟨Nat.le_of_ble_eq_true rfl, Nat.le_of_ble_eq_true rfl⟩ (m_X7_finding _ _ _ q31) (cX_0 g _) rfl rfl rfl rfl (Nat.le_of_ble_eq_true rfl) dX7_copy_48) (n := 51) rfl ?_
              exact j_retP C dX7_copy_51
          · rw [shc_1]
            refine j_aald C 46 2 (cX_46 g _) rfl (by decide) (b := g.2.1 49) rfl dX7_copy_38 rfl ?_
            refine j_cz C (run_V C mi_X4_isMissing lm_X7_232 iv_X4_isMissing ⟨Nat.le_of_ble_eq_true rfl, Nat.le_of_ble_eq_true rfl⟩ (m_X4_isMissing_49 _ _) (cX_49 g _) rfl rfl rfl rfl (Nat.le_of_ble_eq_true rfl) dX7_copy_39) (n := 42) rfl (fun b15 => ?_)
            refine j_if_eq C dX7_copy_42 (tgt := 52) (n := 45) (by decide) rfl (fun q16 => ?_) (fun q16 => ?_)
            · refine j_aload_n C dX7_copy_52 rfl (n := 53) rfl ?_
              refine gf_X7_54 C 0 (cX_0 g _) rfl dX7_copy_53 (n := 56) rfl ?_
              refine j_iload_n C dX7_copy_56 rfl (n := 57) rfl ?_
              refine j_aald C 46 2 (cX_46 g _) rfl (by decide) (b := g.2.1 53) rfl dX7_copy_57 rfl ?_
              refine gf_X7_293 C 53 (cX_53 g _) rfl dX7_copy_58 (n := 61) rfl ?_
              refine j_aload_n C dX7_copy_61 rfl (n := 62) rfl ?_
              refine gf_X7_54 C 0 (cX_0 g _) rfl dX7_copy_62 (n := 65) rfl ?_
              refine j_iload_n C dX7_copy_65 rfl (n := 66) rfl ?_
              refine j_aald C 46 2 (cX_46 g _) rfl (by decide) (b := g.2.1 49) rfl dX7_copy_66 rfl ?_
              refine gf_X7_293 C 49 (cX_49 g _) rfl dX7_copy_67 (n := 70) rfl ?_
              refine j_icmp_eq C dX7_copy_70 (tgt := 80) (n := 73) (by decide) rfl (fun q17 => ?_) (fun q17 => ?_)
              · refine j_aload_n C dX7_copy_80 rfl (n := 81) rfl ?_
                refine gf_X7_54 C 0 (cX_0 g _) rfl dX7_copy_81 (n := 84) rfl ?_
                refine j_iload_n C dX7_copy_84 rfl (n := 85) rfl ?_
                refine j_aald C 46 2 (cX_46 g _) rfl (by decide) (b := g.2.1 53) rfl dX7_copy_85 rfl ?_
                refine j_iload_n C dX7_copy_86 rfl (n := 87) rfl ?_
                refine j_iload C dX7_copy_87 rfl (n := 89) rfl ?_
                refine j_cz C (run_V C mi_X4_hasRun lm_X7_296 iv_X4_hasRun ⟨Nat.le_of_ble_eq_true rfl, Nat.le_of_ble_eq_true rfl⟩ (m_X4_hasRun_53 _ _ _ _) (cX_53 g _) rfl rfl rfl rfl (Nat.le_of_ble_eq_true rfl) dX7_copy_89) (n := 92) rfl (fun b18 => ?_)
                refine j_if_eq C dX7_copy_92 (tgt := 111) (n := 95) (by decide) rfl (fun q19 => ?_) (fun q19 => ?_)
                · refine j_aload_n C dX7_copy_111 rfl (n := 112) rfl ?_
                  refine j_ldc C dX7_copy_112 kc_X7_67 (n := 114) rfl ?_
                  refine j_bnd (fun r21 q20 => ?_)
                  refine j_ci C (run_V C mi_X7_finding lm_X7_68 iv_X7_finding ⟨Nat.le_of_ble_eq_true rfl, Nat.le_of_ble_eq_true rfl⟩ (m_X7_finding _ _ _ q20) (cX_0 g _) rfl rfl rfl rfl (Nat.le_of_ble_eq_true rfl) dX7_copy_114) (n := 117) rfl ?_
                  exact j_retP C dX7_copy_117
                · refine j_aload_n C dX7_copy_95 rfl (n := 96) rfl ?_
                  refine gf_X7_54 C 0 (cX_0 g _) rfl dX7_copy_96 (n := 99) rfl ?_
                  refine j_iload_n C dX7_copy_99 rfl (n := 100) rfl ?_
                  refine j_aald C 46 2 (cX_46 g _) rfl (by decide) (b := g.2.1 49) rfl dX7_copy_100 rfl ?_
                  refine j_iload C dX7_copy_101 rfl (n := 103) rfl ?_
                  refine j_iload C dX7_copy_103 rfl (n := 105) rfl ?_
                  refine j_cz C (run_V C mi_X4_hasRun lm_X7_296 iv_X4_hasRun ⟨Nat.le_of_ble_eq_true rfl, Nat.le_of_ble_eq_true rfl⟩ (m_X4_hasRun_49 _ _ _ _) (cX_49 g _) rfl rfl rfl rfl (Nat.le_of_ble_eq_true rfl) dX7_copy_105) (n := 108) rfl (fun b23 => ?_)
                  refine j_if_ne C dX7_copy_108 (tgt := 118) (n := 111) (by decide) rfl (fun q24 => ?_) (fun q24 => ?_)
                  · refine j_aload_n C dX7_copy_118 rfl (n := 119) rfl ?_
                    refine gf_X7_54 C 0 (cX_0 g _) rfl dX7_copy_119 (n := 122) rfl ?_
                    refine j_iload_n C dX7_copy_122 rfl (n := 123) rfl ?_
                    refine j_aald C 46 2 (cX_46 g _) rfl (by decide) (b := g.2.1 53) rfl dX7_copy_123 rfl ?_
                    refine gf_X7_299 C 53 (cX_53 g _) rfl dX7_copy_124 (n := 127) rfl ?_
                    refine j_iload_n C dX7_copy_127 rfl (n := 128) rfl ?_
                    refine j_aload_n C dX7_copy_128 rfl (n := 129) rfl ?_
                    refine gf_X7_54 C 0 (cX_0 g _) rfl dX7_copy_129 (n := 132) rfl ?_
                    refine j_iload_n C dX7_copy_132 rfl (n := 133) rfl ?_
                    refine j_aald C 46 2 (cX_46 g _) rfl (by decide) (b := g.2.1 49) rfl dX7_copy_133 rfl ?_
                    refine gf_X7_299 C 49 (cX_49 g _) rfl dX7_copy_134 (n := 137) rfl ?_
                    refine j_iload C dX7_copy_137 rfl (n := 139) rfl ?_
                    refine j_iload C dX7_copy_139 rfl (n := 141) rfl ?_
                    refine j_copy C 54 50 (cX_54 g _) (cX_50 g _) (wX_50 g _ _) lm_X7_302 (Nat.le_of_ble_eq_true rfl) (Nat.le_of_ble_eq_true rfl) dX7_copy_141 (n := 144) rfl ?_
                    refine j_iload C dX7_copy_144 rfl (n := 146) rfl ?_
                    exact j_retP C dX7_copy_146
                  · refine j_aload_n C dX7_copy_111 rfl (n := 112) rfl ?_
                    refine j_ldc C dX7_copy_112 kc_X7_67 (n := 114) rfl ?_
                    refine j_bnd (fun r26 q25 => ?_)
                    refine j_ci C (run_V C mi_X7_finding lm_X7_68 iv_X7_finding ⟨Nat.le_of_ble_eq_true rfl, Nat.le_of_ble_eq_true rfl⟩ (m_X7_finding _ _ _ q25) (cX_0 g _) rfl rfl rfl rfl (Nat.le_of_ble_eq_true rfl) dX7_copy_114) (n := 117) rfl ?_
                    exact j_retP C dX7_copy_117
              · refine j_aload_n C dX7_copy_73 rfl (n := 74) rfl ?_
                refine j_ldc C dX7_copy_74 kc_X7_201 (n := 76) rfl ?_
                refine j_bnd (fun r29 q28 => ?_)
                refine j_ci C (run_V C mi_X7_finding lm_X7_68 iv_X7_finding ⟨Nat.le_of_ble_eq_true rfl, Nat.le_of_ble_eq_true rfl⟩ (m_X7_finding _ _ _ q28) (cX_0 g _) rfl rfl rfl rfl (Nat.le_of_ble_eq_true rfl) dX7_copy_76) (n := 79) rfl ?_
                exact j_retP C dX7_copy_79
            · refine j_aload_n C dX7_copy_45 rfl (n := 46) rfl ?_
              refine j_ldc C dX7_copy_46 kc_X7_236 (n := 48) rfl ?_
              refine j_bnd (fun r32 q31 => ?_)
              refine j_ci C (run_V C mi_X7_finding lm_X7_68 iv_X7_finding ⟨Nat.le_of_ble_eq_true rfl, Nat.le_of_ble_eq_true rfl⟩ (m_X7_finding _ _ _ q31) (cX_0 g _) rfl rfl rfl rfl (Nat.le_of_ble_eq_true rfl) dX7_copy_48) (n := 51) rfl ?_
              exact j_retP C dX7_copy_51
          · rw [shc_2]
            refine j_aald C 46 2 (cX_46 g _) rfl (by decide) (b := g.2.1 51) rfl dX7_copy_38 rfl ?_
            refine j_cz C (run_V C mi_X4_isMissing lm_X7_232 iv_X4_isMissing ⟨Nat.le_of_ble_eq_true rfl, Nat.le_of_ble_eq_true rfl⟩ (m_X4_isMissing_51 _ _) (cX_51 g _) rfl rfl rfl rfl (Nat.le_of_ble_eq_true rfl) dX7_copy_39) (n := 42) rfl (fun b15 => ?_)
            refine j_if_eq C dX7_copy_42 (tgt := 52) (n := 45) (by decide) rfl (fun q16 => ?_) (fun q16 => ?_)
            · refine j_aload_n C dX7_copy_52 rfl (n := 53) rfl ?_
              refine gf_X7_54 C 0 (cX_0 g _) rfl dX7_copy_53 (n := 56) rfl ?_
              refine j_iload_n C dX7_copy_56 rfl (n := 57) rfl ?_
              refine j_aald C 46 2 (cX_46 g _) rfl (by decide) (b := g.2.1 53) rfl dX7_copy_57 rfl ?_
              refine gf_X7_293 C 53 (cX_53 g _) rfl dX7_copy_58 (n := 61) rfl ?_
              refine j_aload_n C dX7_copy_61 rfl (n := 62) rfl ?_
              refine gf_X7_54 C 0 (cX_0 g _) rfl dX7_copy_62 (n := 65) rfl ?_
              refine j_iload_n C dX7_copy_65 rfl (n := 66) rfl ?_
              refine j_aald C 46 2 (cX_46 g _) rfl (by decide) (b := g.2.1 51) rfl dX7_copy_66 rfl ?_
              refine gf_X7_293 C 51 (cX_51 g _) rfl dX7_copy_67 (n := 70) rfl ?_
              refine j_icmp_eq C dX7_copy_70 (tgt := 80) (n := 73) (by decide) rfl (fun q17 => ?_) (fun q17 => ?_)
              · refine j_aload_n C dX7_copy_80 rfl (n := 81) rfl ?_
                refine gf_X7_54 C 0 (cX_0 g _) rfl dX7_copy_81 (n := 84) rfl ?_
                refine j_iload_n C dX7_copy_84 rfl (n := 85) rfl ?_
                refine j_aald C 46 2 (cX_46 g _) rfl (by decide) (b := g.2.1 53) rfl dX7_copy_85 rfl ?_
                refine j_iload_n C dX7_copy_86 rfl (n := 87) rfl ?_
                refine j_iload C dX7_copy_87 rfl (n := 89) rfl ?_
                refine j_cz C (run_V C mi_X4_hasRun lm_X7_296 iv_X4_hasRun ⟨Nat.le_of_ble_eq_true rfl, Nat.le_of_ble_eq_true rfl⟩ (m_X4_hasRun_53 _ _ _ _) (cX_53 g _) rfl rfl rfl rfl (Nat.le_of_ble_eq_true rfl) dX7_copy_89) (n := 92) rfl (fun b18 => ?_)
                refine j_if_eq C dX7_copy_92 (tgt := 111) (n := 95) (by decide) rfl (fun q19 => ?_) (fun q19 => ?_)
                · refine j_aload_n C dX7_copy_111 rfl (n := 112) rfl ?_
                  refine j_ldc C dX7_copy_112 kc_X7_67 (n := 114) rfl ?_
                  refine j_bnd (fun r21 q20 => ?_)
                  refine j_ci C (run_V C mi_X7_finding lm_X7_68 iv_X7_finding ⟨Nat.le_of_ble_eq_true rfl, Nat.le_of_ble_eq_true rfl⟩ (m_X7_finding _ _ _ q20) (cX_0 g _) rfl rfl rfl rfl (Nat.le_of_ble_eq_true rfl) dX7_copy_114) (n := 117) rfl ?_
                  exact j_retP C dX7_copy_117
                · refine j_aload_n C dX7_copy_95 rfl (n := 96) rfl ?_
                  refine gf_X7_54 C 0 (cX_0 g _) rfl dX7_copy_96 (n := 99) rfl ?_
                  refine j_iload_n C dX7_copy_99 rfl (n := 100) rfl ?_
                  refine j_aald C 46 2 (cX_46 g _) rfl (by decide) (b := g.2.1 51) rfl dX7_copy_100 rfl ?_
                  refine j_iload C dX7_copy_101 rfl (n := 103) rfl ?_
                  refine j_iload C dX7_copy_103 rfl (n := 105) rfl ?_
                  refine j_cz C (run_V C mi_X4_hasRun lm_X7_296 iv_X4_hasRun ⟨Nat.le_of_ble_eq_true rfl, Nat.le_of_ble_eq_true rfl⟩ (m_X4_hasRun_51 _ _ _ _) (cX_51 g _) rfl rfl rfl rfl (Nat.le_of_ble_eq_true rfl) dX7_copy_105) (n := 108) rfl (fun b23 => ?_)
                  refine j_if_ne C dX7_copy_108 (tgt := 118) (n := 111) (by decide) rfl (fun q24 => ?_) (fun q24 => ?_)
                  · refine j_aload_n C dX7_copy_118 rfl (n := 119) rfl ?_
                    refine gf_X7_54 C 0 (cX_0 g _) rfl dX7_copy_119 (n := 122) rfl ?_
                    refine j_iload_n C dX7_copy_122 rfl (n := 123) rfl ?_
                    refine j_aald C 46 2 (cX_46 g _) rfl (by decide) (b := g.2.1 53) rfl dX7_copy_123 rfl ?_
                    refine gf_X7_299 C 53 (cX_53 g _) rfl dX7_copy_124 (n := 127) rfl ?_
                    refine j_iload_n C dX7_copy_127 rfl (n := 128) rfl ?_
                    refine j_aload_n C dX7_copy_128 rfl (n := 129) rfl ?_
                    refine gf_X7_54 C 0 (cX_0 g _) rfl dX7_copy_129 (n := 132) rfl ?_
                    refine j_iload_n C dX7_copy_132 rfl (n := 133) rfl ?_
                    refine j_aald C 46 2 (cX_46 g _) rfl (by decide) (b := g.2.1 51) rfl dX7_copy_133 rfl ?_
                    refine gf_X7_299 C 51 (cX_51 g _) rfl dX7_copy_134 (n := 137) rfl ?_
                    refine j_iload C dX7_copy_137 rfl (n := 139) rfl ?_
                    refine j_iload C dX7_copy_139 rfl (n := 141) rfl ?_
                    refine j_copy C 54 52 (cX_54 g _) (cX_52 g _) (wX_52 g _ _) lm_X7_302 (Nat.le_of_ble_eq_true rfl) (Nat.le_of_ble_eq_true rfl) dX7_copy_141 (n := 144) rfl ?_
                    refine j_iload C dX7_copy_144 rfl (n := 146) rfl ?_
                    exact j_retP C dX7_copy_146
                  · refine j_aload_n C dX7_copy_111 rfl (n := 112) rfl ?_
                    refine j_ldc C dX7_copy_112 kc_X7_67 (n := 114) rfl ?_
                    refine j_bnd (fun r26 q25 => ?_)
                    refine j_ci C (run_V C mi_X7_finding lm_X7_68 iv_X7_finding ⟨Nat.le_of_ble_eq_true rfl, Nat.le_of_ble_eq_true rfl⟩ (m_X7_finding _ _ _ q25) (cX_0 g _) rfl rfl rfl rfl (Nat.le_of_ble_eq_true rfl) dX7_copy_114) (n := 117) rfl ?_
                    exact j_retP C dX7_copy_117
              · refine j_aload_n C dX7_copy_73 rfl (n := 74) rfl ?_
                refine j_ldc C dX7_copy_74 kc_X7_201 (n := 76) rfl ?_
                refine j_bnd (fun r29 q28 => ?_)
                refine j_ci C (run_V C mi_X7_finding lm_X7_68 iv_X7_finding ⟨Nat.le_of_ble_eq_true rfl, Nat.le_of_ble_eq_true rfl⟩ (m_X7_finding _ _ _ q28) (cX_0 g _) rfl rfl rfl rfl (Nat.le_of_ble_eq_true rfl) dX7_copy_76) (n := 79) rfl ?_
                exact j_retP C dX7_copy_79
            · refine j_aload_n C dX7_copy_45 rfl (n := 46) rfl ?_
              refine j_ldc C dX7_copy_46 kc_X7_236 (n := 48) rfl ?_
              refine j_bnd (fun r32 q31 => ?_)
              refine j_ci C (run_V C mi_X7_finding lm_X7_68 iv_X7_finding ⟨Nat.le_of_ble_eq_true rfl, Nat.le_of_ble_eq_true rfl⟩ (m_X7_finding _ _ _ q31) (cX_0 g _) rfl rfl rfl rfl (Nat.le_of_ble_eq_true rfl) dX7_copy_48) (n := 51) rfl ?_
              exact j_retP C dX7_copy_51
          · rw [shc_3]
            refine j_aald C 46 2 (cX_46 g _) rfl (by decide) (b := g.2.1 53) rfl dX7_copy_38 rfl ?_
            refine j_cz C (run_V C mi_X4_isMissing lm_X7_232 iv_X4_isMissing ⟨Nat.le_of_ble_eq_true rfl, Nat.le_of_ble_eq_true rfl⟩ (m_X4_isMissing_53 _ _) (cX_53 g _) rfl rfl rfl rfl (Nat.le_of_ble_eq_true rfl) dX7_copy_39) (n := 42) rfl (fun b15 => ?_)
            refine j_if_eq C dX7_copy_42 (tgt := 52) (n := 45) (by decide) rfl (fun q16 => ?_) (fun q16 => ?_)
            · refine j_aload_n C dX7_copy_52 rfl (n := 53) rfl ?_
              refine gf_X7_54 C 0 (cX_0 g _) rfl dX7_copy_53 (n := 56) rfl ?_
              refine j_iload_n C dX7_copy_56 rfl (n := 57) rfl ?_
              refine j_aald C 46 2 (cX_46 g _) rfl (by decide) (b := g.2.1 53) rfl dX7_copy_57 rfl ?_
              refine gf_X7_293 C 53 (cX_53 g _) rfl dX7_copy_58 (n := 61) rfl ?_
              refine j_aload_n C dX7_copy_61 rfl (n := 62) rfl ?_
              refine gf_X7_54 C 0 (cX_0 g _) rfl dX7_copy_62 (n := 65) rfl ?_
              refine j_iload_n C dX7_copy_65 rfl (n := 66) rfl ?_
              refine j_aald C 46 2 (cX_46 g _) rfl (by decide) (b := g.2.1 53) rfl dX7_copy_66 rfl ?_
              refine gf_X7_293 C 53 (cX_53 g _) rfl dX7_copy_67 (n := 70) rfl ?_
              refine j_icmp_eq C dX7_copy_70 (tgt := 80) (n := 73) (by decide) rfl (fun q17 => ?_) (fun q17 => ?_)
              · refine j_aload_n C dX7_copy_80 rfl (n := 81) rfl ?_
                refine gf_X7_54 C 0 (cX_0 g _) rfl dX7_copy_81 (n := 84) rfl ?_
                refine j_iload_n C dX7_copy_84 rfl (n := 85) rfl ?_
                refine j_aald C 46 2 (cX_46 g _) rfl (by decide) (b := g.2.1 53) rfl dX7_copy_85 rfl ?_
                refine j_iload_n C dX7_copy_86 rfl (n := 87) rfl ?_
                refine j_iload C dX7_copy_87 rfl (n := 89) rfl ?_
                refine j_cz C (run_V C mi_X4_hasRun lm_X7_296 iv_X4_hasRun ⟨Nat.le_of_ble_eq_true rfl, Nat.le_of_ble_eq_true rfl⟩ (m_X4_hasRun_53 _ _ _ _) (cX_53 g _) rfl rfl rfl rfl (Nat.le_of_ble_eq_true rfl) dX7_copy_89) (n := 92) rfl (fun b18 => ?_)
                refine j_if_eq C dX7_copy_92 (tgt := 111) (n := 95) (by decide) rfl (fun q19 => ?_) (fun q19 => ?_)
                · refine j_aload_n C dX7_copy_111 rfl (n := 112) rfl ?_
                  refine j_ldc C dX7_copy_112 kc_X7_67 (n := 114) rfl ?_
                  refine j_bnd (fun r21 q20 => ?_)
                  refine j_ci C (run_V C mi_X7_finding lm_X7_68 iv_X7_finding ⟨Nat.le_of_ble_eq_true rfl, Nat.le_of_ble_eq_true rfl⟩ (m_X7_finding _ _ _ q20) (cX_0 g _) rfl rfl rfl rfl (Nat.le_of_ble_eq_true rfl) dX7_copy_114) (n := 117) rfl ?_
                  exact j_retP C dX7_copy_117
                · refine j_aload_n C dX7_copy_95 rfl (n := 96) rfl ?_
                  refine gf_X7_54 C 0 (cX_0 g _) rfl dX7_copy_96 (n := 99) rfl ?_
                  refine j_iload_n C dX7_copy_99 rfl (n := 100) rfl ?_
                  refine j_aald C 46 2 (cX_46 g _) rfl (by decide) (b := g.2.1 53) rfl dX7_copy_100 rfl ?_
                  refine j_iload C dX7_copy_101 rfl (n := 103) rfl ?_
                  refine j_iload C dX7_copy_103 rfl (n := 105) rfl ?_
                  refine j_cz C (run_V C mi_X4_hasRun lm_X7_296 iv_X4_hasRun ⟨Nat.le_of_ble_eq_true rfl, Nat.le_of_ble_eq_true rfl⟩ (m_X4_hasRun_53 _ _ _ _) (cX_53 g _) rfl rfl rfl rfl (Nat.le_of_ble_eq_true rfl) dX7_copy_105) (n := 108) rfl (fun b23 => ?_)
                  refine j_if_ne C dX7_copy_108 (tgt := 118) (n := 111) (by decide) rfl (fun q24 => ?_) (fun q24 => ?_)
                  · refine j_aload_n C dX7_copy_118 rfl (n := 119) rfl ?_
                    refine gf_X7_54 C 0 (cX_0 g _) rfl dX7_copy_119 (n := 122) rfl ?_
                    refine j_iload_n C dX7_copy_122 rfl (n := 123) rfl ?_
                    refine j_aald C 46 2 (cX_46 g _) rfl (by decide) (b := g.2.1 53) rfl dX7_copy_123 rfl ?_
                    refine gf_X7_299 C 53 (cX_53 g _) rfl dX7_copy_124 (n := 127) rfl ?_
                    refine j_iload_n C dX7_copy_127 rfl (n := 128) rfl ?_
                    refine j_aload_n C dX7_copy_128 rfl (n := 129) rfl ?_
                    refine gf_X7_54 C 0 (cX_0 g _) rfl dX7_copy_129 (n := 132) rfl ?_
                    refine j_iload_n C dX7_copy_132 rfl (n := 133) rfl ?_
                    refine j_aald C 46 2 (cX_46 g _) rfl (by decide) (b := g.2.1 53) rfl dX7_copy_133 rfl ?_
                    refine gf_X7_299 C 53 (cX_53 g _) rfl dX7_copy_134 (n := 137) rfl ?_
                    refine j_iload C dX7_copy_137 rfl (n := 139) rfl ?_
                    refine j_iload C dX7_copy_139 rfl (n := 141) rfl ?_
                    refine j_copy C 54 54 (cX_54 g _) (cX_54 g _) (wX_54 g _ _) lm_X7_302 (Nat.le_of_ble_eq_true rfl) (Nat.le_of_ble_eq_true rfl) dX7_copy_141 (n := 144) rfl ?_
                    refine j_iload C dX7_copy_144 rfl (n := 146) rfl ?_
                    exact j_retP C dX7_copy_146
                  · refine j_aload_n C dX7_copy_111 rfl (n := 112) rfl ?_
                    refine j_ldc C dX7_copy_112 kc_X7_67 (n := 114) rfl ?_
                    refine j_bnd (fun r26 q25 => ?_)
                    refine j_ci C (run_V C mi_X7_finding lm_X7_68 iv_X7_finding ⟨Nat.le_of_ble_eq_true rfl, Nat.le_of_ble_eq_true rfl⟩ (m_X7_finding _ _ _ q25) (cX_0 g _) rfl rfl rfl rfl (Nat.le_of_ble_eq_true rfl) dX7_copy_114) (n := 117) rfl ?_
                    exact j_retP C dX7_copy_117
              · refine j_aload_n C dX7_copy_73 rfl (n := 74) rfl ?_
                refine j_ldc C dX7_copy_74 kc_X7_201 (n := 76) rfl ?_
                refine j_bnd (fun r29 q28 => ?_)
                refine j_ci C (run_V C mi_X7_finding lm_X7_68 iv_X7_finding ⟨Nat.le_of_ble_eq_true rfl, Nat.le_of_ble_eq_true rfl⟩ (m_X7_finding _ _ _ q28) (cX_0 g _) rfl rfl rfl rfl (Nat.le_of_ble_eq_true rfl) dX7_copy_76) (n := 79) rfl ?_
                exact j_retP C dX7_copy_79
            · refine j_aload_n C dX7_copy_45 rfl (n := 46) rfl ?_
              refine j_ldc C dX7_copy_46 kc_X7_236 (n := 48) rfl ?_
              refine j_bnd (fun r32 q31 => ?_)
              refine j_ci C (run_V C mi_X7_finding lm_X7_68 iv_X7_finding ⟨Nat.le_of_ble_eq_true rfl, Nat.le_of_ble_eq_true rfl⟩ (m_X7_finding _ _ _ q31) (cX_0 g _) rfl rfl rfl rfl (Nat.le_of_ble_eq_true rfl) dX7_copy_48) (n := 51) rfl ?_
              exact j_retP C dX7_copy_51
    · refine j_aload_n C dX7_copy_14 rfl (n := 15) rfl ?_
      refine j_ldc C dX7_copy_15 kc_X7_67 (n := 17) rfl ?_
      refine j_bnd (fun r35 q34 => ?_)
      refine j_ci C (run_V C mi_X7_finding lm_X7_68 iv_X7_finding ⟨Nat.le_of_ble_eq_true rfl, Nat.le_of_ble_eq_true rfl⟩ (m_X7_finding _ _ _ q34) (cX_0 g _) rfl rfl rfl rfl (Nat.le_of_ble_eq_true rfl) dX7_copy_17) (n := 20) rfl ?_
      exact j_retP C dX7_copy_20
-- X7_load
set_option maxRecDepth 20000 in
theorem j_X7_load_55 {x : Fx} {g : Gl} (C : Ok x g RX7 cX7_load 4 (some .int)) (fu : Nat) : ∀ (n : Nat) (x1 : Int32) (x2 : Int32) (x3 : Int32) (h : Hp), J x g cwX 4 2 (fun r : Int32 × Hp => qI cwX r.1 r.2) 55 [some (rf g 0), some (.int x1), some (.int x2), some (.int x3)] [] h (X7_load_55 fu n x1 x2 x3 h) := by
  intro n
  induction n with
  | zero =>
    intro x1 x2 x3 h
    rw [X7_load_55]
    exact j_none
  | succ n ih =>
    intro x1 x2 x3 h
    rw [X7_load_55]
    refine j_iload_n C dX7_load_55 rfl (n := 56) rfl ?_
    refine j_iload_n C dX7_load_56 rfl (n := 57) rfl ?_
    refine j_icmp_ge C dX7_load_57 (tgt := 106) (n := 60) (by decide) rfl (fun q1 => ?_) (fun q1 => ?_)
    · refine j_iload_n C dX7_load_106 rfl (n := 107) rfl ?_
      exact j_retP C dX7_load_107
    · refine j_aload_n C dX7_load_60 rfl (n := 61) rfl ?_
      refine gf_X7_54 C 0 (cX_0 g _) rfl dX7_load_61 (n := 64) rfl ?_
      refine j_iload_n C dX7_load_64 rfl (n := 65) rfl ?_
      refine j_chk (fun q2 => ?_)
      rcases inR_4 q2 with rfl | rfl | rfl | rfl
      · rw [shc_0]
        refine j_aald C 46 2 (cX_46 g _) rfl (by decide) (b := g.2.1 47) rfl dX7_load_65 rfl ?_
        refine gf_X7_299 C 47 (cX_47 g _) rfl dX7_load_66 (n := 69) rfl ?_
        refine j_iload_n C dX7_load_69 rfl (n := 70) rfl ?_
        refine j_iald C 48 (cX_48 g _) dX7_load_70 (n := 71) rfl ?_
        refine j_iconst C dX7_load_71 ic_1 (n := 72) rfl ?_
        refine j_bipush C dX7_load_72 bp_60 (n := 74) rfl ?_
        refine j_cz C (run_S C mi_X7_within lm_X7_94 st_X7_within ⟨Nat.le_of_ble_eq_true rfl, Nat.le_of_ble_eq_true rfl⟩ (m_X7_within _ _ _ _ _) rfl rfl rfl (Nat.le_of_ble_eq_true rfl) dX7_load_74) (n := 77) rfl (fun b3 => ?_)
        refine j_if_eq C dX7_load_77 (tgt := 106) (n := 80) (by decide) rfl (fun q4 => ?_) (fun q4 => ?_)
        · refine j_iload_n C dX7_load_106 rfl (n := 107) rfl ?_
          exact j_retP C dX7_load_107
        · refine j_aload_n C dX7_load_80 rfl (n := 81) rfl ?_
          refine gf_X7_12 C 0 (cX_0 g _) rfl dX7_load_81 (n := 84) rfl ?_
          refine gf_X7_313 C 1 (cX_1 g _) rfl dX7_load_84 (n := 87) rfl ?_
          refine j_iload_n C dX7_load_87 rfl (n := 88) rfl ?_
          refine j_aload_n C dX7_load_88 rfl (n := 89) rfl ?_
          refine gf_X7_54 C 0 (cX_0 g _) rfl dX7_load_89 (n := 92) rfl ?_
          refine j_iload_n C dX7_load_92 rfl (n := 93) rfl ?_
          refine j_aald C 46 2 (cX_46 g _) rfl (by decide) (b := g.2.1 47) rfl dX7_load_93 rfl ?_
          refine gf_X7_299 C 47 (cX_47 g _) rfl dX7_load_94 (n := 97) rfl ?_
          refine j_iload_n C dX7_load_97 rfl (n := 98) rfl ?_
          refine j_iald C 48 (cX_48 g _) dX7_load_98 (n := 99) rfl ?_
          refine j_iast C 4 (cX_4 g _) (aX_4 g _ _ _) dX7_load_99 (n := 100) rfl ?_
          refine j_iinc C dX7_load_100 rfl ic_1 (Nat.le_of_ble_eq_true rfl) (n := 103) rfl ?_
          refine j_goto C dX7_load_103 (n := 55) (by decide) ?_
          exact j_to (ih _ _ _ _) ⟨rfl, ⟨rfl, ⟨rfl, ⟨rfl, trivial⟩⟩⟩⟩
      · rw [shc_1]
        refine j_aald C 46 2 (cX_46 g _) rfl (by decide) (b := g.2.1 49) rfl dX7_load_65 rfl ?_
        refine gf_X7_299 C 49 (cX_49 g _) rfl dX7_load_66 (n := 69) rfl ?_
        refine j_iload_n C dX7_load_69 rfl (n := 70) rfl ?_
        refine j_iald C 50 (cX_50 g _) dX7_load_70 (n := 71) rfl ?_
        refine j_iconst C dX7_load_71 ic_1 (n := 72) rfl ?_
        refine j_bipush C dX7_load_72 bp_60 (n := 74) rfl ?_
        refine j_cz C (run_S C mi_X7_within lm_X7_94 st_X7_within ⟨Nat.le_of_ble_eq_true rfl, Nat.le_of_ble_eq_true rfl⟩ (m_X7_within _ _ _ _ _) rfl rfl rfl (Nat.le_of_ble_eq_true rfl) dX7_load_74) (n := 77) rfl (fun b3 => ?_)
        refine j_if_eq C dX7_load_77 (tgt := 106) (n := 80) (by decide) rfl (fun q4 => ?_) (fun q4 => ?_)
        · refine j_iload_n C dX7_load_106 rfl (n := 107) rfl ?_
          exact j_retP C dX7_load_107
        · refine j_aload_n C dX7_load_80 rfl (n := 81) rfl ?_
          refine gf_X7_12 C 0 (cX_0 g _) rfl dX7_load_81 (n := 84) rfl ?_
          refine gf_X7_313 C 1 (cX_1 g _) rfl dX7_load_84 (n := 87) rfl ?_
          refine j_iload_n C dX7_load_87 rfl (n := 88) rfl ?_
          refine j_aload_n C dX7_load_88 rfl (n := 89) rfl ?_
          refine gf_X7_54 C 0 (cX_0 g _) rfl dX7_load_89 (n := 92) rfl ?_
          refine j_iload_n C dX7_load_92 rfl (n := 93) rfl ?_
          refine j_aald C 46 2 (cX_46 g _) rfl (by decide) (b := g.2.1 49) rfl dX7_load_93 rfl ?_
          refine gf_X7_299 C 49 (cX_49 g _) rfl dX7_load_94 (n := 97) rfl ?_
          refine j_iload_n C dX7_load_97 rfl (n := 98) rfl ?_
          refine j_iald C 50 (cX_50 g _) dX7_load_98 (n := 99) rfl ?_
          refine j_iast C 4 (cX_4 g _) (aX_4 g _ _ _) dX7_load_99 (n := 100) rfl ?_
          refine j_iinc C dX7_load_100 rfl ic_1 (Nat.le_of_ble_eq_true rfl) (n := 103) rfl ?_
          refine j_goto C dX7_load_103 (n := 55) (by decide) ?_
          exact j_to (ih _ _ _ _) ⟨rfl, ⟨rfl, ⟨rfl, ⟨rfl, trivial⟩⟩⟩⟩
      · rw [shc_2]
        refine j_aald C 46 2 (cX_46 g _) rfl (by decide) (b := g.2.1 51) rfl dX7_load_65 rfl ?_
        refine gf_X7_299 C 51 (cX_51 g _) rfl dX7_load_66 (n := 69) rfl ?_
        refine j_iload_n C dX7_load_69 rfl (n := 70) rfl ?_
        refine j_iald C 52 (cX_52 g _) dX7_load_70 (n := 71) rfl ?_
        refine j_iconst C dX7_load_71 ic_1 (n := 72) rfl ?_
        refine j_bipush C dX7_load_72 bp_60 (n := 74) rfl ?_
        refine j_cz C (run_S C mi_X7_within lm_X7_94 st_X7_within ⟨Nat.le_of_ble_eq_true rfl, Nat.le_of_ble_eq_true rfl⟩ (m_X7_within _ _ _ _ _) rfl rfl rfl (Nat.le_of_ble_eq_true rfl) dX7_load_74) (n := 77) rfl (fun b3 => ?_)
        refine j_if_eq C dX7_load_77 (tgt := 106) (n := 80) (by decide) rfl (fun q4 => ?_) (fun q4 => ?_)
        · refine j_iload_n C dX7_load_106 rfl (n := 107) rfl ?_
          exact j_retP C dX7_load_107
        · refine j_aload_n C dX7_load_80 rfl (n := 81) rfl ?_
          refine gf_X7_12 C 0 (cX_0 g _) rfl dX7_load_81 (n := 84) rfl ?_
          refine gf_X7_313 C 1 (cX_1 g _) rfl dX7_load_84 (n := 87) rfl ?_
          refine j_iload_n C dX7_load_87 rfl (n := 88) rfl ?_
          refine j_aload_n C dX7_load_88 rfl (n := 89) rfl ?_
          refine gf_X7_54 C 0 (cX_0 g _) rfl dX7_load_89 (n := 92) rfl ?_
          refine j_iload_n C dX7_load_92 rfl (n := 93) rfl ?_
          refine j_aald C 46 2 (cX_46 g _) rfl (by decide) (b := g.2.1 51) rfl dX7_load_93 rfl ?_
          refine gf_X7_299 C 51 (cX_51 g _) rfl dX7_load_94 (n := 97) rfl ?_
          refine j_iload_n C dX7_load_97 rfl (n := 98) rfl ?_
          refine j_iald C 52 (cX_52 g _) dX7_load_98 (n := 99) rfl ?_
          refine j_iast C 4 (cX_4 g _) (aX_4 g _ _ _) dX7_load_99 (n := 100) rfl ?_
          refine j_iinc C dX7_load_100 rfl ic_1 (Nat.le_of_ble_eq_true rfl) (n := 103) rfl ?_
          refine j_goto C dX7_load_103 (n := 55) (by decide) ?_
          exact j_to (ih _ _ _ _) ⟨rfl, ⟨rfl, ⟨rfl, ⟨rfl, trivial⟩⟩⟩⟩
      · rw [shc_3]
        refine j_aald C 46 2 (cX_46 g _) rfl (by decide) (b := g.2.1 53) rfl dX7_load_65 rfl ?_
        refine gf_X7_299 C 53 (cX_53 g _) rfl dX7_load_66 (n := 69) rfl ?_
        refine j_iload_n C dX7_load_69 rfl (n := 70) rfl ?_
        refine j_iald C 54 (cX_54 g _) dX7_load_70 (n := 71) rfl ?_
        refine j_iconst C dX7_load_71 ic_1 (n := 72) rfl ?_
        refine j_bipush C dX7_load_72 bp_60 (n := 74) rfl ?_
        refine j_cz C (run_S C mi_X7_within lm_X7_94 st_X7_within ⟨Nat.le_of_ble_eq_true rfl, Nat.le_of_ble_eq_true rfl⟩ (m_X7_within _ _ _ _ _) rfl rfl rfl (Nat.le_of_ble_eq_true rfl) dX7_load_74) (n := 77) rfl (fun b3 => ?_)
        refine j_if_eq C dX7_load_77 (tgt := 106) (n := 80) (by decide) rfl (fun q4 => ?_) (fun q4 => ?_)
        · refine j_iload_n C dX7_load_106 rfl (n := 107) rfl ?_
          exact j_retP C dX7_load_107
        · refine j_aload_n C dX7_load_80 rfl (n := 81) rfl ?_
          refine gf_X7_12 C 0 (cX_0 g _) rfl dX7_load_81 (n := 84) rfl ?_
          refine gf_X7_313 C 1 (cX_1 g _) rfl dX7_load_84 (n := 87) rfl ?_
          refine j_iload_n C dX7_load_87 rfl (n := 88) rfl ?_
          refine j_aload_n C dX7_load_88 rfl (n := 89) rfl ?_
          refine gf_X7_54 C 0 (cX_0 g _) rfl dX7_load_89 (n := 92) rfl ?_
          refine j_iload_n C dX7_load_92 rfl (n := 93) rfl ?_
          refine j_aald C 46 2 (cX_46 g _) rfl (by decide) (b := g.2.1 53) rfl dX7_load_93 rfl ?_
          refine gf_X7_299 C 53 (cX_53 g _) rfl dX7_load_94 (n := 97) rfl ?_
          refine j_iload_n C dX7_load_97 rfl (n := 98) rfl ?_
          refine j_iald C 54 (cX_54 g _) dX7_load_98 (n := 99) rfl ?_
          refine j_iast C 4 (cX_4 g _) (aX_4 g _ _ _) dX7_load_99 (n := 100) rfl ?_
          refine j_iinc C dX7_load_100 rfl ic_1 (Nat.le_of_ble_eq_true rfl) (n := 103) rfl ?_
          refine j_goto C dX7_load_103 (n := 55) (by decide) ?_
          exact j_to (ih _ _ _ _) ⟨rfl, ⟨rfl, ⟨rfl, ⟨rfl, trivial⟩⟩⟩⟩
set_option maxRecDepth 20000 in
theorem m_X7_load (l : Launch) (fu : Nat) (x1 : Int32) (h : Hp) {r : Int32 × Hp} (e : X7_load fu x1 h = some r) : CT l yX7_load cX7_load 4 (some .int) 2 cwX (fun g => [rf g 0, .int x1]) h (qI cwX r.1 r.2) := by
  refine ct_of (QR := (fun r : Int32 × Hp => qI cwX r.1 r.2)) (by decide +kernel) (fun g => ⟨rfl, Nat.le_of_ble_eq_true rfl⟩) e (fun x g hl C => ?_)
  unfold X7_load
  refine j_iload_n C dX7_load_0 rfl (n := 1) rfl ?_
  refine j_cz C (run_S C mi_X7_isSheet lm_X7_229 st_X7_isSheet ⟨Nat.le_of_ble_eq_true rfl, Nat.le_of_ble_eq_true rfl⟩ (m_X7_isSheet _ _ _) rfl rfl rfl (Nat.le_of_ble_eq_true rfl) dX7_load_1) (n := 4) rfl (fun b1 => ?_)
  refine j_if_ne C dX7_load_4 (tgt := 14) (n := 7) (by decide) rfl (fun q2 => ?_) (fun q2 => ?_)
  · refine j_aload_n C dX7_load_14 rfl (n := 15) rfl ?_
    refine gf_X7_54 C 0 (cX_0 g _) rfl dX7_load_15 (n := 18) rfl ?_
    refine j_iload_n C dX7_load_18 rfl (n := 19) rfl ?_
    refine j_chk (fun q3 => ?_)
    rcases inR_4 q3 with rfl | rfl | rfl | rfl
    · rw [shc_0]
      refine j_aald C 46 2 (cX_46 g _) rfl (by decide) (b := g.2.1 47) rfl dX7_load_19 rfl ?_
      refine j_cz C (run_V C mi_X4_isMissing lm_X7_232 iv_X4_isMissing ⟨Nat.le_of_ble_eq_true rfl, Nat.le_of_ble_eq_true rfl⟩ (m_X4_isMissing_47 _ _) (cX_47 g _) rfl rfl rfl rfl (Nat.le_of_ble_eq_true rfl) dX7_load_20) (n := 23) rfl (fun b4 => ?_)
      refine j_if_eq C dX7_load_23 (tgt := 33) (n := 26) (by decide) rfl (fun q5 => ?_) (fun q5 => ?_)
      · refine j_iconst C dX7_load_33 ic_0 (n := 34) rfl ?_
        refine j_istore_n C dX7_load_34 (Nat.le_of_ble_eq_true rfl) (n := 35) rfl ?_
        refine j_aload_n C dX7_load_35 rfl (n := 36) rfl ?_
        refine gf_X7_54 C 0 (cX_0 g _) rfl dX7_load_36 (n := 39) rfl ?_
        refine j_iload_n C dX7_load_39 rfl (n := 40) rfl ?_
        refine j_aald C 46 2 (cX_46 g _) rfl (by decide) (b := g.2.1 47) rfl dX7_load_40 rfl ?_
        refine gf_X7_241 C 47 (cX_47 g _) rfl dX7_load_41 (n := 44) rfl ?_
        refine j_aload_n C dX7_load_44 rfl (n := 45) rfl ?_
        refine gf_X7_12 C 0 (cX_0 g _) rfl dX7_load_45 (n := 48) rfl ?_
        refine gf_X7_72 C 1 (cX_1 g _) rfl dX7_load_48 (n := 51) rfl ?_
        refine j_mmin C lm_X7_308 (Nat.le_of_ble_eq_true rfl) (Nat.le_of_ble_eq_true rfl) dX7_load_51 (n := 54) rfl ?_
        refine j_istore_n C dX7_load_54 (Nat.le_of_ble_eq_true rfl) (n := 55) rfl ?_
        exact j_to (j_X7_load_55 C _ _ _ _ _ _) ⟨rfl, ⟨rfl, ⟨rfl, ⟨rfl, trivial⟩⟩⟩⟩
      · refine j_aload_n C dX7_load_26 rfl (n := 27) rfl ?_
        refine j_ldc C dX7_load_27 kc_X7_236 (n := 29) rfl ?_
        refine j_bnd (fun r7 q6 => ?_)
        refine j_ci C (run_V C mi_X7_finding lm_X7_68 iv_X7_finding ⟨Nat.le_of_ble_eq_true rfl, Nat.le_of_ble_eq_true rfl⟩ (m_X7_finding _ _ _ q6) (cX_0 g _) rfl rfl rfl rfl (Nat.le_of_ble_eq_true rfl) dX7_load_29) (n := 32) rfl ?_
        exact j_retP C dX7_load_32
    · rw [shc_1]
      refine j_aald C 46 2 (cX_46 g _) rfl (by decide) (b := g.2.1 49) rfl dX7_load_19 rfl ?_
      refine j_cz C (run_V C mi_X4_isMissing lm_X7_232 iv_X4_isMissing ⟨Nat.le_of_ble_eq_true rfl, Nat.le_of_ble_eq_true rfl⟩ (m_X4_isMissing_49 _ _) (cX_49 g _) rfl rfl rfl rfl (Nat.le_of_ble_eq_true rfl) dX7_load_20) (n := 23) rfl (fun b4 => ?_)
      refine j_if_eq C dX7_load_23 (tgt := 33) (n := 26) (by decide) rfl (fun q5 => ?_) (fun q5 => ?_)
      · refine j_iconst C dX7_load_33 ic_0 (n := 34) rfl ?_
        refine j_istore_n C dX7_load_34 (Nat.le_of_ble_eq_true rfl) (n := 35) rfl ?_
        refine j_aload_n C dX7_load_35 rfl (n := 36) rfl ?_
        refine gf_X7_54 C 0 (cX_0 g _) rfl dX7_load_36 (n := 39) rfl ?_
        refine j_iload_n C dX7_load_39 rfl (n := 40) rfl ?_
        refine j_aald C 46 2 (cX_46 g _) rfl (by decide) (b := g.2.1 49) rfl dX7_load_40 rfl ?_
        refine gf_X7_241 C 49 (cX_49 g _) rfl dX7_load_41 (n := 44) rfl ?_
        refine j_aload_n C dX7_load_44 rfl (n := 45) rfl ?_
        refine gf_X7_12 C 0 (cX_0 g _) rfl dX7_load_45 (n := 48) rfl ?_
        refine gf_X7_72 C 1 (cX_1 g _) rfl dX7_load_48 (n := 51) rfl ?_
        refine j_mmin C lm_X7_308 (Nat.le_of_ble_eq_true rfl) (Nat.le_of_ble_eq_true rfl) dX7_load_51 (n := 54) rfl ?_
        refine j_istore_n C dX7_load_54 (Nat.le_of_ble_eq_true rfl) (n := 55) rfl ?_
        exact j_to (j_X7_load_55 C _ _ _ _ _ _) ⟨rfl, ⟨rfl, ⟨rfl, ⟨rfl, trivial⟩⟩⟩⟩
      · refine j_aload_n C dX7_load_26 rfl (n := 27) rfl ?_
        refine j_ldc C dX7_load_27 kc_X7_236 (n := 29) rfl ?_
        refine j_bnd (fun r7 q6 => ?_)
        refine j_ci C (run_V C mi_X7_finding lm_X7_68 iv_X7_finding ⟨Nat.le_of_ble_eq_true rfl, Nat.le_of_ble_eq_true rfl⟩ (m_X7_finding _ _ _ q6) (cX_0 g _) rfl rfl rfl rfl (Nat.le_of_ble_eq_true rfl) dX7_load_29) (n := 32) rfl ?_
        exact j_retP C dX7_load_32
    · rw [shc_2]
      refine j_aald C 46 2 (cX_46 g _) rfl (by decide) (b := g.2.1 51) rfl dX7_load_19 rfl ?_
      refine j_cz C (run_V C mi_X4_isMissing lm_X7_232 iv_X4_isMissing ⟨Nat.le_of_ble_eq_true rfl, Nat.le_of_ble_eq_true rfl⟩ (m_X4_isMissing_51 _ _) (cX_51 g _) rfl rfl rfl rfl (Nat.le_of_ble_eq_true rfl) dX7_load_20) (n := 23) rfl (fun b4 => ?_)
      refine j_if_eq C dX7_load_23 (tgt := 33) (n := 26) (by decide) rfl (fun q5 => ?_) (fun q5 => ?_)
      · refine j_iconst C dX7_load_33 ic_0 (n := 34) rfl ?_
        refine j_istore_n C dX7_load_34 (Nat.le_of_ble_eq_true rfl) (n := 35) rfl ?_
        refine j_aload_n C dX7_load_35 rfl (n := 36) rfl ?_
        refine gf_X7_54 C 0 (cX_0 g _) rfl dX7_load_36 (n := 39) rfl ?_
        refine j_iload_n C dX7_load_39 rfl (n := 40) rfl ?_
        refine j_aald C 46 2 (cX_46 g _) rfl (by decide) (b := g.2.1 51) rfl dX7_load_40 rfl ?_
        refine gf_X7_241 C 51 (cX_51 g _) rfl dX7_load_41 (n := 44) rfl ?_
        refine j_aload_n C dX7_load_44 rfl (n := 45) rfl ?_
        refine gf_X7_12 C 0 (cX_0 g _) rfl dX7_load_45 (n := 48) rfl ?_
        refine gf_X7_72 C 1 (cX_1 g _) rfl dX7_load_48 (n := 51) rfl ?_
        refine j_mmin C lm_X7_308 (Nat.le_of_ble_eq_true rfl) (Nat.le_of_ble_eq_true rfl) dX7_load_51 (n := 54) rfl ?_
        refine j_istore_n C dX7_load_54 (Nat.le_of_ble_eq_true rfl) (n := 55) rfl ?_
        exact j_to (j_X7_load_55 C _ _ _ _ _ _) ⟨rfl, ⟨rfl, ⟨rfl, ⟨rfl, trivial⟩⟩⟩⟩
      · refine j_aload_n C dX7_load_26 rfl (n := 27) rfl ?_
        refine j_ldc C dX7_load_27 kc_X7_236 (n := 29) rfl ?_
        refine j_bnd (fun r7 q6 => ?_)
        refine j_ci C (run_V C mi_X7_finding lm_X7_68 iv_X7_finding ⟨Nat.le_of_ble_eq_true rfl, Nat.le_of_ble_eq_true rfl⟩ (m_X7_finding _ _ _ q6) (cX_0 g _) rfl rfl rfl rfl (Nat.le_of_ble_eq_true rfl) dX7_load_29) (n := 32) rfl ?_
        exact j_retP C dX7_load_32
    · rw [shc_3]
      refine j_aald C 46 2 (cX_46 g _) rfl (by decide) (b := g.2.1 53) rfl dX7_load_19 rfl ?_
      refine j_cz C (run_V C mi_X4_isMissing lm_X7_232 iv_X4_isMissing ⟨Nat.le_of_ble_eq_true rfl, Nat.le_of_ble_eq_true rfl⟩ (m_X4_isMissing_53 _ _) (cX_53 g _) rfl rfl rfl rfl (Nat.le_of_ble_eq_true rfl) dX7_load_20) (n := 23) rfl (fun b4 => ?_)
      refine j_if_eq C dX7_load_23 (tgt := 33) (n := 26) (by decide) rfl (fun q5 => ?_) (fun q5 => ?_)
      · refine j_iconst C dX7_load_33 ic_0 (n := 34) rfl ?_
        refine j_istore_n C dX7_load_34 (Nat.le_of_ble_eq_true rfl) (n := 35) rfl ?_
        refine j_aload_n C dX7_load_35 rfl (n := 36) rfl ?_
        refine gf_X7_54 C 0 (cX_0 g _) rfl dX7_load_36 (n := 39) rfl ?_
        refine j_iload_n C dX7_load_39 rfl (n := 40) rfl ?_
        refine j_aald C 46 2 (cX_46 g _) rfl (by decide) (b := g.2.1 53) rfl dX7_load_40 rfl ?_
        refine gf_X7_241 C 53 (cX_53 g _) rfl dX7_load_41 (n := 44) rfl ?_
        refine j_aload_n C dX7_load_44 rfl (n := 45) rfl ?_
        refine gf_X7_12 C 0 (cX_0 g _) rfl dX7_load_45 (n := 48) rfl ?_
        refine gf_X7_72 C 1 (cX_1 g _) rfl dX7_load_48 (n := 51) rfl ?_
        refine j_mmin C lm_X7_308 (Nat.le_of_ble_eq_true rfl) (Nat.le_of_ble_eq_true rfl) dX7_load_51 (n := 54) rfl ?_
        refine j_istore_n C dX7_load_54 (Nat.le_of_ble_eq_true rfl) (n := 55) rfl ?_
        exact j_to (j_X7_load_55 C _ _ _ _ _ _) ⟨rfl, ⟨rfl, ⟨rfl, ⟨rfl, trivial⟩⟩⟩⟩
      · refine j_aload_n C dX7_load_26 rfl (n := 27) rfl ?_
        refine j_ldc C dX7_load_27 kc_X7_236 (n := 29) rfl ?_
        refine j_bnd (fun r7 q6 => ?_)
        refine j_ci C (run_V C mi_X7_finding lm_X7_68 iv_X7_finding ⟨Nat.le_of_ble_eq_true rfl, Nat.le_of_ble_eq_true rfl⟩ (m_X7_finding _ _ _ q6) (cX_0 g _) rfl rfl rfl rfl (Nat.le_of_ble_eq_true rfl) dX7_load_29) (n := 32) rfl ?_
        exact j_retP C dX7_load_32
  · refine j_aload_n C dX7_load_7 rfl (n := 8) rfl ?_
    refine j_ldc C dX7_load_8 kc_X7_67 (n := 10) rfl ?_
    refine j_bnd (fun r10 q9 => ?_)
    refine j_ci C (run_V C mi_X7_finding lm_X7_68 iv_X7_finding ⟨Nat.le_of_ble_eq_true rfl, Nat.le_of_ble_eq_true rfl⟩ (m_X7_finding _ _ _ q9) (cX_0 g _) rfl rfl rfl rfl (Nat.le_of_ble_eq_true rfl) dX7_load_10) (n := 13) rfl ?_
    exact j_retP C dX7_load_13
-- X7_judge
set_option maxRecDepth 20000 in
theorem j_X7_judge_35 {x : Fx} {g : Gl} (C : Ok x g RX7 cX7_judge 3 (some .int)) (fu : Nat) : ∀ (n : Nat) (x1 : Int32) (x2 : Int32) (h : Hp), J x g cwX 3 5 (fun r : Int32 × Hp => qI cwX r.1 r.2) 35 [some (rf g 0), some (.int x1), some (.int x2)] [] h (X7_judge_35 fu n x1 x2 h) := by
  intro n
  induction n with
  | zero =>
    intro x1 x2 h
    rw [X7_judge_35]
    exact j_none
  | succ n ih =>
    intro x1 x2 h
    rw [X7_judge_35]
    refine j_iload_n C dX7_judge_35 rfl (n := 36) rfl ?_
    refine j_aload_n C dX7_judge_36 rfl (n := 37) rfl ?_
    refine gf_X7_54 C 0 (cX_0 g _) rfl dX7_judge_37 (n := 40) rfl ?_
    refine j_iload_n C dX7_judge_40 rfl (n := 41) rfl ?_
    refine j_chk (fun q1 => ?_)
    rcases inR_4 q1 with rfl | rfl | rfl | rfl
    · rw [shc_0]
      refine j_aald C 46 2 (cX_46 g _) rfl (by decide) (b := g.2.1 47) rfl dX7_judge_41 rfl ?_
      refine gf_X7_241 C 47 (cX_47 g _) rfl dX7_judge_42 (n := 45) rfl ?_
      refine j_icmp_ge C dX7_judge_45 (tgt := 87) (n := 48) (by decide) rfl (fun q2 => ?_) (fun q2 => ?_)
      · refine j_iconst C dX7_judge_87 ic_0 (n := 88) rfl ?_
        exact j_retP C dX7_judge_88
      · refine j_iload_n C dX7_judge_48 rfl (n := 49) rfl ?_
        refine j_cz C (run_S C mi_X7_isRoom lm_X7_107 st_X7_isRoom ⟨Nat.le_of_ble_eq_true rfl, Nat.le_of_ble_eq_true rfl⟩ (m_X7_isRoom _ _ _) rfl rfl rfl (Nat.le_of_ble_eq_true rfl) dX7_judge_49) (n := 52) rfl (fun b3 => ?_)
        refine j_if_eq C dX7_judge_52 (tgt := 77) (n := 55) (by decide) rfl (fun q4 => ?_) (fun q4 => ?_)
        · refine j_iconst C dX7_judge_77 ic_1 (n := 78) rfl ?_
          refine j_iload_n C dX7_judge_78 rfl (n := 79) rfl ?_
          refine j_iadd C dX7_judge_79 (n := 80) rfl ?_
          exact j_retP C dX7_judge_80
        · refine j_aload_n C dX7_judge_55 rfl (n := 56) rfl ?_
          refine gf_X7_54 C 0 (cX_0 g _) rfl dX7_judge_56 (n := 59) rfl ?_
          refine j_iload_n C dX7_judge_59 rfl (n := 60) rfl ?_
          refine j_aald C 46 2 (cX_46 g _) rfl (by decide) (b := g.2.1 47) rfl dX7_judge_60 rfl ?_
          refine gf_X7_299 C 47 (cX_47 g _) rfl dX7_judge_61 (n := 64) rfl ?_
          refine j_iload_n C dX7_judge_64 rfl (n := 65) rfl ?_
          refine j_iald C 48 (cX_48 g _) dX7_judge_65 (n := 66) rfl ?_
          refine j_aload_n C dX7_judge_66 rfl (n := 67) rfl ?_
          refine gf_X7_12 C 0 (cX_0 g _) rfl dX7_judge_67 (n := 70) rfl ?_
          refine j_iload_n C dX7_judge_70 rfl (n := 71) rfl ?_
          refine j_bnd (fun r6 q5 => ?_)
          refine j_ci C (run_V C mi_X1_likeness lm_X7_119 iv_X1_likeness ⟨Nat.le_of_ble_eq_true rfl, Nat.le_of_ble_eq_true rfl⟩ (m_X1_likeness _ _ _ _ q5) (cX_1 g _) rfl rfl rfl rfl (Nat.le_of_ble_eq_true rfl) dX7_judge_71) (n := 74) rfl ?_
          refine j_icmp_eq C dX7_judge_74 (tgt := 81) (n := 77) (by decide) rfl (fun q8 => ?_) (fun q8 => ?_)
          · refine j_iinc C dX7_judge_81 rfl ic_1 (Nat.le_of_ble_eq_true rfl) (n := 84) rfl ?_
            refine j_goto C dX7_judge_84 (n := 35) (by decide) ?_
            exact j_to (ih _ _ _) ⟨rfl, ⟨rfl, ⟨rfl, trivial⟩⟩⟩
          · refine j_iconst C dX7_judge_77 ic_1 (n := 78) rfl ?_
            refine j_iload_n C dX7_judge_78 rfl (n := 79) rfl ?_
            refine j_iadd C dX7_judge_79 (n := 80) rfl ?_
            exact j_retP C dX7_judge_80
    · rw [shc_1]
      refine j_aald C 46 2 (cX_46 g _) rfl (by decide) (b := g.2.1 49) rfl dX7_judge_41 rfl ?_
      refine gf_X7_241 C 49 (cX_49 g _) rfl dX7_judge_42 (n := 45) rfl ?_
      refine j_icmp_ge C dX7_judge_45 (tgt := 87) (n := 48) (by decide) rfl (fun q2 => ?_) (fun q2 => ?_)
      · refine j_iconst C dX7_judge_87 ic_0 (n := 88) rfl ?_
        exact j_retP C dX7_judge_88
      · refine j_iload_n C dX7_judge_48 rfl (n := 49) rfl ?_
        refine j_cz C (run_S C mi_X7_isRoom lm_X7_107 st_X7_isRoom ⟨Nat.le_of_ble_eq_true rfl, Nat.le_of_ble_eq_true rfl⟩ (m_X7_isRoom _ _ _) rfl rfl rfl (Nat.le_of_ble_eq_true rfl) dX7_judge_49) (n := 52) rfl (fun b3 => ?_)
        refine j_if_eq C dX7_judge_52 (tgt := 77) (n := 55) (by decide) rfl (fun q4 => ?_) (fun q4 => ?_)
        · refine j_iconst C dX7_judge_77 ic_1 (n := 78) rfl ?_
          refine j_iload_n C dX7_judge_78 rfl (n := 79) rfl ?_
          refine j_iadd C dX7_judge_79 (n := 80) rfl ?_
          exact j_retP C dX7_judge_80
        · refine j_aload_n C dX7_judge_55 rfl (n := 56) rfl ?_
          refine gf_X7_54 C 0 (cX_0 g _) rfl dX7_judge_56 (n := 59) rfl ?_
          refine j_iload_n C dX7_judge_59 rfl (n := 60) rfl ?_
          refine j_aald C 46 2 (cX_46 g _) rfl (by decide) (b := g.2.1 49) rfl dX7_judge_60 rfl ?_
          refine gf_X7_299 C 49 (cX_49 g _) rfl dX7_judge_61 (n := 64) rfl ?_
          refine j_iload_n C dX7_judge_64 rfl (n := 65) rfl ?_
          refine j_iald C 50 (cX_50 g _) dX7_judge_65 (n := 66) rfl ?_
          refine j_aload_n C dX7_judge_66 rfl (n := 67) rfl ?_
          refine gf_X7_12 C 0 (cX_0 g _) rfl dX7_judge_67 (n := 70) rfl ?_
          refine j_iload_n C dX7_judge_70 rfl (n := 71) rfl ?_
          refine j_bnd (fun r6 q5 => ?_)
          refine j_ci C (run_V C mi_X1_likeness lm_X7_119 iv_X1_likeness ⟨Nat.le_of_ble_eq_true rfl, Nat.le_of_ble_eq_true rfl⟩ (m_X1_likeness _ _ _ _ q5) (cX_1 g _) rfl rfl rfl rfl (Nat.le_of_ble_eq_true rfl) dX7_judge_71) (n := 74) rfl ?_
          refine j_icmp_eq C dX7_judge_74 (tgt := 81) (n := 77) (by decide) rfl (fun q8 => ?_) (fun q8 => ?_)
          · refine j_iinc C dX7_judge_81 rfl ic_1 (Nat.le_of_ble_eq_true rfl) (n := 84) rfl ?_
            refine j_goto C dX7_judge_84 (n := 35) (by decide) ?_
            exact j_to (ih _ _ _) ⟨rfl, ⟨rfl, ⟨rfl, trivial⟩⟩⟩
          · refine j_iconst C dX7_judge_77 ic_1 (n := 78) rfl ?_
            refine j_iload_n C dX7_judge_78 rfl (n := 79) rfl ?_
            refine j_iadd C dX7_judge_79 (n := 80) rfl ?_
            exact j_retP C dX7_judge_80
    · rw [shc_2]
      refine j_aald C 46 2 (cX_46 g _) rfl (by decide) (b := g.2.1 51) rfl dX7_judge_41 rfl ?_
      refine gf_X7_241 C 51 (cX_51 g _) rfl dX7_judge_42 (n := 45) rfl ?_
      refine j_icmp_ge C dX7_judge_45 (tgt := 87) (n := 48) (by decide) rfl (fun q2 => ?_) (fun q2 => ?_)
      · refine j_iconst C dX7_judge_87 ic_0 (n := 88) rfl ?_
        exact j_retP C dX7_judge_88
      · refine j_iload_n C dX7_judge_48 rfl (n := 49) rfl ?_
        refine j_cz C (run_S C mi_X7_isRoom lm_X7_107 st_X7_isRoom ⟨Nat.le_of_ble_eq_true rfl, Nat.le_of_ble_eq_true rfl⟩ (m_X7_isRoom _ _ _) rfl rfl rfl (Nat.le_of_ble_eq_true rfl) dX7_judge_49) (n := 52) rfl (fun b3 => ?_)
        refine j_if_eq C dX7_judge_52 (tgt := 77) (n := 55) (by decide) rfl (fun q4 => ?_) (fun q4 => ?_)
        · refine j_iconst C dX7_judge_77 ic_1 (n := 78) rfl ?_
          refine j_iload_n C dX7_judge_78 rfl (n := 79) rfl ?_
          refine j_iadd C dX7_judge_79 (n := 80) rfl ?_
          exact j_retP C dX7_judge_80
        · refine j_aload_n C dX7_judge_55 rfl (n := 56) rfl ?_
          refine gf_X7_54 C 0 (cX_0 g _) rfl dX7_judge_56 (n := 59) rfl ?_
          refine j_iload_n C dX7_judge_59 rfl (n := 60) rfl ?_
          refine j_aald C 46 2 (cX_46 g _) rfl (by decide) (b := g.2.1 51) rfl dX7_judge_60 rfl ?_
          refine gf_X7_299 C 51 (cX_51 g _) rfl dX7_judge_61 (n := 64) rfl ?_
          refine j_iload_n C dX7_judge_64 rfl (n := 65) rfl ?_
          refine j_iald C 52 (cX_52 g _) dX7_judge_65 (n := 66) rfl ?_
          refine j_aload_n C dX7_judge_66 rfl (n := 67) rfl ?_
          refine gf_X7_12 C 0 (cX_0 g _) rfl dX7_judge_67 (n := 70) rfl ?_
          refine j_iload_n C dX7_judge_70 rfl (n := 71) rfl ?_
          refine j_bnd (fun r6 q5 => ?_)
          refine j_ci C (run_V C mi_X1_likeness lm_X7_119 iv_X1_likeness ⟨Nat.le_of_ble_eq_true rfl, Nat.le_of_ble_eq_true rfl⟩ (m_X1_likeness _ _ _ _ q5) (cX_1 g _) rfl rfl rfl rfl (Nat.le_of_ble_eq_true rfl) dX7_judge_71) (n := 74) rfl ?_
          refine j_icmp_eq C dX7_judge_74 (tgt := 81) (n := 77) (by decide) rfl (fun q8 => ?_) (fun q8 => ?_)
          · refine j_iinc C dX7_judge_81 rfl ic_1 (Nat.le_of_ble_eq_true rfl) (n := 84) rfl ?_
            refine j_goto C dX7_judge_84 (n := 35) (by decide) ?_
            exact j_to (ih _ _ _) ⟨rfl, ⟨rfl, ⟨rfl, trivial⟩⟩⟩
          · refine j_iconst C dX7_judge_77 ic_1 (n := 78) rfl ?_
            refine j_iload_n C dX7_judge_78 rfl (n := 79) rfl ?_
            refine j_iadd C dX7_judge_79 (n := 80) rfl ?_
            exact j_retP C dX7_judge_80
    · rw [shc_3]
      refine j_aald C 46 2 (cX_46 g _) rfl (by decide) (b := g.2.1 53) rfl dX7_judge_41 rfl ?_
      refine gf_X7_241 C 53 (cX_53 g _) rfl dX7_judge_42 (n := 45) rfl ?_
      refine j_icmp_ge C dX7_judge_45 (tgt := 87) (n := 48) (by decide) rfl (fun q2 => ?_) (fun q2 => ?_)
      · refine j_iconst C dX7_judge_87 ic_0 (n := 88) rfl ?_
        exact j_retP C dX7_judge_88
      · refine j_iload_n C dX7_judge_48 rfl (n := 49) rfl ?_
        refine j_cz C (run_S C mi_X7_isRoom lm_X7_107 st_X7_isRoom ⟨Nat.le_of_ble_eq_true rfl, Nat.le_of_ble_eq_true rfl⟩ (m_X7_isRoom _ _ _) rfl rfl rfl (Nat.le_of_ble_eq_true rfl) dX7_judge_49) (n := 52) rfl (fun b3 => ?_)
        refine j_if_eq C dX7_judge_52 (tgt := 77) (n := 55) (by decide) rfl (fun q4 => ?_) (fun q4 => ?_)
        · refine j_iconst C dX7_judge_77 ic_1 (n := 78) rfl ?_
          refine j_iload_n C dX7_judge_78 rfl (n := 79) rfl ?_
          refine j_iadd C dX7_judge_79 (n := 80) rfl ?_
          exact j_retP C dX7_judge_80
        · refine j_aload_n C dX7_judge_55 rfl (n := 56) rfl ?_
          refine gf_X7_54 C 0 (cX_0 g _) rfl dX7_judge_56 (n := 59) rfl ?_
          refine j_iload_n C dX7_judge_59 rfl (n := 60) rfl ?_
          refine j_aald C 46 2 (cX_46 g _) rfl (by decide) (b := g.2.1 53) rfl dX7_judge_60 rfl ?_
          refine gf_X7_299 C 53 (cX_53 g _) rfl dX7_judge_61 (n := 64) rfl ?_
          refine j_iload_n C dX7_judge_64 rfl (n := 65) rfl ?_
          refine j_iald C 54 (cX_54 g _) dX7_judge_65 (n := 66) rfl ?_
          refine j_aload_n C dX7_judge_66 rfl (n := 67) rfl ?_
          refine gf_X7_12 C 0 (cX_0 g _) rfl dX7_judge_67 (n := 70) rfl ?_
          refine j_iload_n C dX7_judge_70 rfl (n := 71) rfl ?_
          refine j_bnd (fun r6 q5 => ?_)
          refine j_ci C (run_V C mi_X1_likeness lm_X7_119 iv_X1_likeness ⟨Nat.le_of_ble_eq_true rfl, Nat.le_of_ble_eq_true rfl⟩ (m_X1_likeness _ _ _ _ q5) (cX_1 g _) rfl rfl rfl rfl (Nat.le_of_ble_eq_true rfl) dX7_judge_71) (n := 74) rfl ?_
          refine j_icmp_eq C dX7_judge_74 (tgt := 81) (n := 77) (by decide) rfl (fun q8 => ?_) (fun q8 => ?_)
          · refine j_iinc C dX7_judge_81 rfl ic_1 (Nat.le_of_ble_eq_true rfl) (n := 84) rfl ?_
            refine j_goto C dX7_judge_84 (n := 35) (by decide) ?_
            exact j_to (ih _ _ _) ⟨rfl, ⟨rfl, ⟨rfl, trivial⟩⟩⟩
          · refine j_iconst C dX7_judge_77 ic_1 (n := 78) rfl ?_
            refine j_iload_n C dX7_judge_78 rfl (n := 79) rfl ?_
            refine j_iadd C dX7_judge_79 (n := 80) rfl ?_
            exact j_retP C dX7_judge_80
set_option maxRecDepth 20000 in
theorem m_X7_judge (l : Launch) (fu : Nat) (x1 : Int32) (h : Hp) {r : Int32 × Hp} (e : X7_judge fu x1 h = some r) : CT l yX7_judge cX7_judge 3 (some .int) 5 cwX (fun g => [rf g 0, .int x1]) h (qI cwX r.1 r.2) := by
  refine ct_of (QR := (fun r : Int32 × Hp => qI cwX r.1 r.2)) (by decide +kernel) (fun g => ⟨rfl, Nat.le_of_ble_eq_true rfl⟩) e (fun x g hl C => ?_)
  unfold X7_judge
  refine j_iload_n C dX7_judge_0 rfl (n := 1) rfl ?_
  refine j_cz C (run_S C mi_X7_isSheet lm_X7_229 st_X7_isSheet ⟨Nat.le_of_ble_eq_true rfl, Nat.le_of_ble_eq_true rfl⟩ (m_X7_isSheet _ _ _) rfl rfl rfl (Nat.le_of_ble_eq_true rfl) dX7_judge_1) (n := 4) rfl (fun b1 => ?_)
  refine j_if_ne C dX7_judge_4 (tgt := 14) (n := 7) (by decide) rfl (fun q2 => ?_) (fun q2 => ?_)
  · refine j_aload_n C dX7_judge_14 rfl (n := 15) rfl ?_
    refine gf_X7_54 C 0 (cX_0 g _) rfl dX7_judge_15 (n := 18) rfl ?_
    refine j_iload_n C dX7_judge_18 rfl (n := 19) rfl ?_
    refine j_chk (fun q3 => ?_)
    rcases inR_4 q3 with rfl | rfl | rfl | rfl
    · rw [shc_0]
      refine j_aald C 46 2 (cX_46 g _) rfl (by decide) (b := g.2.1 47) rfl dX7_judge_19 rfl ?_
      refine j_cz C (run_V C mi_X4_isMissing lm_X7_232 iv_X4_isMissing ⟨Nat.le_of_ble_eq_true rfl, Nat.le_of_ble_eq_true rfl⟩ (m_X4_isMissing_47 _ _) (cX_47 g _) rfl rfl rfl rfl (Nat.le_of_ble_eq_true rfl) dX7_judge_20) (n := 23) rfl (fun b4 => ?_)
      refine j_if_eq C dX7_judge_23 (tgt := 33) (n := 26) (by decide) rfl (fun q5 => ?_) (fun q5 => ?_)
      · refine j_iconst C dX7_judge_33 ic_0 (n := 34) rfl ?_
        refine j_istore_n C dX7_judge_34 (Nat.le_of_ble_eq_true rfl) (n := 35) rfl ?_
        exact j_to (j_X7_judge_35 C _ _ _ _ _) ⟨rfl, ⟨rfl, ⟨rfl, trivial⟩⟩⟩
      · refine j_aload_n C dX7_judge_26 rfl (n := 27) rfl ?_
        refine j_ldc C dX7_judge_27 kc_X7_236 (n := 29) rfl ?_
        refine j_bnd (fun r7 q6 => ?_)
        refine j_ci C (run_V C mi_X7_finding lm_X7_68 iv_X7_finding ⟨Nat.le_of_ble_eq_true rfl, Nat.le_of_ble_eq_true rfl⟩ (m_X7_finding _ _ _ q6) (cX_0 g _) rfl rfl rfl rfl (Nat.le_of_ble_eq_true rfl) dX7_judge_29) (n := 32) rfl ?_
        exact j_retP C dX7_judge_32
    · rw [shc_1]
      refine j_aald C 46 2 (cX_46 g _) rfl (by decide) (b := g.2.1 49) rfl dX7_judge_19 rfl ?_
      refine j_cz C (run_V C mi_X4_isMissing lm_X7_232 iv_X4_isMissing ⟨Nat.le_of_ble_eq_true rfl, Nat.le_of_ble_eq_true rfl⟩ (m_X4_isMissing_49 _ _) (cX_49 g _) rfl rfl rfl rfl (Nat.le_of_ble_eq_true rfl) dX7_judge_20) (n := 23) rfl (fun b4 => ?_)
      refine j_if_eq C dX7_judge_23 (tgt := 33) (n := 26) (by decide) rfl (fun q5 => ?_) (fun q5 => ?_)
      · refine j_iconst C dX7_judge_33 ic_0 (n := 34) rfl ?_
        refine j_istore_n C dX7_judge_34 (Nat.le_of_ble_eq_true rfl) (n := 35) rfl ?_
        exact j_to (j_X7_judge_35 C _ _ _ _ _) ⟨rfl, ⟨rfl, ⟨rfl, trivial⟩⟩⟩
      · refine j_aload_n C dX7_judge_26 rfl (n := 27) rfl ?_
        refine j_ldc C dX7_judge_27 kc_X7_236 (n := 29) rfl ?_
        refine j_bnd (fun r7 q6 => ?_)
        refine j_ci C (run_V C mi_X7_finding lm_X7_68 iv_X7_finding ⟨Nat.le_of_ble_eq_true rfl, Nat.le_of_ble_eq_true rfl⟩ (m_X7_finding _ _ _ q6) (cX_0 g _) rfl rfl rfl rfl (Nat.le_of_ble_eq_true rfl) dX7_judge_29) (n := 32) rfl ?_
        exact j_retP C dX7_judge_32
    · rw [shc_2]
      refine j_aald C 46 2 (cX_46 g _) rfl (by decide) (b := g.2.1 51) rfl dX7_judge_19 rfl ?_
      refine j_cz C (run_V C mi_X4_isMissing lm_X7_232 iv_X4_isMissing ⟨Nat.le_of_ble_eq_true rfl, Nat.le_of_ble_eq_true rfl⟩ (m_X4_isMissing_51 _ _) (cX_51 g _) rfl rfl rfl rfl (Nat.le_of_ble_eq_true rfl) dX7_judge_20) (n := 23) rfl (fun b4 => ?_)
      refine j_if_eq C dX7_judge_23 (tgt := 33) (n := 26) (by decide) rfl (fun q5 => ?_) (fun q5 => ?_)
      · refine j_iconst C dX7_judge_33 ic_0 (n := 34) rfl ?_
        refine j_istore_n C dX7_judge_34 (Nat.le_of_ble_eq_true rfl) (n := 35) rfl ?_
        exact j_to (j_X7_judge_35 C _ _ _ _ _) ⟨rfl, ⟨rfl, ⟨rfl, trivial⟩⟩⟩
      · refine j_aload_n C dX7_judge_26 rfl (n := 27) rfl ?_
        refine j_ldc C dX7_judge_27 kc_X7_236 (n := 29) rfl ?_
        refine j_bnd (fun r7 q6 => ?_)
        refine j_ci C (run_V C mi_X7_finding lm_X7_68 iv_X7_finding ⟨Nat.le_of_ble_eq_true rfl, Nat.le_of_ble_eq_true rfl⟩ (m_X7_finding _ _ _ q6) (cX_0 g _) rfl rfl rfl rfl (Nat.le_of_ble_eq_true rfl) dX7_judge_29) (n := 32) rfl ?_
        exact j_retP C dX7_judge_32
    · rw [shc_3]
      refine j_aald C 46 2 (cX_46 g _) rfl (by decide) (b := g.2.1 53) rfl dX7_judge_19 rfl ?_
      refine j_cz C (run_V C mi_X4_isMissing lm_X7_232 iv_X4_isMissing ⟨Nat.le_of_ble_eq_true rfl, Nat.le_of_ble_eq_true rfl⟩ (m_X4_isMissing_53 _ _) (cX_53 g _) rfl rfl rfl rfl (Nat.le_of_ble_eq_true rfl) dX7_judge_20) (n := 23) rfl (fun b4 => ?_)
      refine j_if_eq C dX7_judge_23 (tgt := 33) (n := 26) (by decide) rfl (fun q5 => ?_) (fun q5 => ?_)
      · refine j_iconst C dX7_judge_33 ic_0 (n := 34) rfl ?_
        refine j_istore_n C dX7_judge_34 (Nat.le_of_ble_eq_true rfl) (n := 35) rfl ?_
        exact j_to (j_X7_judge_35 C _ _ _ _ _) ⟨rfl, ⟨rfl, ⟨rfl, trivial⟩⟩⟩
      · refine j_aload_n C dX7_judge_26 rfl (n := 27) rfl ?_
        refine j_ldc C dX7_judge_27 kc_X7_236 (n := 29) rfl ?_
        refine j_bnd (fun r7 q6 => ?_)
        refine j_ci C (run_V C mi_X7_finding lm_X7_68 iv_X7_finding ⟨Nat.le_of_ble_eq_true rfl, Nat.le_of_ble_eq_true rfl⟩ (m_X7_finding _ _ _ q6) (cX_0 g _) rfl rfl rfl rfl (Nat.le_of_ble_eq_true rfl) dX7_judge_29) (n := 32) rfl ?_
        exact j_retP C dX7_judge_32
  · refine j_aload_n C dX7_judge_7 rfl (n := 8) rfl ?_
    refine j_ldc C dX7_judge_8 kc_X7_67 (n := 10) rfl ?_
    refine j_bnd (fun r10 q9 => ?_)
    refine j_ci C (run_V C mi_X7_finding lm_X7_68 iv_X7_finding ⟨Nat.le_of_ble_eq_true rfl, Nat.le_of_ble_eq_true rfl⟩ (m_X7_finding _ _ _ q9) (cX_0 g _) rfl rfl rfl rfl (Nat.le_of_ble_eq_true rfl) dX7_judge_10) (n := 13) rfl ?_
    exact j_retP C dX7_judge_13
-- X7_image
set_option maxRecDepth 20000 in
theorem m_X7_image (l : Launch) (h : Hp) {r : Int32 × Hp} (e : X7_image h = some r) : CT l yX7_image cX7_image 1 (some .int) 2 cwX (fun g => [rf g 0]) h (qI cwX r.1 r.2) := by
  refine ct_of (QR := (fun r : Int32 × Hp => qI cwX r.1 r.2)) (by decide +kernel) (fun g => ⟨rfl, Nat.le_of_ble_eq_true rfl⟩) e (fun x g hl C => ?_)
  unfold X7_image
  refine j_aload_n C dX7_image_0 rfl (n := 1) rfl ?_
  refine gf_X7_16 C 0 (cX_0 g _) rfl dX7_image_1 (n := 4) rfl ?_
  refine j_aload_n C dX7_image_4 rfl (n := 5) rfl ?_
  refine gf_X7_12 C 0 (cX_0 g _) rfl dX7_image_5 (n := 8) rfl ?_
  refine j_bnd (fun h2 q1 => ?_)
  refine j_cv C (run_V C mi_X1_become lm_X7_264 iv_X1_become ⟨Nat.le_of_ble_eq_true rfl, Nat.le_of_ble_eq_true rfl⟩ (m_X1_become_12_1 _ _ q1) (cX_12 g _) rfl rfl rfl rfl (Nat.le_of_ble_eq_true rfl) dX7_image_8) (n := 11) rfl ?_
  refine j_aload_n C dX7_image_11 rfl (n := 12) rfl ?_
  refine j_iconst C dX7_image_12 ic_1 (n := 13) rfl ?_
  refine pf_X7_316 C 0 (cX_0 g _) (Or.inr rfl) (sX_0_9 g _ _) rfl dX7_image_13 (n := 16) rfl ?_
  refine j_iconst C dX7_image_16 ic_1 (n := 17) rfl ?_
  exact j_retP C dX7_image_17
-- X7_undo
set_option maxRecDepth 20000 in
theorem m_X7_undo (l : Launch) (h : Hp) {r : Int32 × Hp} (e : X7_undo h = some r) : CT l yX7_undo cX7_undo 1 (some .int) 2 cwX (fun g => [rf g 0]) h (qI cwX r.1 r.2) := by
  refine ct_of (QR := (fun r : Int32 × Hp => qI cwX r.1 r.2)) (by decide +kernel) (fun g => ⟨rfl, Nat.le_of_ble_eq_true rfl⟩) e (fun x g hl C => ?_)
  unfold X7_undo
  refine j_aload_n C dX7_undo_0 rfl (n := 1) rfl ?_
  refine gf_X7_316 C 0 (cX_0 g _) rfl dX7_undo_1 (n := 4) rfl ?_
  refine j_if_ne C dX7_undo_4 (tgt := 14) (n := 7) (by decide) rfl (fun q1 => ?_) (fun q1 => ?_)
  · refine j_aload_n C dX7_undo_14 rfl (n := 15) rfl ?_
    refine gf_X7_12 C 0 (cX_0 g _) rfl dX7_undo_15 (n := 18) rfl ?_
    refine j_aload_n C dX7_undo_18 rfl (n := 19) rfl ?_
    refine gf_X7_16 C 0 (cX_0 g _) rfl dX7_undo_19 (n := 22) rfl ?_
    refine j_bnd (fun h3 q2 => ?_)
    refine j_cv C (run_V C mi_X1_become lm_X7_264 iv_X1_become ⟨Nat.le_of_ble_eq_true rfl, Nat.le_of_ble_eq_true rfl⟩ (m_X1_become_1_12 _ _ q2) (cX_1 g _) rfl rfl rfl rfl (Nat.le_of_ble_eq_true rfl) dX7_undo_22) (n := 25) rfl ?_
    refine j_aload_n C dX7_undo_25 rfl (n := 26) rfl ?_
    refine gf_X7_12 C 0 (cX_0 g _) rfl dX7_undo_26 (n := 29) rfl ?_
    refine gf_X7_155 C 1 (cX_1 g _) rfl dX7_undo_29 (n := 32) rfl ?_
    exact j_retP C dX7_undo_32
  · refine j_aload_n C dX7_undo_7 rfl (n := 8) rfl ?_
    refine j_ldc C dX7_undo_8 kc_X7_188 (n := 10) rfl ?_
    refine j_bnd (fun r5 q4 => ?_)
    refine j_ci C (run_V C mi_X7_finding lm_X7_68 iv_X7_finding ⟨Nat.le_of_ble_eq_true rfl, Nat.le_of_ble_eq_true rfl⟩ (m_X7_finding _ _ _ q4) (cX_0 g _) rfl rfl rfl rfl (Nat.le_of_ble_eq_true rfl) dX7_undo_10) (n := 13) rfl ?_
    exact j_retP C dX7_undo_13
-- X7_tear
set_option maxRecDepth 20000 in
theorem m_X7_tear (l : Launch) (h : Hp) {r : Int32 × Hp} (e : X7_tear h = some r) : CT l yX7_tear cX7_tear 2 (some .int) 0 cwX (fun g => [rf g 0]) h (qI cwX r.1 r.2) := by
  refine ct_of (QR := (fun r : Int32 × Hp => qI cwX r.1 r.2)) (by decide +kernel) (fun g => ⟨rfl, Nat.le_of_ble_eq_true rfl⟩) e (fun x g hl C => ?_)
  unfold X7_tear
  refine j_aload_n C dX7_tear_0 rfl (n := 1) rfl ?_
  refine gf_X7_316 C 0 (cX_0 g _) rfl dX7_tear_1 (n := 4) rfl ?_
  refine j_if_eq C dX7_tear_4 (tgt := 11) (n := 7) (by decide) rfl (fun q1 => ?_) (fun q1 => ?_)
  · refine j_iconst C dX7_tear_11 ic_0 (n := 12) rfl ?_
    refine j_istore_n C dX7_tear_12 (Nat.le_of_ble_eq_true rfl) (n := 13) rfl ?_
    refine j_aload_n C dX7_tear_13 rfl (n := 14) rfl ?_
    refine j_iconst C dX7_tear_14 ic_0 (n := 15) rfl ?_
    refine pf_X7_316 C 0 (cX_0 g _) (Or.inl rfl) (sX_0_9 g _ _) rfl dX7_tear_15 (n := 18) rfl ?_
    refine j_iload_n C dX7_tear_18 rfl (n := 19) rfl ?_
    exact j_retP C dX7_tear_19
  · refine j_iconst C dX7_tear_7 ic_1 (n := 8) rfl ?_
    refine j_goto C dX7_tear_8 (n := 12) (by decide) ?_
    refine j_istore_n C dX7_tear_12 (Nat.le_of_ble_eq_true rfl) (n := 13) rfl ?_
    refine j_aload_n C dX7_tear_13 rfl (n := 14) rfl ?_
    refine j_iconst C dX7_tear_14 ic_0 (n := 15) rfl ?_
    refine pf_X7_316 C 0 (cX_0 g _) (Or.inl rfl) (sX_0_9 g _ _) rfl dX7_tear_15 (n := 18) rfl ?_
    refine j_iload_n C dX7_tear_18 rfl (n := 19) rfl ?_
    exact j_retP C dX7_tear_19
