-- X8_number
set_option maxRecDepth 20000 in
theorem m_X8_number (l : Launch) (fu : Nat) (x1 : Int32) (x2 : Int32) (h : Hp) {r : Int32 × Hp} (e : X8_number fu x1 x2 h = some r) : CT l yX8_number cX8_number 4 (some .int) 3 cwM (fun g => [rf g 0, .int x1, .int x2]) h (qI cwM r.1 r.2) := by
  refine ct_of (QR := (fun r : Int32 × Hp => qI cwM r.1 r.2)) (by decide +kernel) (fun g => ⟨rfl, Nat.le_of_ble_eq_true rfl⟩) e (fun x g hl C => ?_)
  unfold X8_number
  refine j_aload_n C dX8_number_0 rfl (n := 1) rfl ?_
  refine gf_X8_263 C 0 (cM_0 g _) rfl dX8_number_1 (n := 4) rfl ?_
  refine j_istore_n C dX8_number_4 (Nat.le_of_ble_eq_true rfl) (n := 5) rfl ?_
  refine j_aload_n C dX8_number_5 rfl (n := 6) rfl ?_
  refine j_aload_n C dX8_number_6 rfl (n := 7) rfl ?_
  refine gf_X8_266 C 0 (cM_0 g _) rfl dX8_number_7 (n := 10) rfl ?_
  refine j_iconst C dX8_number_10 ic_2 (n := 11) rfl ?_
  refine j_icmp_ne C dX8_number_11 (tgt := 27) (n := 14) (by decide) rfl (fun q1 => ?_) (fun q1 => ?_)
  · refine j_iconst C dX8_number_27 ic_0 (n := 28) rfl ?_
    refine j_bnd (fun h3 q2 => ?_)
    refine j_cv C (run_V C mi_X8_must lm_X8_283 iv_X8_must ⟨Nat.le_of_ble_eq_true rfl, Nat.le_of_ble_eq_true rfl⟩ (m_X8_must _ _ _ _ q2) (cM_0 g _) rfl rfl rfl rfl (Nat.le_of_ble_eq_true rfl) dX8_number_28) (n := 31) rfl ?_
    refine j_iload_n C dX8_number_31 rfl (n := 32) rfl ?_
    exact j_retP C dX8_number_32
  · refine j_iload_n C dX8_number_14 rfl (n := 15) rfl ?_
    refine j_iload_n C dX8_number_15 rfl (n := 16) rfl ?_
    refine j_iload_n C dX8_number_16 rfl (n := 17) rfl ?_
    refine j_cz C (run_S C mi_X8_within lm_X8_68 st_X8_within ⟨Nat.le_of_ble_eq_true rfl, Nat.le_of_ble_eq_true rfl⟩ (m_X8_within _ _ _ _ _) rfl rfl rfl (Nat.le_of_ble_eq_true rfl) dX8_number_17) (n := 20) rfl (fun b4 => ?_)
    refine j_if_eq C dX8_number_20 (tgt := 27) (n := 23) (by decide) rfl (fun q5 => ?_) (fun q5 => ?_)
    · refine j_iconst C dX8_number_27 ic_0 (n := 28) rfl ?_
      refine j_bnd (fun h7 q6 => ?_)
      refine j_cv C (run_V C mi_X8_must lm_X8_283 iv_X8_must ⟨Nat.le_of_ble_eq_true rfl, Nat.le_of_ble_eq_true rfl⟩ (m_X8_must _ _ _ _ q6) (cM_0 g _) rfl rfl rfl rfl (Nat.le_of_ble_eq_true rfl) dX8_number_28) (n := 31) rfl ?_
      refine j_iload_n C dX8_number_31 rfl (n := 32) rfl ?_
      exact j_retP C dX8_number_32
    · refine j_iconst C dX8_number_23 ic_1 (n := 24) rfl ?_
      refine j_goto C dX8_number_24 (n := 28) (by decide) ?_
      refine j_bnd (fun h9 q8 => ?_)
      refine j_cv C (run_V C mi_X8_must lm_X8_283 iv_X8_must ⟨Nat.le_of_ble_eq_true rfl, Nat.le_of_ble_eq_true rfl⟩ (m_X8_must _ _ _ _ q8) (cM_0 g _) rfl rfl rfl rfl (Nat.le_of_ble_eq_true rfl) dX8_number_28) (n := 31) rfl ?_
      refine j_iload_n C dX8_number_31 rfl (n := 32) rfl ?_
      exact j_retP C dX8_number_32
-- X8_item
set_option maxRecDepth 20000 in
theorem j_X8_item_52 {x : Fx} {g : Gl} (C : Ok x g RX8 cX8_item 6 none) (s1 : Int32) (h : Hp) : J x g cwM 6 0 (fun r : Hp => qV cwM r) 52 [] [.int s1, rf g 0] h (X8_item_52 s1 h) := by
  unfold X8_item_52
  refine j_iconst C dX8_item_52 ic_1 (n := 53) rfl ?_
  refine j_iadd C dX8_item_53 (n := 54) rfl ?_
  refine pf_X8_287 C 0 (cM_0 g _) (sM_0_18 g _ _) rfl dX8_item_54 (n := 57) rfl ?_
  exact j_retV C dX8_item_57
set_option maxRecDepth 20000 in
theorem m_X8_item (l : Launch) (x1 : Int32) (x2 : Int32) (x3 : Int32) (x4 : Int32) (h : Hp) {r : Hp} (e : X8_item x1 x2 x3 x4 h = some r) : CT l yX8_item cX8_item 6 none 0 cwM (fun g => [rf g 0, .int x1, .int x2, .int x3, .int x4]) h (qV cwM r) := by
  refine ct_of (QR := (fun r : Hp => qV cwM r)) (by decide +kernel) (fun g => ⟨rfl, Nat.le_of_ble_eq_true rfl⟩) e (fun x g hl C => ?_)
  unfold X8_item
  refine j_iconst C dX8_item_0 ic_4 (n := 1) rfl ?_
  refine j_aload_n C dX8_item_1 rfl (n := 2) rfl ?_
  refine gf_X8_287 C 0 (cM_0 g _) rfl dX8_item_2 (n := 5) rfl ?_
  refine j_imul C dX8_item_5 (n := 6) rfl ?_
  refine j_istore C dX8_item_6 (Nat.le_of_ble_eq_true rfl) (n := 8) rfl ?_
  refine j_aload_n C dX8_item_8 rfl (n := 9) rfl ?_
  refine gf_X8_48 C 0 (cM_0 g _) rfl dX8_item_9 (n := 12) rfl ?_
  refine j_iload C dX8_item_12 rfl (n := 14) rfl ?_
  refine j_iload_n C dX8_item_14 rfl (n := 15) rfl ?_
  refine j_iast C 8 (cM_8 g _) (aM_8 g _ _ _) dX8_item_15 (n := 16) rfl ?_
  refine j_aload_n C dX8_item_16 rfl (n := 17) rfl ?_
  refine gf_X8_48 C 0 (cM_0 g _) rfl dX8_item_17 (n := 20) rfl ?_
  refine j_iload C dX8_item_20 rfl (n := 22) rfl ?_
  refine j_iconst C dX8_item_22 ic_1 (n := 23) rfl ?_
  refine j_iadd C dX8_item_23 (n := 24) rfl ?_
  refine j_iload_n C dX8_item_24 rfl (n := 25) rfl ?_
  refine j_iast C 8 (cM_8 g _) (aM_8 g _ _ _) dX8_item_25 (n := 26) rfl ?_
  refine j_aload_n C dX8_item_26 rfl (n := 27) rfl ?_
  refine gf_X8_48 C 0 (cM_0 g _) rfl dX8_item_27 (n := 30) rfl ?_
  refine j_iload C dX8_item_30 rfl (n := 32) rfl ?_
  refine j_iconst C dX8_item_32 ic_2 (n := 33) rfl ?_
  refine j_iadd C dX8_item_33 (n := 34) rfl ?_
  refine j_iload_n C dX8_item_34 rfl (n := 35) rfl ?_
  refine j_iast C 8 (cM_8 g _) (aM_8 g _ _ _) dX8_item_35 (n := 36) rfl ?_
  refine j_aload_n C dX8_item_36 rfl (n := 37) rfl ?_
  refine gf_X8_48 C 0 (cM_0 g _) rfl dX8_item_37 (n := 40) rfl ?_
  refine j_iload C dX8_item_40 rfl (n := 42) rfl ?_
  refine j_iconst C dX8_item_42 ic_3 (n := 43) rfl ?_
  refine j_iadd C dX8_item_43 (n := 44) rfl ?_
  refine j_iload C dX8_item_44 rfl (n := 46) rfl ?_
  refine j_iast C 8 (cM_8 g _) (aM_8 g _ _ _) dX8_item_46 (n := 47) rfl ?_
  refine j_aload_n C dX8_item_47 rfl (n := 48) rfl ?_
  refine j_dup C dX8_item_48 rfl (n := 49) rfl ?_
  refine gf_X8_287 C 0 (cM_0 g _) rfl dX8_item_49 (n := 52) rfl ?_
  exact j_to (j_X8_item_52 C _ _) trivial
-- X8_readItem
set_option maxRecDepth 20000 in
theorem j_X8_readItem_82 {x : Fx} {g : Gl} (C : Ok x g RX8 cX8_readItem 4 none) (fu : Nat) (x1 : Int32) (x2 : Int32) (s0 : Int32) (h : Hp) : J x g cwM 4 6 (fun r : Hp => qV cwM r) 82 [some (rf g 0), some (.int x1), some (.int x2)] [.int s0] h (X8_readItem_82 fu x1 x2 s0 h) := by
  unfold X8_readItem_82
  refine j_istore_n C dX8_readItem_82 (Nat.le_of_ble_eq_true rfl) (n := 83) rfl ?_
  refine j_aload_n C dX8_readItem_83 rfl (n := 84) rfl ?_
  refine j_iload_n C dX8_readItem_84 rfl (n := 85) rfl ?_
  refine j_iload_n C dX8_readItem_85 rfl (n := 86) rfl ?_
  refine j_iload_n C dX8_readItem_86 rfl (n := 87) rfl ?_
  refine j_aload_n C dX8_readItem_87 rfl (n := 88) rfl ?_
  refine j_ldcwS C (sx_X8_310) dX8_readItem_88 (n := 91) rfl ?_
  refine j_bnd (fun r2 q1 => ?_)
  refine j_cz C (run_V C mi_X8_isNext lm_X8_302 iv_X8_isNext ⟨Nat.le_of_ble_eq_true rfl, Nat.le_of_ble_eq_true rfl⟩ (m_X8_isNext_9 _ _ _ q1) (cM_0 g _) rfl rfl rfl rfl (Nat.le_of_ble_eq_true rfl) dX8_readItem_91) (n := 94) rfl (fun b3 => ?_)
  refine j_if_eq C dX8_readItem_94 (tgt := 106) (n := 97) (by decide) rfl (fun q4 => ?_) (fun q4 => ?_)
  · refine j_iconst C dX8_readItem_106 ic_m1 (n := 107) rfl ?_
    refine j_bnd (fun h6 q5 => ?_)
    refine j_cv C (run_V C mi_X8_item lm_X8_312 iv_X8_item ⟨Nat.le_of_ble_eq_true rfl, Nat.le_of_ble_eq_true rfl⟩ (m_X8_item _ _ _ _ _ _ q5) (cM_0 g _) rfl rfl rfl rfl (Nat.le_of_ble_eq_true rfl) dX8_readItem_107) (n := 110) rfl ?_
    refine j_goto C dX8_readItem_110 (n := 242) (by decide) ?_
    exact j_retV C dX8_readItem_242
  · refine j_aload_n C dX8_readItem_97 rfl (n := 98) rfl ?_
    refine j_iconst C dX8_readItem_98 ic_0 (n := 99) rfl ?_
    refine j_iconst C dX8_readItem_99 ic_5 (n := 100) rfl ?_
    refine j_bnd (fun r8 q7 => ?_)
    refine j_ci C (run_V C mi_X8_number lm_X8_305 iv_X8_number ⟨Nat.le_of_ble_eq_true rfl, Nat.le_of_ble_eq_true rfl⟩ (m_X8_number _ _ _ _ _ q7) (cM_0 g _) rfl rfl rfl rfl (Nat.le_of_ble_eq_true rfl) dX8_readItem_100) (n := 103) rfl ?_
    refine j_goto C dX8_readItem_103 (n := 107) (by decide) ?_
    refine j_bnd (fun h11 q10 => ?_)
    refine j_cv C (run_V C mi_X8_item lm_X8_312 iv_X8_item ⟨Nat.le_of_ble_eq_true rfl, Nat.le_of_ble_eq_true rfl⟩ (m_X8_item _ _ _ _ _ _ q10) (cM_0 g _) rfl rfl rfl rfl (Nat.le_of_ble_eq_true rfl) dX8_readItem_107) (n := 110) rfl ?_
    refine j_goto C dX8_readItem_110 (n := 242) (by decide) ?_
    exact j_retV C dX8_readItem_242
set_option maxRecDepth 20000 in
theorem j_X8_readItem_59 {x : Fx} {g : Gl} (C : Ok x g RX8 cX8_readItem 4 none) (fu : Nat) (x1 : Int32) (s0 : Int32) (h : Hp) : J x g cwM 4 6 (fun r : Hp => qV cwM r) 59 [some (rf g 0), some (.int x1)] [.int s0] h (X8_readItem_59 fu x1 s0 h) := by
  unfold X8_readItem_59
  refine j_istore_n C dX8_readItem_59 (Nat.le_of_ble_eq_true rfl) (n := 60) rfl ?_
  refine j_aload_n C dX8_readItem_60 rfl (n := 61) rfl ?_
  refine j_ldcwS C (sx_X8_308) dX8_readItem_61 (n := 64) rfl ?_
  refine j_bnd (fun r2 q1 => ?_)
  refine j_cz C (run_V C mi_X8_isNext lm_X8_302 iv_X8_isNext ⟨Nat.le_of_ble_eq_true rfl, Nat.le_of_ble_eq_true rfl⟩ (m_X8_isNext_8 _ _ _ q1) (cM_0 g _) rfl rfl rfl rfl (Nat.le_of_ble_eq_true rfl) dX8_readItem_64) (n := 67) rfl (fun b3 => ?_)
  refine j_if_eq C dX8_readItem_67 (tgt := 80) (n := 70) (by decide) rfl (fun q4 => ?_) (fun q4 => ?_)
  · refine j_bipush C dX8_readItem_80 bp_10 (n := 82) rfl ?_
    exact j_to (j_X8_readItem_82 C _ _ _ _ _) ⟨rfl, ⟨rfl, ⟨rfl, trivial⟩⟩⟩
  · refine j_aload_n C dX8_readItem_70 rfl (n := 71) rfl ?_
    refine j_iconst C dX8_readItem_71 ic_1 (n := 72) rfl ?_
    refine j_bipush C dX8_readItem_72 bp_60 (n := 74) rfl ?_
    refine j_bnd (fun r6 q5 => ?_)
    refine j_ci C (run_V C mi_X8_number lm_X8_305 iv_X8_number ⟨Nat.le_of_ble_eq_true rfl, Nat.le_of_ble_eq_true rfl⟩ (m_X8_number _ _ _ _ _ q5) (cM_0 g _) rfl rfl rfl rfl (Nat.le_of_ble_eq_true rfl) dX8_readItem_74) (n := 77) rfl ?_
    refine j_goto C dX8_readItem_77 (n := 82) (by decide) ?_
    exact j_to (j_X8_readItem_82 C _ _ _ _ _) ⟨rfl, ⟨rfl, ⟨rfl, trivial⟩⟩⟩
set_option maxRecDepth 20000 in
theorem m_X8_readItem (l : Launch) (fu : Nat) (h : Hp) {r : Hp} (e : X8_readItem fu h = some r) : CT l yX8_readItem cX8_readItem 4 none 6 cwM (fun g => [rf g 0]) h (qV cwM r) := by
  refine ct_of (QR := (fun r : Hp => qV cwM r)) (by decide +kernel) (fun g => ⟨rfl, Nat.le_of_ble_eq_true rfl⟩) e (fun x g hl C => ?_)
  unfold X8_readItem
  refine j_aload_n C dX8_readItem_0 rfl (n := 1) rfl ?_
  refine j_bnd (fun r2 q1 => ?_)
  refine j_ci C (run_V C mi_X8_kindTold lm_X8_294 iv_X8_kindTold ⟨Nat.le_of_ble_eq_true rfl, Nat.le_of_ble_eq_true rfl⟩ (m_X8_kindTold _ _ _ q1) (cM_0 g _) rfl rfl rfl rfl (Nat.le_of_ble_eq_true rfl) dX8_readItem_1) (n := 4) rfl ?_
  refine j_istore_n C dX8_readItem_4 (Nat.le_of_ble_eq_true rfl) (n := 5) rfl ?_
  refine j_iload_n C dX8_readItem_5 rfl (n := 6) rfl ?_
  refine j_if_lt C dX8_readItem_6 (tgt := 113) (n := 9) (by decide) rfl (fun q4 => ?_) (fun q4 => ?_)
  · refine j_aload_n C dX8_readItem_113 rfl (n := 114) rfl ?_
    refine j_ldcwS C (sx_X8_316) dX8_readItem_114 (n := 117) rfl ?_
    refine j_bnd (fun r6 q5 => ?_)
    refine j_cz C (run_V C mi_X8_isNext lm_X8_302 iv_X8_isNext ⟨Nat.le_of_ble_eq_true rfl, Nat.le_of_ble_eq_true rfl⟩ (m_X8_isNext_10 _ _ _ q5) (cM_0 g _) rfl rfl rfl rfl (Nat.le_of_ble_eq_true rfl) dX8_readItem_117) (n := 120) rfl (fun b7 => ?_)
    refine j_if_eq C dX8_readItem_120 (tgt := 182) (n := 123) (by decide) rfl (fun q8 => ?_) (fun q8 => ?_)
    · refine j_aload_n C dX8_readItem_182 rfl (n := 183) rfl ?_
      refine j_ldcwS C (sx_X8_320) dX8_readItem_183 (n := 186) rfl ?_
      refine j_bnd (fun r10 q9 => ?_)
      refine j_cz C (run_V C mi_X8_isNext lm_X8_302 iv_X8_isNext ⟨Nat.le_of_ble_eq_true rfl, Nat.le_of_ble_eq_true rfl⟩ (m_X8_isNext_12 _ _ _ q9) (cM_0 g _) rfl rfl rfl rfl (Nat.le_of_ble_eq_true rfl) dX8_readItem_186) (n := 189) rfl (fun b11 => ?_)
      refine j_if_eq C dX8_readItem_189 (tgt := 216) (n := 192) (by decide) rfl (fun q12 => ?_) (fun q12 => ?_)
      · refine j_aload_n C dX8_readItem_216 rfl (n := 217) rfl ?_
        refine j_aload_n C dX8_readItem_217 rfl (n := 218) rfl ?_
        refine j_ldcwS C (sx_X8_322) dX8_readItem_218 (n := 221) rfl ?_
        refine j_bnd (fun r14 q13 => ?_)
        refine j_cz C (run_V C mi_X8_isWord lm_X8_290 iv_X8_isWord ⟨Nat.le_of_ble_eq_true rfl, Nat.le_of_ble_eq_true rfl⟩ (m_X8_isWord_13 _ _ _ q13) (cM_0 g _) rfl rfl rfl rfl (Nat.le_of_ble_eq_true rfl) dX8_readItem_221) (n := 224) rfl (fun b15 => ?_)
        refine j_bnd (fun h17 q16 => ?_)
        refine j_cv C (run_V C mi_X8_must lm_X8_283 iv_X8_must ⟨Nat.le_of_ble_eq_true rfl, Nat.le_of_ble_eq_true rfl⟩ (m_X8_must _ _ _ _ q16) (cM_0 g _) rfl rfl rfl rfl (Nat.le_of_ble_eq_true rfl) dX8_readItem_224) (n := 227) rfl ?_
        refine j_aload_n C dX8_readItem_227 rfl (n := 228) rfl ?_
        refine j_bipush C dX8_readItem_228 bp_12 (n := 230) rfl ?_
        refine j_aload_n C dX8_readItem_230 rfl (n := 231) rfl ?_
        refine j_iconst C dX8_readItem_231 ic_1 (n := 232) rfl ?_
        refine j_bipush C dX8_readItem_232 bp_20 (n := 234) rfl ?_
        refine j_bnd (fun r19 q18 => ?_)
        refine j_ci C (run_V C mi_X8_number lm_X8_305 iv_X8_number ⟨Nat.le_of_ble_eq_true rfl, Nat.le_of_ble_eq_true rfl⟩ (m_X8_number _ _ _ _ _ q18) (cM_0 g _) rfl rfl rfl rfl (Nat.le_of_ble_eq_true rfl) dX8_readItem_234) (n := 237) rfl ?_
        refine j_iconst C dX8_readItem_237 ic_0 (n := 238) rfl ?_
        refine j_iconst C dX8_readItem_238 ic_0 (n := 239) rfl ?_
        refine j_bnd (fun h22 q21 => ?_)
        refine j_cv C (run_V C mi_X8_item lm_X8_312 iv_X8_item ⟨Nat.le_of_ble_eq_true rfl, Nat.le_of_ble_eq_true rfl⟩ (m_X8_item _ _ _ _ _ _ q21) (cM_0 g _) rfl rfl rfl rfl (Nat.le_of_ble_eq_true rfl) dX8_readItem_239) (n := 242) rfl ?_
        exact j_retV C dX8_readItem_242
      · refine j_aload_n C dX8_readItem_192 rfl (n := 193) rfl ?_
        refine j_iconst C dX8_readItem_193 ic_0 (n := 194) rfl ?_
        refine j_iconst C dX8_readItem_194 ic_5 (n := 195) rfl ?_
        refine j_bnd (fun r24 q23 => ?_)
        refine j_ci C (run_V C mi_X8_number lm_X8_305 iv_X8_number ⟨Nat.le_of_ble_eq_true rfl, Nat.le_of_ble_eq_true rfl⟩ (m_X8_number _ _ _ _ _ q23) (cM_0 g _) rfl rfl rfl rfl (Nat.le_of_ble_eq_true rfl) dX8_readItem_195) (n := 198) rfl ?_
        refine j_istore_n C dX8_readItem_198 (Nat.le_of_ble_eq_true rfl) (n := 199) rfl ?_
        refine j_aload_n C dX8_readItem_199 rfl (n := 200) rfl ?_
        refine j_bipush C dX8_readItem_200 bp_11 (n := 202) rfl ?_
        refine j_iload_n C dX8_readItem_202 rfl (n := 203) rfl ?_
        refine j_aload_n C dX8_readItem_203 rfl (n := 204) rfl ?_
        refine j_iconst C dX8_readItem_204 ic_0 (n := 205) rfl ?_
        refine j_iconst C dX8_readItem_205 ic_5 (n := 206) rfl ?_
        refine j_bnd (fun r27 q26 => ?_)
        refine j_ci C (run_V C mi_X8_number lm_X8_305 iv_X8_number ⟨Nat.le_of_ble_eq_true rfl, Nat.le_of_ble_eq_true rfl⟩ (m_X8_number _ _ _ _ _ q26) (cM_0 g _) rfl rfl rfl rfl (Nat.le_of_ble_eq_true rfl) dX8_readItem_206) (n := 209) rfl ?_
        refine j_iconst C dX8_readItem_209 ic_0 (n := 210) rfl ?_
        refine j_bnd (fun h30 q29 => ?_)
        refine j_cv C (run_V C mi_X8_item lm_X8_312 iv_X8_item ⟨Nat.le_of_ble_eq_true rfl, Nat.le_of_ble_eq_true rfl⟩ (m_X8_item _ _ _ _ _ _ q29) (cM_0 g _) rfl rfl rfl rfl (Nat.le_of_ble_eq_true rfl) dX8_readItem_210) (n := 213) rfl ?_
        refine j_goto C dX8_readItem_213 (n := 242) (by decide) ?_
        exact j_retV C dX8_readItem_242
    · refine j_aload_n C dX8_readItem_123 rfl (n := 124) rfl ?_
      refine j_iconst C dX8_readItem_124 ic_0 (n := 125) rfl ?_
      refine j_iconst C dX8_readItem_125 ic_5 (n := 126) rfl ?_
      refine j_bnd (fun r32 q31 => ?_)
      refine j_ci C (run_V C mi_X8_number lm_X8_305 iv_X8_number ⟨Nat.le_of_ble_eq_true rfl, Nat.le_of_ble_eq_true rfl⟩ (m_X8_number _ _ _ _ _ q31) (cM_0 g _) rfl rfl rfl rfl (Nat.le_of_ble_eq_true rfl) dX8_readItem_126) (n := 129) rfl ?_
      refine j_istore_n C dX8_readItem_129 (Nat.le_of_ble_eq_true rfl) (n := 130) rfl ?_
      refine j_aload_n C dX8_readItem_130 rfl (n := 131) rfl ?_
      refine j_aload_n C dX8_readItem_131 rfl (n := 132) rfl ?_
      refine j_ldcwS C (sx_X8_300) dX8_readItem_132 (n := 135) rfl ?_
      refine j_bnd (fun r35 q34 => ?_)
      refine j_cz C (run_V C mi_X8_isWord lm_X8_290 iv_X8_isWord ⟨Nat.le_of_ble_eq_true rfl, Nat.le_of_ble_eq_true rfl⟩ (m_X8_isWord_7 _ _ _ q34) (cM_0 g _) rfl rfl rfl rfl (Nat.le_of_ble_eq_true rfl) dX8_readItem_135) (n := 138) rfl (fun b36 => ?_)
      refine j_bnd (fun h38 q37 => ?_)
      refine j_cv C (run_V C mi_X8_must lm_X8_283 iv_X8_must ⟨Nat.le_of_ble_eq_true rfl, Nat.le_of_ble_eq_true rfl⟩ (m_X8_must _ _ _ _ q37) (cM_0 g _) rfl rfl rfl rfl (Nat.le_of_ble_eq_true rfl) dX8_readItem_138) (n := 141) rfl ?_
      refine j_aload_n C dX8_readItem_141 rfl (n := 142) rfl ?_
      refine j_iconst C dX8_readItem_142 ic_0 (n := 143) rfl ?_
      refine j_sipush C dX8_readItem_143 sp_255 (n := 146) rfl ?_
      refine j_bnd (fun r40 q39 => ?_)
      refine j_ci C (run_V C mi_X8_number lm_X8_305 iv_X8_number ⟨Nat.le_of_ble_eq_true rfl, Nat.le_of_ble_eq_true rfl⟩ (m_X8_number _ _ _ _ _ q39) (cM_0 g _) rfl rfl rfl rfl (Nat.le_of_ble_eq_true rfl) dX8_readItem_146) (n := 149) rfl ?_
      refine j_istore_n C dX8_readItem_149 (Nat.le_of_ble_eq_true rfl) (n := 150) rfl ?_
      refine j_aload_n C dX8_readItem_150 rfl (n := 151) rfl ?_
      refine j_bipush C dX8_readItem_151 bp_10 (n := 153) rfl ?_
      refine j_iload_n C dX8_readItem_153 rfl (n := 154) rfl ?_
      refine j_iload_n C dX8_readItem_154 rfl (n := 155) rfl ?_
      refine j_aload_n C dX8_readItem_155 rfl (n := 156) rfl ?_
      refine j_ldcwS C (sx_X8_318) dX8_readItem_156 (n := 159) rfl ?_
      refine j_bnd (fun r43 q42 => ?_)
      refine j_cz C (run_V C mi_X8_isNext lm_X8_302 iv_X8_isNext ⟨Nat.le_of_ble_eq_true rfl, Nat.le_of_ble_eq_true rfl⟩ (m_X8_isNext_11 _ _ _ q42) (cM_0 g _) rfl rfl rfl rfl (Nat.le_of_ble_eq_true rfl) dX8_readItem_159) (n := 162) rfl (fun b44 => ?_)
      refine j_if_eq C dX8_readItem_162 (tgt := 175) (n := 165) (by decide) rfl (fun q45 => ?_) (fun q45 => ?_)
      · refine j_iconst C dX8_readItem_175 ic_m1 (n := 176) rfl ?_
        refine j_bnd (fun h47 q46 => ?_)
        refine j_cv C (run_V C mi_X8_item lm_X8_312 iv_X8_item ⟨Nat.le_of_ble_eq_true rfl, Nat.le_of_ble_eq_true rfl⟩ (m_X8_item _ _ _ _ _ _ q46) (cM_0 g _) rfl rfl rfl rfl (Nat.le_of_ble_eq_true rfl) dX8_readItem_176) (n := 179) rfl ?_
        refine j_goto C dX8_readItem_179 (n := 242) (by decide) ?_
        exact j_retV C dX8_readItem_242
      · refine j_aload_n C dX8_readItem_165 rfl (n := 166) rfl ?_
        refine j_iconst C dX8_readItem_166 ic_0 (n := 167) rfl ?_
        refine j_bipush C dX8_readItem_167 bp_99 (n := 169) rfl ?_
        refine j_bnd (fun r49 q48 => ?_)
        refine j_ci C (run_V C mi_X8_number lm_X8_305 iv_X8_number ⟨Nat.le_of_ble_eq_true rfl, Nat.le_of_ble_eq_true rfl⟩ (m_X8_number _ _ _ _ _ q48) (cM_0 g _) rfl rfl rfl rfl (Nat.le_of_ble_eq_true rfl) dX8_readItem_169) (n := 172) rfl ?_
        refine j_goto C dX8_readItem_172 (n := 176) (by decide) ?_
        refine j_bnd (fun h52 q51 => ?_)
        refine j_cv C (run_V C mi_X8_item lm_X8_312 iv_X8_item ⟨Nat.le_of_ble_eq_true rfl, Nat.le_of_ble_eq_true rfl⟩ (m_X8_item _ _ _ _ _ _ q51) (cM_0 g _) rfl rfl rfl rfl (Nat.le_of_ble_eq_true rfl) dX8_readItem_176) (n := 179) rfl ?_
        refine j_goto C dX8_readItem_179 (n := 242) (by decide) ?_
        exact j_retV C dX8_readItem_242
  · refine j_aload_n C dX8_readItem_9 rfl (n := 10) rfl ?_
    refine j_aload_n C dX8_readItem_10 rfl (n := 11) rfl ?_
    refine gf_X8_297 C 0 (cM_0 g _) rfl dX8_readItem_11 (n := 14) rfl ?_
    refine j_bipush C dX8_readItem_14 bp_10 (n := 16) rfl ?_
    refine j_icmp_ge C dX8_readItem_16 (tgt := 23) (n := 19) (by decide) rfl (fun q53 => ?_) (fun q53 => ?_)
    · refine j_iconst C dX8_readItem_23 ic_0 (n := 24) rfl ?_
      refine j_bnd (fun h55 q54 => ?_)
      refine j_cv C (run_V C mi_X8_must lm_X8_283 iv_X8_must ⟨Nat.le_of_ble_eq_true rfl, Nat.le_of_ble_eq_true rfl⟩ (m_X8_must _ _ _ _ q54) (cM_0 g _) rfl rfl rfl rfl (Nat.le_of_ble_eq_true rfl) dX8_readItem_24) (n := 27) rfl ?_
      refine j_aload_n C dX8_readItem_27 rfl (n := 28) rfl ?_
      refine j_dup C dX8_readItem_28 rfl (n := 29) rfl ?_
      refine gf_X8_297 C 0 (cM_0 g _) rfl dX8_readItem_29 (n := 32) rfl ?_
      refine j_iconst C dX8_readItem_32 ic_1 (n := 33) rfl ?_
      refine j_iadd C dX8_readItem_33 (n := 34) rfl ?_
      refine pf_X8_297 C 0 (cM_0 g _) (sM_0_19 g _ _) rfl dX8_readItem_34 (n := 37) rfl ?_
      refine j_aload_n C dX8_readItem_37 rfl (n := 38) rfl ?_
      refine j_ldcwS C (sx_X8_300) dX8_readItem_38 (n := 41) rfl ?_
      refine j_bnd (fun r57 q56 => ?_)
      refine j_cz C (run_V C mi_X8_isNext lm_X8_302 iv_X8_isNext ⟨Nat.le_of_ble_eq_true rfl, Nat.le_of_ble_eq_true rfl⟩ (m_X8_isNext_7 _ _ _ q56) (cM_0 g _) rfl rfl rfl rfl (Nat.le_of_ble_eq_true rfl) dX8_readItem_41) (n := 44) rfl (fun b58 => ?_)
      refine j_if_eq C dX8_readItem_44 (tgt := 58) (n := 47) (by decide) rfl (fun q59 => ?_) (fun q59 => ?_)
      · refine j_iconst C dX8_readItem_58 ic_0 (n := 59) rfl ?_
        exact j_to (j_X8_readItem_59 C _ _ _ _) ⟨rfl, ⟨rfl, trivial⟩⟩
      · refine j_aload_n C dX8_readItem_47 rfl (n := 48) rfl ?_
        refine j_iconst C dX8_readItem_48 ic_0 (n := 49) rfl ?_
        refine j_sipush C dX8_readItem_49 sp_255 (n := 52) rfl ?_
        refine j_bnd (fun r61 q60 => ?_)
        refine j_ci C (run_V C mi_X8_number lm_X8_305 iv_X8_number ⟨Nat.le_of_ble_eq_true rfl, Nat.le_of_ble_eq_true rfl⟩ (m_X8_number _ _ _ _ _ q60) (cM_0 g _) rfl rfl rfl rfl (Nat.le_of_ble_eq_true rfl) dX8_readItem_52) (n := 55) rfl ?_
        refine j_goto C dX8_readItem_55 (n := 59) (by decide) ?_
        exact j_to (j_X8_readItem_59 C _ _ _ _) ⟨rfl, ⟨rfl, trivial⟩⟩
    · refine j_iconst C dX8_readItem_19 ic_1 (n := 20) rfl ?_
      refine j_goto C dX8_readItem_20 (n := 24) (by decide) ?_
      refine j_bnd (fun h64 q63 => ?_)
      refine j_cv C (run_V C mi_X8_must lm_X8_283 iv_X8_must ⟨Nat.le_of_ble_eq_true rfl, Nat.le_of_ble_eq_true rfl⟩ (m_X8_must _ _ _ _ q63) (cM_0 g _) rfl rfl rfl rfl (Nat.le_of_ble_eq_true rfl) dX8_readItem_24) (n := 27) rfl ?_
      refine j_aload_n C dX8_readItem_27 rfl (n := 28) rfl ?_
      refine j_dup C dX8_readItem_28 rfl (n := 29) rfl ?_
      refine gf_X8_297 C 0 (cM_0 g _) rfl dX8_readItem_29 (n := 32) rfl ?_
      refine j_iconst C dX8_readItem_32 ic_1 (n := 33) rfl ?_
      refine j_iadd C dX8_readItem_33 (n := 34) rfl ?_
      refine pf_X8_297 C 0 (cM_0 g _) (sM_0_19 g _ _) rfl dX8_readItem_34 (n := 37) rfl ?_
      refine j_aload_n C dX8_readItem_37 rfl (n := 38) rfl ?_
      refine j_ldcwS C (sx_X8_300) dX8_readItem_38 (n := 41) rfl ?_
      refine j_bnd (fun r66 q65 => ?_)
      refine j_cz C (run_V C mi_X8_isNext lm_X8_302 iv_X8_isNext ⟨Nat.le_of_ble_eq_true rfl, Nat.le_of_ble_eq_true rfl⟩ (m_X8_isNext_7 _ _ _ q65) (cM_0 g _) rfl rfl rfl rfl (Nat.le_of_ble_eq_true rfl) dX8_readItem_41) (n := 44) rfl (fun b67 => ?_)
      refine j_if_eq C dX8_readItem_44 (tgt := 58) (n := 47) (by decide) rfl (fun q68 => ?_) (fun q68 => ?_)
      · refine j_iconst C dX8_readItem_58 ic_0 (n := 59) rfl ?_
        exact j_to (j_X8_readItem_59 C _ _ _ _) ⟨rfl, ⟨rfl, trivial⟩⟩
      · refine j_aload_n C dX8_readItem_47 rfl (n := 48) rfl ?_
        refine j_iconst C dX8_readItem_48 ic_0 (n := 49) rfl ?_
        refine j_sipush C dX8_readItem_49 sp_255 (n := 52) rfl ?_
        refine j_bnd (fun r70 q69 => ?_)
        refine j_ci C (run_V C mi_X8_number lm_X8_305 iv_X8_number ⟨Nat.le_of_ble_eq_true rfl, Nat.le_of_ble_eq_true rfl⟩ (m_X8_number _ _ _ _ _ q69) (cM_0 g _) rfl rfl rfl rfl (Nat.le_of_ble_eq_true rfl) dX8_readItem_52) (n := 55) rfl ?_
        refine j_goto C dX8_readItem_55 (n := 59) (by decide) ?_
        exact j_to (j_X8_readItem_59 C _ _ _ _) ⟨rfl, ⟨rfl, trivial⟩⟩
-- X8_isSo
set_option maxRecDepth 20000 in
theorem m_X8_isSo (l : Launch) (x1 : Int32) (h : Hp) {r : Int32 × Hp} (e : X8_isSo x1 h = some r) : CT l yX8_isSo cX8_isSo 5 (some .int) 2 cwM (fun g => [rf g 0, .int x1]) h (qI cwM r.1 r.2) := by
  refine ct_of (QR := (fun r : Int32 × Hp => qI cwM r.1 r.2)) (by decide +kernel) (fun g => ⟨rfl, Nat.le_of_ble_eq_true rfl⟩) e (fun x g hl C => ?_)
  unfold X8_isSo
  refine j_aload_n C dX8_isSo_0 rfl (n := 1) rfl ?_
  refine gf_X8_48 C 0 (cM_0 g _) rfl dX8_isSo_1 (n := 4) rfl ?_
  refine j_iload_n C dX8_isSo_4 rfl (n := 5) rfl ?_
  refine j_iconst C dX8_isSo_5 ic_1 (n := 6) rfl ?_
  refine j_iadd C dX8_isSo_6 (n := 7) rfl ?_
  refine j_iald C 8 (cM_8 g _) dX8_isSo_7 (n := 8) rfl ?_
  refine j_istore_n C dX8_isSo_8 (Nat.le_of_ble_eq_true rfl) (n := 9) rfl ?_
  refine j_aload_n C dX8_isSo_9 rfl (n := 10) rfl ?_
  refine gf_X8_48 C 0 (cM_0 g _) rfl dX8_isSo_10 (n := 13) rfl ?_
  refine j_iload_n C dX8_isSo_13 rfl (n := 14) rfl ?_
  refine j_iconst C dX8_isSo_14 ic_2 (n := 15) rfl ?_
  refine j_iadd C dX8_isSo_15 (n := 16) rfl ?_
  refine j_iald C 8 (cM_8 g _) dX8_isSo_16 (n := 17) rfl ?_
  refine j_istore_n C dX8_isSo_17 (Nat.le_of_ble_eq_true rfl) (n := 18) rfl ?_
  refine j_aload_n C dX8_isSo_18 rfl (n := 19) rfl ?_
  refine gf_X8_48 C 0 (cM_0 g _) rfl dX8_isSo_19 (n := 22) rfl ?_
  refine j_iload_n C dX8_isSo_22 rfl (n := 23) rfl ?_
  refine j_iconst C dX8_isSo_23 ic_3 (n := 24) rfl ?_
  refine j_iadd C dX8_isSo_24 (n := 25) rfl ?_
  refine j_iald C 8 (cM_8 g _) dX8_isSo_25 (n := 26) rfl ?_
  refine j_istore C dX8_isSo_26 (Nat.le_of_ble_eq_true rfl) (n := 28) rfl ?_
  refine j_aload_n C dX8_isSo_28 rfl (n := 29) rfl ?_
  refine gf_X8_48 C 0 (cM_0 g _) rfl dX8_isSo_29 (n := 32) rfl ?_
  refine j_iload_n C dX8_isSo_32 rfl (n := 33) rfl ?_
  refine j_iald C 8 (cM_8 g _) dX8_isSo_33 (n := 34) rfl ?_
  refine j_split (fun q1 => ?_) (fun q1 => ?_)
  · refine j_tabIn C dX8_isSo_34 q1 (off := 26) (by decide) (n := 60) (by decide) ?_
    refine j_aload_n C dX8_isSo_60 rfl (n := 61) rfl ?_
    refine gf_X8_9 C 0 (cM_0 g _) rfl dX8_isSo_61 (n := 64) rfl ?_
    refine j_bipush C dX8_isSo_64 bp_21 (n := 66) rfl ?_
    refine j_iload_n C dX8_isSo_66 rfl (n := 67) rfl ?_
    refine j_iadd C dX8_isSo_67 (n := 68) rfl ?_
    refine j_iload C dX8_isSo_68 rfl (n := 70) rfl ?_
    refine j_if_ge C dX8_isSo_70 (tgt := 85) (n := 73) (by decide) rfl (fun q2 => ?_) (fun q2 => ?_)
    · refine j_iload C dX8_isSo_85 rfl (n := 87) rfl ?_
      refine j_iast C 1 (cM_1 g _) (aM_1 g _ _ _) dX8_isSo_87 (n := 88) rfl ?_
      refine j_aload_n C dX8_isSo_88 rfl (n := 89) rfl ?_
      refine j_bipush C dX8_isSo_89 bp_15 (n := 91) rfl ?_
      refine j_iload_n C dX8_isSo_91 rfl (n := 92) rfl ?_
      refine j_iadd C dX8_isSo_92 (n := 93) rfl ?_
      refine j_iload_n C dX8_isSo_93 rfl (n := 94) rfl ?_
      refine j_bnd (fun r4 q3 => ?_)
      refine j_ci C (run_V C mi_X8_become lm_X8_108 iv_X8_become ⟨Nat.le_of_ble_eq_true rfl, Nat.le_of_ble_eq_true rfl⟩ (m_X8_become _ _ _ _ q3) (cM_0 g _) rfl rfl rfl rfl (Nat.le_of_ble_eq_true rfl) dX8_isSo_94) (n := 97) rfl ?_
      exact j_retP C dX8_isSo_97
    · refine j_aload_n C dX8_isSo_73 rfl (n := 74) rfl ?_
      refine gf_X8_9 C 0 (cM_0 g _) rfl dX8_isSo_74 (n := 77) rfl ?_
      refine j_bipush C dX8_isSo_77 bp_21 (n := 79) rfl ?_
      refine j_iload_n C dX8_isSo_79 rfl (n := 80) rfl ?_
      refine j_iadd C dX8_isSo_80 (n := 81) rfl ?_
      refine j_iald C 1 (cM_1 g _) dX8_isSo_81 (n := 82) rfl ?_
      refine j_goto C dX8_isSo_82 (n := 87) (by decide) ?_
      refine j_iast C 1 (cM_1 g _) (aM_1 g _ _ _) dX8_isSo_87 (n := 88) rfl ?_
      refine j_aload_n C dX8_isSo_88 rfl (n := 89) rfl ?_
      refine j_bipush C dX8_isSo_89 bp_15 (n := 91) rfl ?_
      refine j_iload_n C dX8_isSo_91 rfl (n := 92) rfl ?_
      refine j_iadd C dX8_isSo_92 (n := 93) rfl ?_
      refine j_iload_n C dX8_isSo_93 rfl (n := 94) rfl ?_
      refine j_bnd (fun r7 q6 => ?_)
      refine j_ci C (run_V C mi_X8_become lm_X8_108 iv_X8_become ⟨Nat.le_of_ble_eq_true rfl, Nat.le_of_ble_eq_true rfl⟩ (m_X8_become _ _ _ _ q6) (cM_0 g _) rfl rfl rfl rfl (Nat.le_of_ble_eq_true rfl) dX8_isSo_94) (n := 97) rfl ?_
      exact j_retP C dX8_isSo_97
  · refine j_split (fun q9 => ?_) (fun q9 => ?_)
    · refine j_tabIn C dX8_isSo_34 q9 (off := 64) (by decide) (n := 98) (by decide) ?_
      refine j_aload_n C dX8_isSo_98 rfl (n := 99) rfl ?_
      refine gf_X8_9 C 0 (cM_0 g _) rfl dX8_isSo_99 (n := 102) rfl ?_
      refine j_bipush C dX8_isSo_102 bp_27 (n := 104) rfl ?_
      refine j_iload_n C dX8_isSo_104 rfl (n := 105) rfl ?_
      refine j_iadd C dX8_isSo_105 (n := 106) rfl ?_
      refine j_iload_n C dX8_isSo_106 rfl (n := 107) rfl ?_
      refine j_iast C 1 (cM_1 g _) (aM_1 g _ _ _) dX8_isSo_107 (n := 108) rfl ?_
      refine j_iload_n C dX8_isSo_108 rfl (n := 109) rfl ?_
      exact j_retP C dX8_isSo_109
    · refine j_split (fun q10 => ?_) (fun q10 => ?_)
      · refine j_tabIn C dX8_isSo_34 q10 (off := 76) (by decide) (n := 110) (by decide) ?_
        refine j_aload_n C dX8_isSo_110 rfl (n := 111) rfl ?_
        refine j_iconst C dX8_isSo_111 ic_1 (n := 112) rfl ?_
        refine j_iload_n C dX8_isSo_112 rfl (n := 113) rfl ?_
        refine j_bnd (fun r12 q11 => ?_)
        refine j_ci C (run_V C mi_X8_become lm_X8_108 iv_X8_become ⟨Nat.le_of_ble_eq_true rfl, Nat.le_of_ble_eq_true rfl⟩ (m_X8_become _ _ _ _ q11) (cM_0 g _) rfl rfl rfl rfl (Nat.le_of_ble_eq_true rfl) dX8_isSo_113) (n := 116) rfl ?_
        exact j_retP C dX8_isSo_116
      · refine j_tabOut C dX8_isSo_34 (tabout_10_12 q1 q9 q10) (n := 117) (by decide) ?_
        refine j_aload_n C dX8_isSo_117 rfl (n := 118) rfl ?_
        refine j_aload_n C dX8_isSo_118 rfl (n := 119) rfl ?_
        refine gf_X8_48 C 0 (cM_0 g _) rfl dX8_isSo_119 (n := 122) rfl ?_
        refine j_iload_n C dX8_isSo_122 rfl (n := 123) rfl ?_
        refine j_iald C 8 (cM_8 g _) dX8_isSo_123 (n := 124) rfl ?_
        refine j_iload_n C dX8_isSo_124 rfl (n := 125) rfl ?_
        refine j_iload_n C dX8_isSo_125 rfl (n := 126) rfl ?_
        refine j_iload C dX8_isSo_126 rfl (n := 128) rfl ?_
        refine j_bnd (fun r15 q14 => ?_)
        refine j_ci C (run_V C mi_X8_comes lm_X8_85 iv_X8_comes ⟨Nat.le_of_ble_eq_true rfl, Nat.le_of_ble_eq_true rfl⟩ (m_X8_comes _ _ _ _ _ _ q14) (cM_0 g _) rfl rfl rfl rfl (Nat.le_of_ble_eq_true rfl) dX8_isSo_128) (n := 131) rfl ?_
        exact j_retP C dX8_isSo_131
-- X8_text
set_option maxRecDepth 20000 in
theorem j_X8_text_113 {x : Fx} {g : Gl} (C : Ok x g RX8 cX8_text 3 (some .int)) (fu : Nat) : ∀ (n : Nat) (x1 : Int32) (x2 : Int32) (h : Hp), J x g cwM 3 7 (fun r : Int32 × Hp => qI cwM r.1 r.2) 113 [some (rf g 0), some (.int x1), some (.int x2)] [] h (X8_text_113 fu n x1 x2 h) := by
  intro n
  induction n with
  | zero =>
    intro x1 x2 h
    rw [X8_text_113]
    exact j_none
  | succ n ih =>
    intro x1 x2 h
    rw [X8_text_113]
    refine j_iload_n C dX8_text_113 rfl (n := 114) rfl ?_
    refine j_aload_n C dX8_text_114 rfl (n := 115) rfl ?_
    refine gf_X8_287 C 0 (cM_0 g _) rfl dX8_text_115 (n := 118) rfl ?_
    refine j_icmp_ge C dX8_text_118 (tgt := 145) (n := 121) (by decide) rfl (fun q1 => ?_) (fun q1 => ?_)
    · refine j_iload_n C dX8_text_145 rfl (n := 146) rfl ?_
      exact j_retP C dX8_text_146
    · refine j_iload_n C dX8_text_121 rfl (n := 122) rfl ?_
      refine j_aload_n C dX8_text_122 rfl (n := 123) rfl ?_
      refine j_iconst C dX8_text_123 ic_4 (n := 124) rfl ?_
      refine j_iload_n C dX8_text_124 rfl (n := 125) rfl ?_
      refine j_imul C dX8_text_125 (n := 126) rfl ?_
      refine j_bnd (fun r3 q2 => ?_)
      refine j_ci C (run_V C mi_X8_isSo lm_X8_327 iv_X8_isSo ⟨Nat.le_of_ble_eq_true rfl, Nat.le_of_ble_eq_true rfl⟩ (m_X8_isSo _ _ _ q2) (cM_0 g _) rfl rfl rfl rfl (Nat.le_of_ble_eq_true rfl) dX8_text_126) (n := 129) rfl ?_
      refine j_if_ge C dX8_text_129 (tgt := 136) (n := 132) (by decide) rfl (fun q5 => ?_) (fun q5 => ?_)
      · refine j_iconst C dX8_text_136 ic_1 (n := 137) rfl ?_
        refine j_iadd C dX8_text_137 (n := 138) rfl ?_
        refine j_istore_n C dX8_text_138 (Nat.le_of_ble_eq_true rfl) (n := 139) rfl ?_
        refine j_iinc C dX8_text_139 rfl ic_1 (Nat.le_of_ble_eq_true rfl) (n := 142) rfl ?_
        refine j_goto C dX8_text_142 (n := 113) (by decide) ?_
        exact j_to (ih _ _ _) ⟨rfl, ⟨rfl, ⟨rfl, trivial⟩⟩⟩
      · refine j_iconst C dX8_text_132 ic_0 (n := 133) rfl ?_
        refine j_goto C dX8_text_133 (n := 137) (by decide) ?_
        refine j_iadd C dX8_text_137 (n := 138) rfl ?_
        refine j_istore_n C dX8_text_138 (Nat.le_of_ble_eq_true rfl) (n := 139) rfl ?_
        refine j_iinc C dX8_text_139 rfl ic_1 (Nat.le_of_ble_eq_true rfl) (n := 142) rfl ?_
        refine j_goto C dX8_text_142 (n := 113) (by decide) ?_
        exact j_to (ih _ _ _) ⟨rfl, ⟨rfl, ⟨rfl, trivial⟩⟩⟩
set_option maxRecDepth 20000 in
theorem j_X8_text_33 {x : Fx} {g : Gl} (C : Ok x g RX8 cX8_text 3 (some .int)) (fu : Nat) : ∀ (n : Nat) (h : Hp), J x g cwM 3 7 (fun r : Int32 × Hp => qI cwM r.1 r.2) 33 [some (rf g 0)] [] h (X8_text_33 fu n h) := by
  intro n
  induction n with
  | zero =>
    intro h
    rw [X8_text_33]
    exact j_none
  | succ n ih =>
    intro h
    rw [X8_text_33]
    refine j_aload_n C dX8_text_33 rfl (n := 34) rfl ?_
    refine gf_X8_276 C 0 (cM_0 g _) rfl dX8_text_34 (n := 37) rfl ?_
    refine j_if_ne C dX8_text_37 (tgt := 74) (n := 40) (by decide) rfl (fun q1 => ?_) (fun q1 => ?_)
    · refine j_aload_n C dX8_text_74 rfl (n := 75) rfl ?_
      refine j_aload_n C dX8_text_75 rfl (n := 76) rfl ?_
      refine gf_X8_266 C 0 (cM_0 g _) rfl dX8_text_76 (n := 79) rfl ?_
      refine j_if_ne C dX8_text_79 (tgt := 86) (n := 82) (by decide) rfl (fun q2 => ?_) (fun q2 => ?_)
      · refine j_iconst C dX8_text_86 ic_0 (n := 87) rfl ?_
        refine j_bnd (fun h4 q3 => ?_)
        refine j_cv C (run_V C mi_X8_must lm_X8_283 iv_X8_must ⟨Nat.le_of_ble_eq_true rfl, Nat.le_of_ble_eq_true rfl⟩ (m_X8_must _ _ _ _ q3) (cM_0 g _) rfl rfl rfl rfl (Nat.le_of_ble_eq_true rfl) dX8_text_87) (n := 90) rfl ?_
        refine j_aload_n C dX8_text_90 rfl (n := 91) rfl ?_
        refine j_iconst C dX8_text_91 ic_0 (n := 92) rfl ?_
        refine pf_X8_251 C 0 (cM_0 g _) (sM_0_10 g _ _) rfl dX8_text_92 (n := 95) rfl ?_
        refine j_aload_n C dX8_text_95 rfl (n := 96) rfl ?_
        refine gf_X8_276 C 0 (cM_0 g _) rfl dX8_text_96 (n := 99) rfl ?_
        refine j_if_eq C dX8_text_99 (tgt := 109) (n := 102) (by decide) rfl (fun q5 => ?_) (fun q5 => ?_)
        · refine j_iconst C dX8_text_109 ic_0 (n := 110) rfl ?_
          refine j_istore_n C dX8_text_110 (Nat.le_of_ble_eq_true rfl) (n := 111) rfl ?_
          refine j_iconst C dX8_text_111 ic_0 (n := 112) rfl ?_
          refine j_istore_n C dX8_text_112 (Nat.le_of_ble_eq_true rfl) (n := 113) rfl ?_
          exact j_to (j_X8_text_113 C _ _ _ _ _) ⟨rfl, ⟨rfl, ⟨rfl, trivial⟩⟩⟩
        · refine j_iconst C dX8_text_102 ic_m1 (n := 103) rfl ?_
          refine j_aload_n C dX8_text_103 rfl (n := 104) rfl ?_
          refine gf_X8_257 C 0 (cM_0 g _) rfl dX8_text_104 (n := 107) rfl ?_
          refine j_isub C dX8_text_107 (n := 108) rfl ?_
          exact j_retP C dX8_text_108
      · refine j_iconst C dX8_text_82 ic_1 (n := 83) rfl ?_
        refine j_goto C dX8_text_83 (n := 87) (by decide) ?_
        refine j_bnd (fun h7 q6 => ?_)
        refine j_cv C (run_V C mi_X8_must lm_X8_283 iv_X8_must ⟨Nat.le_of_ble_eq_true rfl, Nat.le_of_ble_eq_true rfl⟩ (m_X8_must _ _ _ _ q6) (cM_0 g _) rfl rfl rfl rfl (Nat.le_of_ble_eq_true rfl) dX8_text_87) (n := 90) rfl ?_
        refine j_aload_n C dX8_text_90 rfl (n := 91) rfl ?_
        refine j_iconst C dX8_text_91 ic_0 (n := 92) rfl ?_
        refine pf_X8_251 C 0 (cM_0 g _) (sM_0_10 g _ _) rfl dX8_text_92 (n := 95) rfl ?_
        refine j_aload_n C dX8_text_95 rfl (n := 96) rfl ?_
        refine gf_X8_276 C 0 (cM_0 g _) rfl dX8_text_96 (n := 99) rfl ?_
        refine j_if_eq C dX8_text_99 (tgt := 109) (n := 102) (by decide) rfl (fun q8 => ?_) (fun q8 => ?_)
        · refine j_iconst C dX8_text_109 ic_0 (n := 110) rfl ?_
          refine j_istore_n C dX8_text_110 (Nat.le_of_ble_eq_true rfl) (n := 111) rfl ?_
          refine j_iconst C dX8_text_111 ic_0 (n := 112) rfl ?_
          refine j_istore_n C dX8_text_112 (Nat.le_of_ble_eq_true rfl) (n := 113) rfl ?_
          exact j_to (j_X8_text_113 C _ _ _ _ _) ⟨rfl, ⟨rfl, ⟨rfl, trivial⟩⟩⟩
        · refine j_iconst C dX8_text_102 ic_m1 (n := 103) rfl ?_
          refine j_aload_n C dX8_text_103 rfl (n := 104) rfl ?_
          refine gf_X8_257 C 0 (cM_0 g _) rfl dX8_text_104 (n := 107) rfl ?_
          refine j_isub C dX8_text_107 (n := 108) rfl ?_
          exact j_retP C dX8_text_108
    · refine j_aload_n C dX8_text_40 rfl (n := 41) rfl ?_
      refine gf_X8_266 C 0 (cM_0 g _) rfl dX8_text_41 (n := 44) rfl ?_
      refine j_iconst C dX8_text_44 ic_3 (n := 45) rfl ?_
      refine j_icmp_ne C dX8_text_45 (tgt := 74) (n := 48) (by decide) rfl (fun q9 => ?_) (fun q9 => ?_)
      · refine j_aload_n C dX8_text_74 rfl (n := 75) rfl ?_
        refine j_aload_n C dX8_text_75 rfl (n := 76) rfl ?_
        refine gf_X8_266 C 0 (cM_0 g _) rfl dX8_text_76 (n := 79) rfl ?_
        refine j_if_ne C dX8_text_79 (tgt := 86) (n := 82) (by decide) rfl (fun q10 => ?_) (fun q10 => ?_)
        · refine j_iconst C dX8_text_86 ic_0 (n := 87) rfl ?_
          refine j_bnd (fun h12 q11 => ?_)
          refine j_cv C (run_V C mi_X8_must lm_X8_283 iv_X8_must ⟨Nat.le_of_ble_eq_true rfl, Nat.le_of_ble_eq_true rfl⟩ (m_X8_must _ _ _ _ q11) (cM_0 g _) rfl rfl rfl rfl (Nat.le_of_ble_eq_true rfl) dX8_text_87) (n := 90) rfl ?_
          refine j_aload_n C dX8_text_90 rfl (n := 91) rfl ?_
          refine j_iconst C dX8_text_91 ic_0 (n := 92) rfl ?_
          refine pf_X8_251 C 0 (cM_0 g _) (sM_0_10 g _ _) rfl dX8_text_92 (n := 95) rfl ?_
          refine j_aload_n C dX8_text_95 rfl (n := 96) rfl ?_
          refine gf_X8_276 C 0 (cM_0 g _) rfl dX8_text_96 (n := 99) rfl ?_
          refine j_if_eq C dX8_text_99 (tgt := 109) (n := 102) (by decide) rfl (fun q13 => ?_) (fun q13 => ?_)
          · refine j_iconst C dX8_text_109 ic_0 (n := 110) rfl ?_
            refine j_istore_n C dX8_text_110 (Nat.le_of_ble_eq_true rfl) (n := 111) rfl ?_
            refine j_iconst C dX8_text_111 ic_0 (n := 112) rfl ?_
            refine j_istore_n C dX8_text_112 (Nat.le_of_ble_eq_true rfl) (n := 113) rfl ?_
            exact j_to (j_X8_text_113 C _ _ _ _ _) ⟨rfl, ⟨rfl, ⟨rfl, trivial⟩⟩⟩
          · refine j_iconst C dX8_text_102 ic_m1 (n := 103) rfl ?_
            refine j_aload_n C dX8_text_103 rfl (n := 104) rfl ?_
            refine gf_X8_257 C 0 (cM_0 g _) rfl dX8_text_104 (n := 107) rfl ?_
            refine j_isub C dX8_text_107 (n := 108) rfl ?_
            exact j_retP C dX8_text_108
        · refine j_iconst C dX8_text_82 ic_1 (n := 83) rfl ?_
          refine j_goto C dX8_text_83 (n := 87) (by decide) ?_
          refine j_bnd (fun h15 q14 => ?_)
          refine j_cv C (run_V C mi_X8_must lm_X8_283 iv_X8_must ⟨Nat.le_of_ble_eq_true rfl, Nat.le_of_ble_eq_true rfl⟩ (m_X8_must _ _ _ _ q14) (cM_0 g _) rfl rfl rfl rfl (Nat.le_of_ble_eq_true rfl) dX8_text_87) (n := 90) rfl ?_
          refine j_aload_n C dX8_text_90 rfl (n := 91) rfl ?_
          refine j_iconst C dX8_text_91 ic_0 (n := 92) rfl ?_
          refine pf_X8_251 C 0 (cM_0 g _) (sM_0_10 g _ _) rfl dX8_text_92 (n := 95) rfl ?_
          refine j_aload_n C dX8_text_95 rfl (n := 96) rfl ?_
          refine gf_X8_276 C 0 (cM_0 g _) rfl dX8_text_96 (n := 99) rfl ?_
          refine j_if_eq C dX8_text_99 (tgt := 109) (n := 102) (by decide) rfl (fun q16 => ?_) (fun q16 => ?_)
          · refine j_iconst C dX8_text_109 ic_0 (n := 110) rfl ?_
            refine j_istore_n C dX8_text_110 (Nat.le_of_ble_eq_true rfl) (n := 111) rfl ?_
            refine j_iconst C dX8_text_111 ic_0 (n := 112) rfl ?_
            refine j_istore_n C dX8_text_112 (Nat.le_of_ble_eq_true rfl) (n := 113) rfl ?_
            exact j_to (j_X8_text_113 C _ _ _ _ _) ⟨rfl, ⟨rfl, ⟨rfl, trivial⟩⟩⟩
          · refine j_iconst C dX8_text_102 ic_m1 (n := 103) rfl ?_
            refine j_aload_n C dX8_text_103 rfl (n := 104) rfl ?_
            refine gf_X8_257 C 0 (cM_0 g _) rfl dX8_text_104 (n := 107) rfl ?_
            refine j_isub C dX8_text_107 (n := 108) rfl ?_
            exact j_retP C dX8_text_108
      · refine j_aload_n C dX8_text_48 rfl (n := 49) rfl ?_
        refine gf_X8_25 C 0 (cM_0 g _) rfl dX8_text_49 (n := 52) rfl ?_
        refine j_aload_n C dX8_text_52 rfl (n := 53) rfl ?_
        refine gf_X8_257 C 0 (cM_0 g _) rfl dX8_text_53 (n := 56) rfl ?_
        refine j_iald C 6 (cM_6 g _) dX8_text_56 (n := 57) rfl ?_
        refine j_bipush C dX8_text_57 bp_59 (n := 59) rfl ?_
        refine j_icmp_ne C dX8_text_59 (tgt := 74) (n := 62) (by decide) rfl (fun q17 => ?_) (fun q17 => ?_)
        · refine j_aload_n C dX8_text_74 rfl (n := 75) rfl ?_
          refine j_aload_n C dX8_text_75 rfl (n := 76) rfl ?_
          refine gf_X8_266 C 0 (cM_0 g _) rfl dX8_text_76 (n := 79) rfl ?_
          refine j_if_ne C dX8_text_79 (tgt := 86) (n := 82) (by decide) rfl (fun q18 => ?_) (fun q18 => ?_)
          · refine j_iconst C dX8_text_86 ic_0 (n := 87) rfl ?_
            refine j_bnd (fun h20 q19 => ?_)
            refine j_cv C (run_V C mi_X8_must lm_X8_283 iv_X8_must ⟨Nat.le_of_ble_eq_true rfl, Nat.le_of_ble_eq_true rfl⟩ (m_X8_must _ _ _ _ q19) (cM_0 g _) rfl rfl rfl rfl (Nat.le_of_ble_eq_true rfl) dX8_text_87) (n := 90) rfl ?_
            refine j_aload_n C dX8_text_90 rfl (n := 91) rfl ?_
            refine j_iconst C dX8_text_91 ic_0 (n := 92) rfl ?_
            refine pf_X8_251 C 0 (cM_0 g _) (sM_0_10 g _ _) rfl dX8_text_92 (n := 95) rfl ?_
            refine j_aload_n C dX8_text_95 rfl (n := 96) rfl ?_
            refine gf_X8_276 C 0 (cM_0 g _) rfl dX8_text_96 (n := 99) rfl ?_
            refine j_if_eq C dX8_text_99 (tgt := 109) (n := 102) (by decide) rfl (fun q21 => ?_) (fun q21 => ?_)
            · refine j_iconst C dX8_text_109 ic_0 (n := 110) rfl ?_
              refine j_istore_n C dX8_text_110 (Nat.le_of_ble_eq_true rfl) (n := 111) rfl ?_
              refine j_iconst C dX8_text_111 ic_0 (n := 112) rfl ?_
              refine j_istore_n C dX8_text_112 (Nat.le_of_ble_eq_true rfl) (n := 113) rfl ?_
              exact j_to (j_X8_text_113 C _ _ _ _ _) ⟨rfl, ⟨rfl, ⟨rfl, trivial⟩⟩⟩
            · refine j_iconst C dX8_text_102 ic_m1 (n := 103) rfl ?_
              refine j_aload_n C dX8_text_103 rfl (n := 104) rfl ?_
              refine gf_X8_257 C 0 (cM_0 g _) rfl dX8_text_104 (n := 107) rfl ?_
              refine j_isub C dX8_text_107 (n := 108) rfl ?_
              exact j_retP C dX8_text_108
          · refine j_iconst C dX8_text_82 ic_1 (n := 83) rfl ?_
            refine j_goto C dX8_text_83 (n := 87) (by decide) ?_
            refine j_bnd (fun h23 q22 => ?_)
            refine j_cv C (run_V C mi_X8_must lm_X8_283 iv_X8_must ⟨Nat.le_of_ble_eq_true rfl, Nat.le_of_ble_eq_true rfl⟩ (m_X8_must _ _ _ _ q22) (cM_0 g _) rfl rfl rfl rfl (Nat.le_of_ble_eq_true rfl) dX8_text_87) (n := 90) rfl ?_
            refine j_aload_n C dX8_text_90 rfl (n := 91) rfl ?_
            refine j_iconst C dX8_text_91 ic_0 (n := 92) rfl ?_
            refine pf_X8_251 C 0 (cM_0 g _) (sM_0_10 g _ _) rfl dX8_text_92 (n := 95) rfl ?_
            refine j_aload_n C dX8_text_95 rfl (n := 96) rfl ?_
            refine gf_X8_276 C 0 (cM_0 g _) rfl dX8_text_96 (n := 99) rfl ?_
            refine j_if_eq C dX8_text_99 (tgt := 109) (n := 102) (by decide) rfl (fun q24 => ?_) (fun q24 => ?_)
            · refine j_iconst C dX8_text_109 ic_0 (n := 110) rfl ?_
              refine j_istore_n C dX8_text_110 (Nat.le_of_ble_eq_true rfl) (n := 111) rfl ?_
              refine j_iconst C dX8_text_111 ic_0 (n := 112) rfl ?_
              refine j_istore_n C dX8_text_112 (Nat.le_of_ble_eq_true rfl) (n := 113) rfl ?_
              exact j_to (j_X8_text_113 C _ _ _ _ _) ⟨rfl, ⟨rfl, ⟨rfl, trivial⟩⟩⟩
            · refine j_iconst C dX8_text_102 ic_m1 (n := 103) rfl ?_
              refine j_aload_n C dX8_text_103 rfl (n := 104) rfl ?_
              refine gf_X8_257 C 0 (cM_0 g _) rfl dX8_text_104 (n := 107) rfl ?_
              refine j_isub C dX8_text_107 (n := 108) rfl ?_
              exact j_retP C dX8_text_108
        · refine j_aload_n C dX8_text_62 rfl (n := 63) rfl ?_
          refine j_iconst C dX8_text_63 ic_1 (n := 64) rfl ?_
          refine j_bnd (fun h26 q25 => ?_)
          refine j_cv C (run_V C mi_X8_must lm_X8_283 iv_X8_must ⟨Nat.le_of_ble_eq_true rfl, Nat.le_of_ble_eq_true rfl⟩ (m_X8_must _ _ _ _ q25) (cM_0 g _) rfl rfl rfl rfl (Nat.le_of_ble_eq_true rfl) dX8_text_64) (n := 67) rfl ?_
          refine j_aload_n C dX8_text_67 rfl (n := 68) rfl ?_
          refine j_bnd (fun h28 q27 => ?_)
          refine j_cv C (run_V C mi_X8_readItem lm_X8_324 iv_X8_readItem ⟨Nat.le_of_ble_eq_true rfl, Nat.le_of_ble_eq_true rfl⟩ (m_X8_readItem _ _ _ q27) (cM_0 g _) rfl rfl rfl rfl (Nat.le_of_ble_eq_true rfl) dX8_text_68) (n := 71) rfl ?_
          refine j_goto C dX8_text_71 (n := 33) (by decide) ?_
          exact j_to (ih _) ⟨rfl, trivial⟩
set_option maxRecDepth 20000 in
theorem m_X8_text (l : Launch) (fu : Nat) (h : Hp) {r : Int32 × Hp} (e : X8_text fu h = some r) : CT l yX8_text cX8_text 3 (some .int) 7 cwM (fun g => [rf g 0]) h (qI cwM r.1 r.2) := by
  refine ct_of (QR := (fun r : Int32 × Hp => qI cwM r.1 r.2)) (by decide +kernel) (fun g => ⟨rfl, Nat.le_of_ble_eq_true rfl⟩) e (fun x g hl C => ?_)
  unfold X8_text
  refine j_aload_n C dX8_text_0 rfl (n := 1) rfl ?_
  refine j_iconst C dX8_text_1 ic_0 (n := 2) rfl ?_
  refine pf_X8_254 C 0 (cM_0 g _) (sM_0_12 g _ _) rfl dX8_text_2 (n := 5) rfl ?_
  refine j_aload_n C dX8_text_5 rfl (n := 6) rfl ?_
  refine j_iconst C dX8_text_6 ic_0 (n := 7) rfl ?_
  refine pf_X8_276 C 0 (cM_0 g _) (Or.inl rfl) (sM_0_15 g _ _) rfl dX8_text_7 (n := 10) rfl ?_
  refine j_aload_n C dX8_text_10 rfl (n := 11) rfl ?_
  refine j_iconst C dX8_text_11 ic_0 (n := 12) rfl ?_
  refine pf_X8_287 C 0 (cM_0 g _) (sM_0_18 g _ _) rfl dX8_text_12 (n := 15) rfl ?_
  refine j_aload_n C dX8_text_15 rfl (n := 16) rfl ?_
  refine j_aload_n C dX8_text_16 rfl (n := 17) rfl ?_
  refine gf_X8_9 C 0 (cM_0 g _) rfl dX8_text_17 (n := 20) rfl ?_
  refine j_iconst C dX8_text_20 ic_2 (n := 21) rfl ?_
  refine j_ialdL C 1 (cM_1 g _) ir_2_117 dX8_text_21 (n := 22) rfl ?_
  refine pf_X8_297 C 0 (cM_0 g _) (sM_0_19 g _ _) rfl dX8_text_22 (n := 25) rfl ?_
  refine j_aload_n C dX8_text_25 rfl (n := 26) rfl ?_
  refine j_bnd (fun h2 q1 => ?_)
  refine j_cv C (run_V C mi_X8_next0 lm_X8_280 iv_X8_next0 ⟨Nat.le_of_ble_eq_true rfl, Nat.le_of_ble_eq_true rfl⟩ (m_X8_next0 _ _ _ q1) (cM_0 g _) rfl rfl rfl rfl (Nat.le_of_ble_eq_true rfl) dX8_text_26) (n := 29) rfl ?_
  refine j_aload_n C dX8_text_29 rfl (n := 30) rfl ?_
  refine j_bnd (fun h4 q3 => ?_)
  refine j_cv C (run_V C mi_X8_readItem lm_X8_324 iv_X8_readItem ⟨Nat.le_of_ble_eq_true rfl, Nat.le_of_ble_eq_true rfl⟩ (m_X8_readItem _ _ _ q3) (cM_0 g _) rfl rfl rfl rfl (Nat.le_of_ble_eq_true rfl) dX8_text_30) (n := 33) rfl ?_
  exact j_to (j_X8_text_33 C _ _ _) ⟨rfl, trivial⟩
-- X8_isSpot
set_option maxRecDepth 20000 in
theorem m_X8_isSpot (l : Launch) (x0 : Int32) (h : Hp) : CT l yX8_isSpot cX8_isSpot 1 (some .boolean) 1 cwM (fun g => [.int x0]) h (qZ cwM (X8_isSpot x0) h) := by
  refine ct_of (QR := (fun r : Int32 => qZ cwM r h)) (by decide +kernel) (fun g => ⟨rfl, Nat.le_of_ble_eq_true rfl⟩) (X8_isSpot_e x0) (fun x g hl C => ?_)
  unfold X8_isSpot_o
  refine j_iload_n C dX8_isSpot_0 rfl (n := 1) rfl ?_
  refine j_iconst C dX8_isSpot_1 ic_0 (n := 2) rfl ?_
  refine j_bipush C dX8_isSpot_2 bp_9 (n := 4) rfl ?_
  refine j_cz C (run_S C mi_X8_within lm_X8_68 st_X8_within ⟨Nat.le_of_ble_eq_true rfl, Nat.le_of_ble_eq_true rfl⟩ (m_X8_within _ _ _ _ _) rfl rfl rfl (Nat.le_of_ble_eq_true rfl) dX8_isSpot_4) (n := 7) rfl (fun b1 => ?_)
  exact j_retZ C b1 dX8_isSpot_7
-- X8_hold
set_option maxRecDepth 20000 in
theorem m_X8_hold (l : Launch) (x1 : Int32) (x2 : Int32) (h : Hp) {r : Int32 × Hp} (e : X8_hold x1 x2 h = some r) : CT l yX8_hold cX8_hold 3 (some .int) 2 cwM (fun g => [rf g 0, .int x1, .int x2]) h (qI cwM r.1 r.2) := by
  refine ct_of (QR := (fun r : Int32 × Hp => qI cwM r.1 r.2)) (by decide +kernel) (fun g => ⟨rfl, Nat.le_of_ble_eq_true rfl⟩) e (fun x g hl C => ?_)
  unfold X8_hold
  refine j_iload_n C dX8_hold_0 rfl (n := 1) rfl ?_
  refine j_cz C (run_S C mi_X8_isSpot lm_X8_330 st_X8_isSpot ⟨Nat.le_of_ble_eq_true rfl, Nat.le_of_ble_eq_true rfl⟩ (m_X8_isSpot _ _ _) rfl rfl rfl (Nat.le_of_ble_eq_true rfl) dX8_hold_1) (n := 4) rfl (fun b1 => ?_)
  refine j_if_eq C dX8_hold_4 (tgt := 20) (n := 7) (by decide) rfl (fun q2 => ?_) (fun q2 => ?_)
  · refine j_aload_n C dX8_hold_20 rfl (n := 21) rfl ?_
    refine j_ldc C dX8_hold_21 kc_X8_63 (n := 23) rfl ?_
    refine j_bnd (fun r4 q3 => ?_)
    refine j_ci C (run_V C mi_X8_finding lm_X8_80 iv_X8_finding ⟨Nat.le_of_ble_eq_true rfl, Nat.le_of_ble_eq_true rfl⟩ (m_X8_finding _ _ _ q3) (cM_0 g _) rfl rfl rfl rfl (Nat.le_of_ble_eq_true rfl) dX8_hold_23) (n := 26) rfl ?_
    exact j_retP C dX8_hold_26
  · refine j_iload_n C dX8_hold_7 rfl (n := 8) rfl ?_
    refine j_iconst C dX8_hold_8 ic_m1 (n := 9) rfl ?_
    refine j_icmp_eq C dX8_hold_9 (tgt := 27) (n := 12) (by decide) rfl (fun q6 => ?_) (fun q6 => ?_)
    · refine j_aload_n C dX8_hold_27 rfl (n := 28) rfl ?_
      refine gf_X8_9 C 0 (cM_0 g _) rfl dX8_hold_28 (n := 31) rfl ?_
      refine j_iconst C dX8_hold_31 ic_5 (n := 32) rfl ?_
      refine j_iload_n C dX8_hold_32 rfl (n := 33) rfl ?_
      refine j_iadd C dX8_hold_33 (n := 34) rfl ?_
      refine j_iload_n C dX8_hold_34 rfl (n := 35) rfl ?_
      refine j_iast C 1 (cM_1 g _) (aM_1 g _ _ _) dX8_hold_35 (n := 36) rfl ?_
      refine j_iconst C dX8_hold_36 ic_1 (n := 37) rfl ?_
      exact j_retP C dX8_hold_37
    · refine j_aload_n C dX8_hold_12 rfl (n := 13) rfl ?_
      refine j_iload_n C dX8_hold_13 rfl (n := 14) rfl ?_
      refine j_bnd (fun r8 q7 => ?_)
      refine j_cz C (run_V C mi_X8_isPart lm_X8_99 iv_X8_isPart ⟨Nat.le_of_ble_eq_true rfl, Nat.le_of_ble_eq_true rfl⟩ (m_X8_isPart _ _ _ q7) (cM_0 g _) rfl rfl rfl rfl (Nat.le_of_ble_eq_true rfl) dX8_hold_14) (n := 17) rfl (fun b9 => ?_)
      refine j_if_ne C dX8_hold_17 (tgt := 27) (n := 20) (by decide) rfl (fun q10 => ?_) (fun q10 => ?_)
      · refine j_aload_n C dX8_hold_27 rfl (n := 28) rfl ?_
        refine gf_X8_9 C 0 (cM_0 g _) rfl dX8_hold_28 (n := 31) rfl ?_
        refine j_iconst C dX8_hold_31 ic_5 (n := 32) rfl ?_
        refine j_iload_n C dX8_hold_32 rfl (n := 33) rfl ?_
        refine j_iadd C dX8_hold_33 (n := 34) rfl ?_
        refine j_iload_n C dX8_hold_34 rfl (n := 35) rfl ?_
        refine j_iast C 1 (cM_1 g _) (aM_1 g _ _ _) dX8_hold_35 (n := 36) rfl ?_
        refine j_iconst C dX8_hold_36 ic_1 (n := 37) rfl ?_
        exact j_retP C dX8_hold_37
      · refine j_aload_n C dX8_hold_20 rfl (n := 21) rfl ?_
        refine j_ldc C dX8_hold_21 kc_X8_63 (n := 23) rfl ?_
        refine j_bnd (fun r12 q11 => ?_)
        refine j_ci C (run_V C mi_X8_finding lm_X8_80 iv_X8_finding ⟨Nat.le_of_ble_eq_true rfl, Nat.le_of_ble_eq_true rfl⟩ (m_X8_finding _ _ _ q11) (cM_0 g _) rfl rfl rfl rfl (Nat.le_of_ble_eq_true rfl) dX8_hold_23) (n := 26) rfl ?_
        exact j_retP C dX8_hold_26
-- X8_as
set_option maxRecDepth 20000 in
theorem m_X8_as (l : Launch) (fu : Nat) (x1 : Int32) (x2 : Int32) (h : Hp) {r : Int32 × Hp} (e : X8_as fu x1 x2 h = some r) : CT l yX8_as cX8_as 4 (some .int) 2 cwM (fun g => [rf g 0, .int x1, .int x2]) h (qI cwM r.1 r.2) := by
  refine ct_of (QR := (fun r : Int32 × Hp => qI cwM r.1 r.2)) (by decide +kernel) (fun g => ⟨rfl, Nat.le_of_ble_eq_true rfl⟩) e (fun x g hl C => ?_)
  unfold X8_as
  refine j_iload_n C dX8_as_0 rfl (n := 1) rfl ?_
  refine j_cz C (run_S C mi_X8_isSpot lm_X8_330 st_X8_isSpot ⟨Nat.le_of_ble_eq_true rfl, Nat.le_of_ble_eq_true rfl⟩ (m_X8_isSpot _ _ _) rfl rfl rfl (Nat.le_of_ble_eq_true rfl) dX8_as_1) (n := 4) rfl (fun b1 => ?_)
  refine j_if_eq C dX8_as_4 (tgt := 14) (n := 7) (by decide) rfl (fun q2 => ?_) (fun q2 => ?_)
  · refine j_aload_n C dX8_as_14 rfl (n := 15) rfl ?_
    refine j_ldc C dX8_as_15 kc_X8_63 (n := 17) rfl ?_
    refine j_bnd (fun r4 q3 => ?_)
    refine j_ci C (run_V C mi_X8_finding lm_X8_80 iv_X8_finding ⟨Nat.le_of_ble_eq_true rfl, Nat.le_of_ble_eq_true rfl⟩ (m_X8_finding _ _ _ q3) (cM_0 g _) rfl rfl rfl rfl (Nat.le_of_ble_eq_true rfl) dX8_as_17) (n := 20) rfl ?_
    exact j_retP C dX8_as_20
  · refine j_iload_n C dX8_as_7 rfl (n := 8) rfl ?_
    refine j_cz C (run_S C mi_X8_isKind lm_X8_76 st_X8_isKind ⟨Nat.le_of_ble_eq_true rfl, Nat.le_of_ble_eq_true rfl⟩ (m_X8_isKind _ _ _) rfl rfl rfl (Nat.le_of_ble_eq_true rfl) dX8_as_8) (n := 11) rfl (fun b6 => ?_)
    refine j_if_ne C dX8_as_11 (tgt := 21) (n := 14) (by decide) rfl (fun q7 => ?_) (fun q7 => ?_)
    · refine j_aload_n C dX8_as_21 rfl (n := 22) rfl ?_
      refine gf_X8_9 C 0 (cM_0 g _) rfl dX8_as_22 (n := 25) rfl ?_
      refine j_iconst C dX8_as_25 ic_5 (n := 26) rfl ?_
      refine j_iload_n C dX8_as_26 rfl (n := 27) rfl ?_
      refine j_iadd C dX8_as_27 (n := 28) rfl ?_
      refine j_iald C 1 (cM_1 g _) dX8_as_28 (n := 29) rfl ?_
      refine j_istore_n C dX8_as_29 (Nat.le_of_ble_eq_true rfl) (n := 30) rfl ?_
      refine j_iload_n C dX8_as_30 rfl (n := 31) rfl ?_
      refine j_if_ge C dX8_as_31 (tgt := 41) (n := 34) (by decide) rfl (fun q8 => ?_) (fun q8 => ?_)
      · refine j_aload_n C dX8_as_41 rfl (n := 42) rfl ?_
        refine j_iload_n C dX8_as_42 rfl (n := 43) rfl ?_
        refine j_iconst C dX8_as_43 ic_0 (n := 44) rfl ?_
        refine j_bnd (fun r10 q9 => ?_)
        refine j_ci C (run_V C mi_X8_partIs lm_X8_92 iv_X8_partIs ⟨Nat.le_of_ble_eq_true rfl, Nat.le_of_ble_eq_true rfl⟩ (m_X8_partIs _ _ _ _ q9) (cM_0 g _) rfl rfl rfl rfl (Nat.le_of_ble_eq_true rfl) dX8_as_44) (n := 47) rfl ?_
        refine j_iload_n C dX8_as_47 rfl (n := 48) rfl ?_
        refine j_bnd (fun r13 q12 => ?_)
        refine j_cz C (run_S C mi_X8_isUnder lm_X8_95 st_X8_isUnder ⟨Nat.le_of_ble_eq_true rfl, Nat.le_of_ble_eq_true rfl⟩ (m_X8_isUnder _ _ _ _ _ q12) rfl rfl rfl (Nat.le_of_ble_eq_true rfl) dX8_as_48) (n := 51) rfl (fun b14 => ?_)
        refine j_if_eq C dX8_as_51 (tgt := 58) (n := 54) (by decide) rfl (fun q15 => ?_) (fun q15 => ?_)
        · refine j_aload_n C dX8_as_58 rfl (n := 59) rfl ?_
          refine j_ldc C dX8_as_59 kc_X8_201 (n := 61) rfl ?_
          refine j_bnd (fun r17 q16 => ?_)
          refine j_ci C (run_V C mi_X8_finding lm_X8_80 iv_X8_finding ⟨Nat.le_of_ble_eq_true rfl, Nat.le_of_ble_eq_true rfl⟩ (m_X8_finding _ _ _ q16) (cM_0 g _) rfl rfl rfl rfl (Nat.le_of_ble_eq_true rfl) dX8_as_61) (n := 64) rfl ?_
          exact j_retP C dX8_as_64
        · refine j_iload_n C dX8_as_54 rfl (n := 55) rfl ?_
          refine j_goto C dX8_as_55 (n := 64) (by decide) ?_
          exact j_retP C dX8_as_64
      · refine j_aload_n C dX8_as_34 rfl (n := 35) rfl ?_
        refine j_ldc C dX8_as_35 kc_X8_240 (n := 37) rfl ?_
        refine j_bnd (fun r20 q19 => ?_)
        refine j_ci C (run_V C mi_X8_finding lm_X8_80 iv_X8_finding ⟨Nat.le_of_ble_eq_true rfl, Nat.le_of_ble_eq_true rfl⟩ (m_X8_finding _ _ _ q19) (cM_0 g _) rfl rfl rfl rfl (Nat.le_of_ble_eq_true rfl) dX8_as_37) (n := 40) rfl ?_
        exact j_retP C dX8_as_40
    · refine j_aload_n C dX8_as_14 rfl (n := 15) rfl ?_
      refine j_ldc C dX8_as_15 kc_X8_63 (n := 17) rfl ?_
      refine j_bnd (fun r23 q22 => ?_)
      refine j_ci C (run_V C mi_X8_finding lm_X8_80 iv_X8_finding ⟨Nat.le_of_ble_eq_true rfl, Nat.le_of_ble_eq_true rfl⟩ (m_X8_finding _ _ _ q22) (cM_0 g _) rfl rfl rfl rfl (Nat.le_of_ble_eq_true rfl) dX8_as_17) (n := 20) rfl ?_
      exact j_retP C dX8_as_20
-- X8_sheet
set_option maxRecDepth 20000 in
theorem j_X8_sheet_86 {x : Fx} {g : Gl} (C : Ok x g RX8 cX8_sheet 5 (some .int)) (fu : Nat) : ∀ (n : Nat) (x1 : Int32) (x4 : Int32) (h : Hp), J x g cwM 5 2 (fun r : Int32 × Hp => qI cwM r.1 r.2) 86 [some (rf g 0), some (.int x1), none, none, some (.int x4)] [] h (X8_sheet_86 fu n x1 x4 h) := by
  intro n
  induction n with
  | zero =>
    intro x1 x4 h
    rw [X8_sheet_86]
    exact j_none
  | succ n ih =>
    intro x1 x4 h
    rw [X8_sheet_86]
    refine j_iload C dX8_sheet_86 rfl (n := 88) rfl ?_
    refine j_bipush C dX8_sheet_88 bp_40 (n := 90) rfl ?_
    refine j_icmp_ge C dX8_sheet_90 (tgt := 112) (n := 93) (by decide) rfl (fun q1 => ?_) (fun q1 => ?_)
    · refine j_aload_n C dX8_sheet_112 rfl (n := 113) rfl ?_
      refine gf_X8_54 C 0 (cM_0 g _) rfl dX8_sheet_113 (n := 116) rfl ?_
      refine j_iload_n C dX8_sheet_116 rfl (n := 117) rfl ?_
      refine j_iald C 10 (cM_10 g _) dX8_sheet_117 (n := 118) rfl ?_
      exact j_retP C dX8_sheet_118
    · refine j_aload_n C dX8_sheet_93 rfl (n := 94) rfl ?_
      refine gf_X8_57 C 0 (cM_0 g _) rfl dX8_sheet_94 (n := 97) rfl ?_
      refine j_bipush C dX8_sheet_97 bp_40 (n := 99) rfl ?_
      refine j_iload_n C dX8_sheet_99 rfl (n := 100) rfl ?_
      refine j_imul C dX8_sheet_100 (n := 101) rfl ?_
      refine j_iload C dX8_sheet_101 rfl (n := 103) rfl ?_
      refine j_iadd C dX8_sheet_103 (n := 104) rfl ?_
      refine j_iconst C dX8_sheet_104 ic_0 (n := 105) rfl ?_
      refine j_iast C 11 (cM_11 g _) (aM_11 g _ _ _) dX8_sheet_105 (n := 106) rfl ?_
      refine j_iinc C dX8_sheet_106 rfl ic_1 (Nat.le_of_ble_eq_true rfl) (n := 109) rfl ?_
      refine j_goto C dX8_sheet_109 (n := 86) (by decide) ?_
      exact j_to (ih _ _ _) ⟨rfl, ⟨rfl, ⟨rfl, trivial⟩⟩⟩
set_option maxRecDepth 20000 in
theorem j_X8_sheet_36 {x : Fx} {g : Gl} (C : Ok x g RX8 cX8_sheet 5 (some .int)) (fu : Nat) (x1 : Int32) (x2 : Int32) (x3 : Int32) (h : Hp) : J x g cwM 5 2 (fun r : Int32 × Hp => qI cwM r.1 r.2) 36 [some (rf g 0), some (.int x1), some (.int x2), some (.int x3)] [] h (X8_sheet_36 fu x1 x2 x3 h) := by
  unfold X8_sheet_36
  refine j_iload_n C dX8_sheet_36 rfl (n := 37) rfl ?_
  refine j_if_ge C dX8_sheet_37 (tgt := 48) (n := 40) (by decide) rfl (fun q1 => ?_) (fun q1 => ?_)
  · refine j_iload_n C dX8_sheet_48 rfl (n := 49) rfl ?_
    refine j_bipush C dX8_sheet_49 bp_40 (n := 51) rfl ?_
    refine j_icmp_le C dX8_sheet_51 (tgt := 61) (n := 54) (by decide) rfl (fun q2 => ?_) (fun q2 => ?_)
    · refine j_aload_n C dX8_sheet_61 rfl (n := 62) rfl ?_
      refine gf_X8_51 C 0 (cM_0 g _) rfl dX8_sheet_62 (n := 65) rfl ?_
      refine j_iload_n C dX8_sheet_65 rfl (n := 66) rfl ?_
      refine j_iload_n C dX8_sheet_66 rfl (n := 67) rfl ?_
      refine j_iast C 9 (cM_9 g _) (aM_9 g _ _ _) dX8_sheet_67 (n := 68) rfl ?_
      refine j_aload_n C dX8_sheet_68 rfl (n := 69) rfl ?_
      refine gf_X8_54 C 0 (cM_0 g _) rfl dX8_sheet_69 (n := 72) rfl ?_
      refine j_iload_n C dX8_sheet_72 rfl (n := 73) rfl ?_
      refine j_iload_n C dX8_sheet_73 rfl (n := 74) rfl ?_
      refine j_if_ne C dX8_sheet_74 (tgt := 81) (n := 77) (by decide) rfl (fun q3 => ?_) (fun q3 => ?_)
      · refine j_iload_n C dX8_sheet_81 rfl (n := 82) rfl ?_
        refine j_iast C 10 (cM_10 g _) (aM_10 g _ _ _) dX8_sheet_82 (n := 83) rfl ?_
        refine j_iconst C dX8_sheet_83 ic_0 (n := 84) rfl ?_
        refine j_istore C dX8_sheet_84 (Nat.le_of_ble_eq_true rfl) (n := 86) rfl ?_
        exact j_to (j_X8_sheet_86 C _ _ _ _ _) ⟨rfl, ⟨rfl, ⟨rfl, trivial⟩⟩⟩
      · refine j_iconst C dX8_sheet_77 ic_0 (n := 78) rfl ?_
        refine j_goto C dX8_sheet_78 (n := 82) (by decide) ?_
        refine j_iast C 10 (cM_10 g _) (aM_10 g _ _ _) dX8_sheet_82 (n := 83) rfl ?_
        refine j_iconst C dX8_sheet_83 ic_0 (n := 84) rfl ?_
        refine j_istore C dX8_sheet_84 (Nat.le_of_ble_eq_true rfl) (n := 86) rfl ?_
        exact j_to (j_X8_sheet_86 C _ _ _ _ _) ⟨rfl, ⟨rfl, ⟨rfl, trivial⟩⟩⟩
    · refine j_aload_n C dX8_sheet_54 rfl (n := 55) rfl ?_
      refine j_ldc C dX8_sheet_55 kc_X8_63 (n := 57) rfl ?_
      refine j_bnd (fun r5 q4 => ?_)
      refine j_ci C (run_V C mi_X8_finding lm_X8_80 iv_X8_finding ⟨Nat.le_of_ble_eq_true rfl, Nat.le_of_ble_eq_true rfl⟩ (m_X8_finding _ _ _ q4) (cM_0 g _) rfl rfl rfl rfl (Nat.le_of_ble_eq_true rfl) dX8_sheet_57) (n := 60) rfl ?_
      exact j_retP C dX8_sheet_60
  · refine j_aload_n C dX8_sheet_40 rfl (n := 41) rfl ?_
    refine j_ldcw C dX8_sheet_41 kc_X8_333 (n := 44) rfl ?_
    refine j_bnd (fun r8 q7 => ?_)
    refine j_ci C (run_V C mi_X8_finding lm_X8_80 iv_X8_finding ⟨Nat.le_of_ble_eq_true rfl, Nat.le_of_ble_eq_true rfl⟩ (m_X8_finding _ _ _ q7) (cM_0 g _) rfl rfl rfl rfl (Nat.le_of_ble_eq_true rfl) dX8_sheet_44) (n := 47) rfl ?_
    exact j_retP C dX8_sheet_47
set_option maxRecDepth 20000 in
theorem m_X8_sheet (l : Launch) (fu : Nat) (x1 : Int32) (x2 : Int32) (x3 : Int32) (h : Hp) {r : Int32 × Hp} (e : X8_sheet fu x1 x2 x3 h = some r) : CT l yX8_sheet cX8_sheet 5 (some .int) 2 cwM (fun g => [rf g 0, .int x1, .int x2, .int x3]) h (qI cwM r.1 r.2) := by
  refine ct_of (QR := (fun r : Int32 × Hp => qI cwM r.1 r.2)) (by decide +kernel) (fun g => ⟨rfl, Nat.le_of_ble_eq_true rfl⟩) e (fun x g hl C => ?_)
  unfold X8_sheet
  refine j_iload_n C dX8_sheet_0 rfl (n := 1) rfl ?_
  refine j_cz C (run_S C mi_X8_isSheet lm_X8_237 st_X8_isSheet ⟨Nat.le_of_ble_eq_true rfl, Nat.le_of_ble_eq_true rfl⟩ (m_X8_isSheet _ _ _) rfl rfl rfl (Nat.le_of_ble_eq_true rfl) dX8_sheet_1) (n := 4) rfl (fun b1 => ?_)
  refine j_if_eq C dX8_sheet_4 (tgt := 29) (n := 7) (by decide) rfl (fun q2 => ?_) (fun q2 => ?_)
  · refine j_aload_n C dX8_sheet_29 rfl (n := 30) rfl ?_
    refine j_ldc C dX8_sheet_30 kc_X8_63 (n := 32) rfl ?_
    refine j_bnd (fun r4 q3 => ?_)
    refine j_ci C (run_V C mi_X8_finding lm_X8_80 iv_X8_finding ⟨Nat.le_of_ble_eq_true rfl, Nat.le_of_ble_eq_true rfl⟩ (m_X8_finding _ _ _ q3) (cM_0 g _) rfl rfl rfl rfl (Nat.le_of_ble_eq_true rfl) dX8_sheet_32) (n := 35) rfl ?_
    exact j_retP C dX8_sheet_35
  · refine j_iload_n C dX8_sheet_7 rfl (n := 8) rfl ?_
    refine j_if_eq C dX8_sheet_8 (tgt := 36) (n := 11) (by decide) rfl (fun q6 => ?_) (fun q6 => ?_)
    · exact j_to (j_X8_sheet_36 C _ _ _ _ _) ⟨rfl, ⟨rfl, ⟨rfl, ⟨rfl, trivial⟩⟩⟩⟩
    · refine j_iload_n C dX8_sheet_11 rfl (n := 12) rfl ?_
      refine j_bipush C dX8_sheet_12 bp_8 (n := 14) rfl ?_
      refine j_icmp_eq C dX8_sheet_14 (tgt := 36) (n := 17) (by decide) rfl (fun q7 => ?_) (fun q7 => ?_)
      · exact j_to (j_X8_sheet_36 C _ _ _ _ _) ⟨rfl, ⟨rfl, ⟨rfl, ⟨rfl, trivial⟩⟩⟩⟩
      · refine j_iload_n C dX8_sheet_17 rfl (n := 18) rfl ?_
        refine j_bipush C dX8_sheet_18 bp_16 (n := 20) rfl ?_
        refine j_icmp_eq C dX8_sheet_20 (tgt := 36) (n := 23) (by decide) rfl (fun q8 => ?_) (fun q8 => ?_)
        · exact j_to (j_X8_sheet_36 C _ _ _ _ _) ⟨rfl, ⟨rfl, ⟨rfl, ⟨rfl, trivial⟩⟩⟩⟩
        · refine j_iload_n C dX8_sheet_23 rfl (n := 24) rfl ?_
          refine j_bipush C dX8_sheet_24 bp_32 (n := 26) rfl ?_
          refine j_icmp_eq C dX8_sheet_26 (tgt := 36) (n := 29) (by decide) rfl (fun q9 => ?_) (fun q9 => ?_)
          · exact j_to (j_X8_sheet_36 C _ _ _ _ _) ⟨rfl, ⟨rfl, ⟨rfl, ⟨rfl, trivial⟩⟩⟩⟩
          · refine j_aload_n C dX8_sheet_29 rfl (n := 30) rfl ?_
            refine j_ldc C dX8_sheet_30 kc_X8_63 (n := 32) rfl ?_
            refine j_bnd (fun r11 q10 => ?_)
            refine j_ci C (run_V C mi_X8_finding lm_X8_80 iv_X8_finding ⟨Nat.le_of_ble_eq_true rfl, Nat.le_of_ble_eq_true rfl⟩ (m_X8_finding _ _ _ q10) (cM_0 g _) rfl rfl rfl rfl (Nat.le_of_ble_eq_true rfl) dX8_sheet_32) (n := 35) rfl ?_
            exact j_retP C dX8_sheet_35
-- X8_cutTo
set_option maxRecDepth 20000 in
theorem m_X8_cutTo (l : Launch) (x0 : Int32) (x1 : Int32) (h : Hp) : CT l yX8_cutTo cX8_cutTo 2 (some .int) 0 cwM (fun g => [.int x0, .int x1]) h (qI cwM (X8_cutTo x0 x1) h) := by
  refine ct_of (QR := (fun r : Int32 => qI cwM r h)) (by decide +kernel) (fun g => ⟨rfl, Nat.le_of_ble_eq_true rfl⟩) (X8_cutTo_e x0 x1) (fun x g hl C => ?_)
  unfold X8_cutTo_o
  refine j_iload_n C dX8_cutTo_0 rfl (n := 1) rfl ?_
  refine j_bipush C dX8_cutTo_1 bp_8 (n := 3) rfl ?_
  refine j_icmp_ne C dX8_cutTo_3 (tgt := 11) (n := 6) (by decide) rfl (fun q1 => ?_) (fun q1 => ?_)
  · refine j_iload_n C dX8_cutTo_11 rfl (n := 12) rfl ?_
    refine j_bipush C dX8_cutTo_12 bp_16 (n := 14) rfl ?_
    refine j_icmp_ne C dX8_cutTo_14 (tgt := 22) (n := 17) (by decide) rfl (fun q2 => ?_) (fun q2 => ?_)
    · refine j_iload_n C dX8_cutTo_22 rfl (n := 23) rfl ?_
      exact j_ret C dX8_cutTo_23
    · refine j_iload_n C dX8_cutTo_17 rfl (n := 18) rfl ?_
      refine j_i2s C dX8_cutTo_18 (n := 19) rfl ?_
      refine j_goto C dX8_cutTo_19 (n := 23) (by decide) ?_
      exact j_ret C dX8_cutTo_23
  · refine j_iload_n C dX8_cutTo_6 rfl (n := 7) rfl ?_
    refine j_i2b C dX8_cutTo_7 (n := 8) rfl ?_
    refine j_goto C dX8_cutTo_8 (n := 23) (by decide) ?_
    exact j_ret C dX8_cutTo_23
-- X8_write
set_option maxRecDepth 20000 in
theorem m_X8_write (l : Launch) (x1 : Int32) (x2 : Int32) (x3 : Int32) (h : Hp) {r : Int32 × Hp} (e : X8_write x1 x2 x3 h = some r) : CT l yX8_write cX8_write 4 (some .int) 2 cwM (fun g => [rf g 0, .int x1, .int x2, .int x3]) h (qI cwM r.1 r.2) := by
  refine ct_of (QR := (fun r : Int32 × Hp => qI cwM r.1 r.2)) (by decide +kernel) (fun g => ⟨rfl, Nat.le_of_ble_eq_true rfl⟩) e (fun x g hl C => ?_)
  unfold X8_write
  refine j_iload_n C dX8_write_0 rfl (n := 1) rfl ?_
  refine j_cz C (run_S C mi_X8_isSheet lm_X8_237 st_X8_isSheet ⟨Nat.le_of_ble_eq_true rfl, Nat.le_of_ble_eq_true rfl⟩ (m_X8_isSheet _ _ _) rfl rfl rfl (Nat.le_of_ble_eq_true rfl) dX8_write_1) (n := 4) rfl (fun b1 => ?_)
  refine j_if_ne C dX8_write_4 (tgt := 14) (n := 7) (by decide) rfl (fun q2 => ?_) (fun q2 => ?_)
  · refine j_aload_n C dX8_write_14 rfl (n := 15) rfl ?_
    refine gf_X8_51 C 0 (cM_0 g _) rfl dX8_write_15 (n := 18) rfl ?_
    refine j_iload_n C dX8_write_18 rfl (n := 19) rfl ?_
    refine j_iald C 9 (cM_9 g _) dX8_write_19 (n := 20) rfl ?_
    refine j_if_ne C dX8_write_20 (tgt := 30) (n := 23) (by decide) rfl (fun q3 => ?_) (fun q3 => ?_)
    · refine j_iload_n C dX8_write_30 rfl (n := 31) rfl ?_
      refine j_iconst C dX8_write_31 ic_0 (n := 32) rfl ?_
      refine j_aload_n C dX8_write_32 rfl (n := 33) rfl ?_
      refine gf_X8_54 C 0 (cM_0 g _) rfl dX8_write_33 (n := 36) rfl ?_
      refine j_iload_n C dX8_write_36 rfl (n := 37) rfl ?_
      refine j_iald C 10 (cM_10 g _) dX8_write_37 (n := 38) rfl ?_
      refine j_iconst C dX8_write_38 ic_1 (n := 39) rfl ?_
      refine j_isub C dX8_write_39 (n := 40) rfl ?_
      refine j_cz C (run_S C mi_X8_within lm_X8_68 st_X8_within ⟨Nat.le_of_ble_eq_true rfl, Nat.le_of_ble_eq_true rfl⟩ (m_X8_within _ _ _ _ _) rfl rfl rfl (Nat.le_of_ble_eq_true rfl) dX8_write_40) (n := 43) rfl (fun b4 => ?_)
      refine j_if_ne C dX8_write_43 (tgt := 53) (n := 46) (by decide) rfl (fun q5 => ?_) (fun q5 => ?_)
      · refine j_aload_n C dX8_write_53 rfl (n := 54) rfl ?_
        refine gf_X8_57 C 0 (cM_0 g _) rfl dX8_write_54 (n := 57) rfl ?_
        refine j_bipush C dX8_write_57 bp_40 (n := 59) rfl ?_
        refine j_iload_n C dX8_write_59 rfl (n := 60) rfl ?_
        refine j_imul C dX8_write_60 (n := 61) rfl ?_
        refine j_iload_n C dX8_write_61 rfl (n := 62) rfl ?_
        refine j_iadd C dX8_write_62 (n := 63) rfl ?_
        refine j_iload_n C dX8_write_63 rfl (n := 64) rfl ?_
        refine j_aload_n C dX8_write_64 rfl (n := 65) rfl ?_
        refine gf_X8_51 C 0 (cM_0 g _) rfl dX8_write_65 (n := 68) rfl ?_
        refine j_iload_n C dX8_write_68 rfl (n := 69) rfl ?_
        refine j_iald C 9 (cM_9 g _) dX8_write_69 (n := 70) rfl ?_
        refine j_ci C (run_S C mi_X8_cutTo lm_X8_334 st_X8_cutTo ⟨Nat.le_of_ble_eq_true rfl, Nat.le_of_ble_eq_true rfl⟩ (m_X8_cutTo _ _ _ _) rfl rfl rfl (Nat.le_of_ble_eq_true rfl) dX8_write_70) (n := 73) rfl ?_
        refine j_iast C 11 (cM_11 g _) (aM_11 g _ _ _) dX8_write_73 (n := 74) rfl ?_
        refine j_iconst C dX8_write_74 ic_1 (n := 75) rfl ?_
        exact j_retP C dX8_write_75
      · refine j_aload_n C dX8_write_46 rfl (n := 47) rfl ?_
        refine j_ldc C dX8_write_47 kc_X8_63 (n := 49) rfl ?_
        refine j_bnd (fun r7 q6 => ?_)
        refine j_ci C (run_V C mi_X8_finding lm_X8_80 iv_X8_finding ⟨Nat.le_of_ble_eq_true rfl, Nat.le_of_ble_eq_true rfl⟩ (m_X8_finding _ _ _ q6) (cM_0 g _) rfl rfl rfl rfl (Nat.le_of_ble_eq_true rfl) dX8_write_49) (n := 52) rfl ?_
        exact j_retP C dX8_write_52
    · refine j_aload_n C dX8_write_23 rfl (n := 24) rfl ?_
      refine j_ldc C dX8_write_24 kc_X8_240 (n := 26) rfl ?_
      refine j_bnd (fun r10 q9 => ?_)
      refine j_ci C (run_V C mi_X8_finding lm_X8_80 iv_X8_finding ⟨Nat.le_of_ble_eq_true rfl, Nat.le_of_ble_eq_true rfl⟩ (m_X8_finding _ _ _ q9) (cM_0 g _) rfl rfl rfl rfl (Nat.le_of_ble_eq_true rfl) dX8_write_26) (n := 29) rfl ?_
      exact j_retP C dX8_write_29
  · refine j_aload_n C dX8_write_7 rfl (n := 8) rfl ?_
    refine j_ldc C dX8_write_8 kc_X8_63 (n := 10) rfl ?_
    refine j_bnd (fun r13 q12 => ?_)
    refine j_ci C (run_V C mi_X8_finding lm_X8_80 iv_X8_finding ⟨Nat.le_of_ble_eq_true rfl, Nat.le_of_ble_eq_true rfl⟩ (m_X8_finding _ _ _ q12) (cM_0 g _) rfl rfl rfl rfl (Nat.le_of_ble_eq_true rfl) dX8_write_10) (n := 13) rfl ?_
    exact j_retP C dX8_write_13
-- X8_copy
set_option maxRecDepth 20000 in
theorem j_X8_copy_164 {x : Fx} {g : Gl} (C : Ok x g RX8 cX8_copy 7 (some .int)) (fu : Nat) : ∀ (n : Nat) (x3 : Int32) (x4 : Int32) (x5 : Int32) (x6 : Int32) (h : Hp), J x g cwM 7 2 (fun r : Int32 × Hp => qI cwM r.1 r.2) 164 [some (rf g 0), none, none, some (.int x3), some (.int x4), some (.int x5), some (.int x6)] [] h (X8_copy_164 fu n x3 x4 x5 x6 h) := by
  intro n
  induction n with
  | zero =>
    intro x3 x4 x5 x6 h
    rw [X8_copy_164]
    exact j_none
  | succ n ih =>
    intro x3 x4 x5 x6 h
    rw [X8_copy_164]
    refine j_iload C dX8_copy_164 rfl (n := 166) rfl ?_
    refine j_iload C dX8_copy_166 rfl (n := 168) rfl ?_
    refine j_icmp_ge C dX8_copy_168 (tgt := 199) (n := 171) (by decide) rfl (fun q1 => ?_) (fun q1 => ?_)
    · refine j_iload C dX8_copy_199 rfl (n := 201) rfl ?_
      exact j_retP C dX8_copy_201
    · refine j_aload_n C dX8_copy_171 rfl (n := 172) rfl ?_
      refine gf_X8_57 C 0 (cM_0 g _) rfl dX8_copy_172 (n := 175) rfl ?_
      refine j_bipush C dX8_copy_175 bp_40 (n := 177) rfl ?_
      refine j_iload_n C dX8_copy_177 rfl (n := 178) rfl ?_
      refine j_imul C dX8_copy_178 (n := 179) rfl ?_
      refine j_iload C dX8_copy_179 rfl (n := 181) rfl ?_
      refine j_iadd C dX8_copy_181 (n := 182) rfl ?_
      refine j_iload C dX8_copy_182 rfl (n := 184) rfl ?_
      refine j_iadd C dX8_copy_184 (n := 185) rfl ?_
      refine j_aload_n C dX8_copy_185 rfl (n := 186) rfl ?_
      refine gf_X8_60 C 0 (cM_0 g _) rfl dX8_copy_186 (n := 189) rfl ?_
      refine j_iload C dX8_copy_189 rfl (n := 191) rfl ?_
      refine j_iald C 12 (cM_12 g _) dX8_copy_191 (n := 192) rfl ?_
      refine j_iast C 11 (cM_11 g _) (aM_11 g _ _ _) dX8_copy_192 (n := 193) rfl ?_
      refine j_iinc C dX8_copy_193 rfl ic_1 (Nat.le_of_ble_eq_true rfl) (n := 196) rfl ?_
      refine j_goto C dX8_copy_196 (n := 164) (by decide) ?_
      exact j_to (ih _ _ _ _ _) ⟨rfl, ⟨rfl, ⟨rfl, ⟨rfl, ⟨rfl, trivial⟩⟩⟩⟩⟩
set_option maxRecDepth 20000 in
theorem j_X8_copy_127 {x : Fx} {g : Gl} (C : Ok x g RX8 cX8_copy 7 (some .int)) (fu : Nat) : ∀ (n : Nat) (x1 : Int32) (x2 : Int32) (x3 : Int32) (x4 : Int32) (x5 : Int32) (x6 : Int32) (h : Hp), J x g cwM 7 2 (fun r : Int32 × Hp => qI cwM r.1 r.2) 127 [some (rf g 0), some (.int x1), some (.int x2), some (.int x3), some (.int x4), some (.int x5), some (.int x6)] [] h (X8_copy_127 fu n x1 x2 x3 x4 x5 x6 h) := by
  intro n
  induction n with
  | zero =>
    intro x1 x2 x3 x4 x5 x6 h
    rw [X8_copy_127]
    exact j_none
  | succ n ih =>
    intro x1 x2 x3 x4 x5 x6 h
    rw [X8_copy_127]
    refine j_iload C dX8_copy_127 rfl (n := 129) rfl ?_
    refine j_iload C dX8_copy_129 rfl (n := 131) rfl ?_
    refine j_icmp_ge C dX8_copy_131 (tgt := 161) (n := 134) (by decide) rfl (fun q1 => ?_) (fun q1 => ?_)
    · refine j_iconst C dX8_copy_161 ic_0 (n := 162) rfl ?_
      refine j_istore C dX8_copy_162 (Nat.le_of_ble_eq_true rfl) (n := 164) rfl ?_
      exact j_to (j_X8_copy_164 C _ _ _ _ _ _ _) ⟨rfl, ⟨rfl, ⟨rfl, ⟨rfl, ⟨rfl, trivial⟩⟩⟩⟩⟩
    · refine j_aload_n C dX8_copy_134 rfl (n := 135) rfl ?_
      refine gf_X8_60 C 0 (cM_0 g _) rfl dX8_copy_135 (n := 138) rfl ?_
      refine j_iload C dX8_copy_138 rfl (n := 140) rfl ?_
      refine j_aload_n C dX8_copy_140 rfl (n := 141) rfl ?_
      refine gf_X8_57 C 0 (cM_0 g _) rfl dX8_copy_141 (n := 144) rfl ?_
      refine j_bipush C dX8_copy_144 bp_40 (n := 146) rfl ?_
      refine j_iload_n C dX8_copy_146 rfl (n := 147) rfl ?_
      refine j_imul C dX8_copy_147 (n := 148) rfl ?_
      refine j_iload_n C dX8_copy_148 rfl (n := 149) rfl ?_
      refine j_iadd C dX8_copy_149 (n := 150) rfl ?_
      refine j_iload C dX8_copy_150 rfl (n := 152) rfl ?_
      refine j_iadd C dX8_copy_152 (n := 153) rfl ?_
      refine j_iald C 11 (cM_11 g _) dX8_copy_153 (n := 154) rfl ?_
      refine j_iast C 12 (cM_12 g _) (aM_12 g _ _ _) dX8_copy_154 (n := 155) rfl ?_
      refine j_iinc C dX8_copy_155 rfl ic_1 (Nat.le_of_ble_eq_true rfl) (n := 158) rfl ?_
      refine j_goto C dX8_copy_158 (n := 127) (by decide) ?_
      exact j_to (ih _ _ _ _ _ _ _) ⟨rfl, ⟨rfl, ⟨rfl, ⟨rfl, ⟨rfl, ⟨rfl, ⟨rfl, trivial⟩⟩⟩⟩⟩⟩⟩
set_option maxRecDepth 20000 in
theorem m_X8_copy (l : Launch) (fu : Nat) (x1 : Int32) (x2 : Int32) (x3 : Int32) (x4 : Int32) (x5 : Int32) (h : Hp) {r : Int32 × Hp} (e : X8_copy fu x1 x2 x3 x4 x5 h = some r) : CT l yX8_copy cX8_copy 7 (some .int) 2 cwM (fun g => [rf g 0, .int x1, .int x2, .int x3, .int x4, .int x5]) h (qI cwM r.1 r.2) := by
  refine ct_of (QR := (fun r : Int32 × Hp => qI cwM r.1 r.2)) (by decide +kernel) (fun g => ⟨rfl, Nat.le_of_ble_eq_true rfl⟩) e (fun x g hl C => ?_)
  unfold X8_copy
  refine j_iload_n C dX8_copy_0 rfl (n := 1) rfl ?_
  refine j_cz C (run_S C mi_X8_isSheet lm_X8_237 st_X8_isSheet ⟨Nat.le_of_ble_eq_true rfl, Nat.le_of_ble_eq_true rfl⟩ (m_X8_isSheet _ _ _) rfl rfl rfl (Nat.le_of_ble_eq_true rfl) dX8_copy_1) (n := 4) rfl (fun b1 => ?_)
  refine j_if_eq C dX8_copy_4 (tgt := 14) (n := 7) (by decide) rfl (fun q2 => ?_) (fun q2 => ?_)
  · refine j_aload_n C dX8_copy_14 rfl (n := 15) rfl ?_
    refine j_ldc C dX8_copy_15 kc_X8_63 (n := 17) rfl ?_
    refine j_bnd (fun r4 q3 => ?_)
    refine j_ci C (run_V C mi_X8_finding lm_X8_80 iv_X8_finding ⟨Nat.le_of_ble_eq_true rfl, Nat.le_of_ble_eq_true rfl⟩ (m_X8_finding _ _ _ q3) (cM_0 g _) rfl rfl rfl rfl (Nat.le_of_ble_eq_true rfl) dX8_copy_17) (n := 20) rfl ?_
    exact j_retP C dX8_copy_20
  · refine j_iload_n C dX8_copy_7 rfl (n := 8) rfl ?_
    refine j_cz C (run_S C mi_X8_isSheet lm_X8_237 st_X8_isSheet ⟨Nat.le_of_ble_eq_true rfl, Nat.le_of_ble_eq_true rfl⟩ (m_X8_isSheet _ _ _) rfl rfl rfl (Nat.le_of_ble_eq_true rfl) dX8_copy_8) (n := 11) rfl (fun b6 => ?_)
    refine j_if_ne C dX8_copy_11 (tgt := 21) (n := 14) (by decide) rfl (fun q7 => ?_) (fun q7 => ?_)
    · refine j_aload_n C dX8_copy_21 rfl (n := 22) rfl ?_
      refine gf_X8_51 C 0 (cM_0 g _) rfl dX8_copy_22 (n := 25) rfl ?_
      refine j_iload_n C dX8_copy_25 rfl (n := 26) rfl ?_
      refine j_iald C 9 (cM_9 g _) dX8_copy_26 (n := 27) rfl ?_
      refine j_if_eq C dX8_copy_27 (tgt := 39) (n := 30) (by decide) rfl (fun q8 => ?_) (fun q8 => ?_)
      · refine j_aload_n C dX8_copy_39 rfl (n := 40) rfl ?_
        refine j_ldc C dX8_copy_40 kc_X8_240 (n := 42) rfl ?_
        refine j_bnd (fun r10 q9 => ?_)
        refine j_ci C (run_V C mi_X8_finding lm_X8_80 iv_X8_finding ⟨Nat.le_of_ble_eq_true rfl, Nat.le_of_ble_eq_true rfl⟩ (m_X8_finding _ _ _ q9) (cM_0 g _) rfl rfl rfl rfl (Nat.le_of_ble_eq_true rfl) dX8_copy_42) (n := 45) rfl ?_
        exact j_retP C dX8_copy_45
      · refine j_aload_n C dX8_copy_30 rfl (n := 31) rfl ?_
        refine gf_X8_51 C 0 (cM_0 g _) rfl dX8_copy_31 (n := 34) rfl ?_
        refine j_iload_n C dX8_copy_34 rfl (n := 35) rfl ?_
        refine j_iald C 9 (cM_9 g _) dX8_copy_35 (n := 36) rfl ?_
        refine j_if_ne C dX8_copy_36 (tgt := 46) (n := 39) (by decide) rfl (fun q12 => ?_) (fun q12 => ?_)
        · refine j_aload_n C dX8_copy_46 rfl (n := 47) rfl ?_
          refine gf_X8_51 C 0 (cM_0 g _) rfl dX8_copy_47 (n := 50) rfl ?_
          refine j_iload_n C dX8_copy_50 rfl (n := 51) rfl ?_
          refine j_iald C 9 (cM_9 g _) dX8_copy_51 (n := 52) rfl ?_
          refine j_aload_n C dX8_copy_52 rfl (n := 53) rfl ?_
          refine gf_X8_51 C 0 (cM_0 g _) rfl dX8_copy_53 (n := 56) rfl ?_
          refine j_iload_n C dX8_copy_56 rfl (n := 57) rfl ?_
          refine j_iald C 9 (cM_9 g _) dX8_copy_57 (n := 58) rfl ?_
          refine j_icmp_eq C dX8_copy_58 (tgt := 68) (n := 61) (by decide) rfl (fun q13 => ?_) (fun q13 => ?_)
          · refine j_iload_n C dX8_copy_68 rfl (n := 69) rfl ?_
            refine j_if_lt C dX8_copy_69 (tgt := 117) (n := 72) (by decide) rfl (fun q14 => ?_) (fun q14 => ?_)
            · refine j_aload_n C dX8_copy_117 rfl (n := 118) rfl ?_
              refine j_ldc C dX8_copy_118 kc_X8_63 (n := 120) rfl ?_
              refine j_bnd (fun r16 q15 => ?_)
              refine j_ci C (run_V C mi_X8_finding lm_X8_80 iv_X8_finding ⟨Nat.le_of_ble_eq_true rfl, Nat.le_of_ble_eq_true rfl⟩ (m_X8_finding _ _ _ q15) (cM_0 g _) rfl rfl rfl rfl (Nat.le_of_ble_eq_true rfl) dX8_copy_120) (n := 123) rfl ?_
              exact j_retP C dX8_copy_123
            · refine j_iload C dX8_copy_72 rfl (n := 74) rfl ?_
              refine j_if_lt C dX8_copy_74 (tgt := 117) (n := 77) (by decide) rfl (fun q18 => ?_) (fun q18 => ?_)
              · refine j_aload_n C dX8_copy_117 rfl (n := 118) rfl ?_
                refine j_ldc C dX8_copy_118 kc_X8_63 (n := 120) rfl ?_
                refine j_bnd (fun r20 q19 => ?_)
                refine j_ci C (run_V C mi_X8_finding lm_X8_80 iv_X8_finding ⟨Nat.le_of_ble_eq_true rfl, Nat.le_of_ble_eq_true rfl⟩ (m_X8_finding _ _ _ q19) (cM_0 g _) rfl rfl rfl rfl (Nat.le_of_ble_eq_true rfl) dX8_copy_120) (n := 123) rfl ?_
                exact j_retP C dX8_copy_123
              · refine j_iload C dX8_copy_77 rfl (n := 79) rfl ?_
                refine j_if_lt C dX8_copy_79 (tgt := 117) (n := 82) (by decide) rfl (fun q22 => ?_) (fun q22 => ?_)
                · refine j_aload_n C dX8_copy_117 rfl (n := 118) rfl ?_
                  refine j_ldc C dX8_copy_118 kc_X8_63 (n := 120) rfl ?_
                  refine j_bnd (fun r24 q23 => ?_)
                  refine j_ci C (run_V C mi_X8_finding lm_X8_80 iv_X8_finding ⟨Nat.le_of_ble_eq_true rfl, Nat.le_of_ble_eq_true rfl⟩ (m_X8_finding _ _ _ q23) (cM_0 g _) rfl rfl rfl rfl (Nat.le_of_ble_eq_true rfl) dX8_copy_120) (n := 123) rfl ?_
                  exact j_retP C dX8_copy_123
                · refine j_iload_n C dX8_copy_82 rfl (n := 83) rfl ?_
                  refine j_i2l C dX8_copy_83 (n := 84) rfl ?_
                  refine j_iload C dX8_copy_84 rfl (n := 86) rfl ?_
                  refine j_i2l C dX8_copy_86 (n := 87) rfl ?_
                  refine j_ladd C dX8_copy_87 (n := 88) rfl ?_
                  refine j_aload_n C dX8_copy_88 rfl (n := 89) rfl ?_
                  refine gf_X8_54 C 0 (cM_0 g _) rfl dX8_copy_89 (n := 92) rfl ?_
                  refine j_iload_n C dX8_copy_92 rfl (n := 93) rfl ?_
                  refine j_iald C 10 (cM_10 g _) dX8_copy_93 (n := 94) rfl ?_
                  refine j_i2l C dX8_copy_94 (n := 95) rfl ?_
                  refine j_lcmp C dX8_copy_95 (n := 96) rfl ?_
                  refine j_if_gt C dX8_copy_96 (tgt := 117) (n := 99) (by decide) rfl (fun q26 => ?_) (fun q26 => ?_)
                  · refine j_aload_n C dX8_copy_117 rfl (n := 118) rfl ?_
                    refine j_ldc C dX8_copy_118 kc_X8_63 (n := 120) rfl ?_
                    refine j_bnd (fun r28 q27 => ?_)
                    refine j_ci C (run_V C mi_X8_finding lm_X8_80 iv_X8_finding ⟨Nat.le_of_ble_eq_true rfl, Nat.le_of_ble_eq_true rfl⟩ (m_X8_finding _ _ _ q27) (cM_0 g _) rfl rfl rfl rfl (Nat.le_of_ble_eq_true rfl) dX8_copy_120) (n := 123) rfl ?_
                    exact j_retP C dX8_copy_123
                  · refine j_iload C dX8_copy_99 rfl (n := 101) rfl ?_
                    refine j_i2l C dX8_copy_101 (n := 102) rfl ?_
                    refine j_iload C dX8_copy_102 rfl (n := 104) rfl ?_
                    refine j_i2l C dX8_copy_104 (n := 105) rfl ?_
                    refine j_ladd C dX8_copy_105 (n := 106) rfl ?_
                    refine j_aload_n C dX8_copy_106 rfl (n := 107) rfl ?_
                    refine gf_X8_54 C 0 (cM_0 g _) rfl dX8_copy_107 (n := 110) rfl ?_
                    refine j_iload_n C dX8_copy_110 rfl (n := 111) rfl ?_
                    refine j_iald C 10 (cM_10 g _) dX8_copy_111 (n := 112) rfl ?_
                    refine j_i2l C dX8_copy_112 (n := 113) rfl ?_
                    refine j_lcmp C dX8_copy_113 (n := 114) rfl ?_
                    refine j_if_le C dX8_copy_114 (tgt := 124) (n := 117) (by decide) rfl (fun q30 => ?_) (fun q30 => ?_)
                    · refine j_iconst C dX8_copy_124 ic_0 (n := 125) rfl ?_
                      refine j_istore C dX8_copy_125 (Nat.le_of_ble_eq_true rfl) (n := 127) rfl ?_
                      exact j_to (j_X8_copy_127 C _ _ _ _ _ _ _ _ _) ⟨rfl, ⟨rfl, ⟨rfl, ⟨rfl, ⟨rfl, ⟨rfl, ⟨rfl, trivial⟩⟩⟩⟩⟩⟩⟩
                    · refine j_aload_n C dX8_copy_117 rfl (n := 118) rfl ?_
                      refine j_ldc C dX8_copy_118 kc_X8_63 (n := 120) rfl ?_
                      refine j_bnd (fun r32 q31 => ?_)
                      refine j_ci C (run_V C mi_X8_finding lm_X8_80 iv_X8_finding ⟨Nat.le_of_ble_eq_true rfl, Nat.le_of_ble_eq_true rfl⟩ (m_X8_finding _ _ _ q31) (cM_0 g _) rfl rfl rfl rfl (Nat.le_of_ble_eq_true rfl) dX8_copy_120) (n := 123) rfl ?_
                      exact j_retP C dX8_copy_123
          · refine j_aload_n C dX8_copy_61 rfl (n := 62) rfl ?_
            refine j_ldc C dX8_copy_62 kc_X8_201 (n := 64) rfl ?_
            refine j_bnd (fun r35 q34 => ?_)
            refine j_ci C (run_V C mi_X8_finding lm_X8_80 iv_X8_finding ⟨Nat.le_of_ble_eq_true rfl, Nat.le_of_ble_eq_true rfl⟩ (m_X8_finding _ _ _ q34) (cM_0 g _) rfl rfl rfl rfl (Nat.le_of_ble_eq_true rfl) dX8_copy_64) (n := 67) rfl ?_
            exact j_retP C dX8_copy_67
        · refine j_aload_n C dX8_copy_39 rfl (n := 40) rfl ?_
          refine j_ldc C dX8_copy_40 kc_X8_240 (n := 42) rfl ?_
          refine j_bnd (fun r38 q37 => ?_)
          refine j_ci C (run_V C mi_X8_finding lm_X8_80 iv_X8_finding ⟨Nat.le_of_ble_eq_true rfl, Nat.le_of_ble_eq_true rfl⟩ (m_X8_finding _ _ _ q37) (cM_0 g _) rfl rfl rfl rfl (Nat.le_of_ble_eq_true rfl) dX8_copy_42) (n := 45) rfl ?_
          exact j_retP C dX8_copy_45
    · refine j_aload_n C dX8_copy_14 rfl (n := 15) rfl ?_
      refine j_ldc C dX8_copy_15 kc_X8_63 (n := 17) rfl ?_
      refine j_bnd (fun r41 q40 => ?_)
      refine j_ci C (run_V C mi_X8_finding lm_X8_80 iv_X8_finding ⟨Nat.le_of_ble_eq_true rfl, Nat.le_of_ble_eq_true rfl⟩ (m_X8_finding _ _ _ q40) (cM_0 g _) rfl rfl rfl rfl (Nat.le_of_ble_eq_true rfl) dX8_copy_17) (n := 20) rfl ?_
      exact j_retP C dX8_copy_20
-- X8_load
set_option maxRecDepth 20000 in
theorem j_X8_load_32 {x : Fx} {g : Gl} (C : Ok x g RX8 cX8_load 3 (some .int)) (fu : Nat) : ∀ (n : Nat) (x1 : Int32) (x2 : Int32) (h : Hp), J x g cwM 3 2 (fun r : Int32 × Hp => qI cwM r.1 r.2) 32 [some (rf g 0), some (.int x1), some (.int x2)] [] h (X8_load_32 fu n x1 x2 h) := by
  intro n
  induction n with
  | zero =>
    intro x1 x2 h
    rw [X8_load_32]
    exact j_none
  | succ n ih =>
    intro x1 x2 h
    rw [X8_load_32]
    refine j_iload_n C dX8_load_32 rfl (n := 33) rfl ?_
    refine j_aload_n C dX8_load_33 rfl (n := 34) rfl ?_
    refine gf_X8_54 C 0 (cM_0 g _) rfl dX8_load_34 (n := 37) rfl ?_
    refine j_iload_n C dX8_load_37 rfl (n := 38) rfl ?_
    refine j_iald C 10 (cM_10 g _) dX8_load_38 (n := 39) rfl ?_
    refine j_icmp_ge C dX8_load_39 (tgt := 97) (n := 42) (by decide) rfl (fun q1 => ?_) (fun q1 => ?_)
    · refine j_iload_n C dX8_load_97 rfl (n := 98) rfl ?_
      exact j_retP C dX8_load_98
    · refine j_aload_n C dX8_load_42 rfl (n := 43) rfl ?_
      refine j_iload_n C dX8_load_43 rfl (n := 44) rfl ?_
      refine j_bnd (fun r3 q2 => ?_)
      refine j_cz C (run_V C mi_X8_isPart lm_X8_99 iv_X8_isPart ⟨Nat.le_of_ble_eq_true rfl, Nat.le_of_ble_eq_true rfl⟩ (m_X8_isPart _ _ _ q2) (cM_0 g _) rfl rfl rfl rfl (Nat.le_of_ble_eq_true rfl) dX8_load_44) (n := 47) rfl (fun b4 => ?_)
      refine j_if_eq C dX8_load_47 (tgt := 97) (n := 50) (by decide) rfl (fun q5 => ?_) (fun q5 => ?_)
      · refine j_iload_n C dX8_load_97 rfl (n := 98) rfl ?_
        exact j_retP C dX8_load_98
      · refine j_aload_n C dX8_load_50 rfl (n := 51) rfl ?_
        refine gf_X8_57 C 0 (cM_0 g _) rfl dX8_load_51 (n := 54) rfl ?_
        refine j_bipush C dX8_load_54 bp_40 (n := 56) rfl ?_
        refine j_iload_n C dX8_load_56 rfl (n := 57) rfl ?_
        refine j_imul C dX8_load_57 (n := 58) rfl ?_
        refine j_iload_n C dX8_load_58 rfl (n := 59) rfl ?_
        refine j_iadd C dX8_load_59 (n := 60) rfl ?_
        refine j_iald C 11 (cM_11 g _) dX8_load_60 (n := 61) rfl ?_
        refine j_iconst C dX8_load_61 ic_1 (n := 62) rfl ?_
        refine j_bipush C dX8_load_62 bp_60 (n := 64) rfl ?_
        refine j_cz C (run_S C mi_X8_within lm_X8_68 st_X8_within ⟨Nat.le_of_ble_eq_true rfl, Nat.le_of_ble_eq_true rfl⟩ (m_X8_within _ _ _ _ _) rfl rfl rfl (Nat.le_of_ble_eq_true rfl) dX8_load_64) (n := 67) rfl (fun b6 => ?_)
        refine j_if_eq C dX8_load_67 (tgt := 97) (n := 70) (by decide) rfl (fun q7 => ?_) (fun q7 => ?_)
        · refine j_iload_n C dX8_load_97 rfl (n := 98) rfl ?_
          exact j_retP C dX8_load_98
        · refine j_aload_n C dX8_load_70 rfl (n := 71) rfl ?_
          refine gf_X8_9 C 0 (cM_0 g _) rfl dX8_load_71 (n := 74) rfl ?_
          refine j_iload_n C dX8_load_74 rfl (n := 75) rfl ?_
          refine j_iconst C dX8_load_75 ic_2 (n := 76) rfl ?_
          refine j_ci C (run_S C mi_X8_at lm_X8_72 st_X8_at ⟨Nat.le_of_ble_eq_true rfl, Nat.le_of_ble_eq_true rfl⟩ (m_X8_at _ _ _ _) rfl rfl rfl (Nat.le_of_ble_eq_true rfl) dX8_load_76) (n := 79) rfl ?_
          refine j_aload_n C dX8_load_79 rfl (n := 80) rfl ?_
          refine gf_X8_57 C 0 (cM_0 g _) rfl dX8_load_80 (n := 83) rfl ?_
          refine j_bipush C dX8_load_83 bp_40 (n := 85) rfl ?_
          refine j_iload_n C dX8_load_85 rfl (n := 86) rfl ?_
          refine j_imul C dX8_load_86 (n := 87) rfl ?_
          refine j_iload_n C dX8_load_87 rfl (n := 88) rfl ?_
          refine j_iadd C dX8_load_88 (n := 89) rfl ?_
          refine j_iald C 11 (cM_11 g _) dX8_load_89 (n := 90) rfl ?_
          refine j_iast C 1 (cM_1 g _) (aM_1 g _ _ _) dX8_load_90 (n := 91) rfl ?_
          refine j_iinc C dX8_load_91 rfl ic_1 (Nat.le_of_ble_eq_true rfl) (n := 94) rfl ?_
          refine j_goto C dX8_load_94 (n := 32) (by decide) ?_
          exact j_to (ih _ _ _) ⟨rfl, ⟨rfl, ⟨rfl, trivial⟩⟩⟩
set_option maxRecDepth 20000 in
theorem m_X8_load (l : Launch) (fu : Nat) (x1 : Int32) (h : Hp) {r : Int32 × Hp} (e : X8_load fu x1 h = some r) : CT l yX8_load cX8_load 3 (some .int) 2 cwM (fun g => [rf g 0, .int x1]) h (qI cwM r.1 r.2) := by
  refine ct_of (QR := (fun r : Int32 × Hp => qI cwM r.1 r.2)) (by decide +kernel) (fun g => ⟨rfl, Nat.le_of_ble_eq_true rfl⟩) e (fun x g hl C => ?_)
  unfold X8_load
  refine j_iload_n C dX8_load_0 rfl (n := 1) rfl ?_
  refine j_cz C (run_S C mi_X8_isSheet lm_X8_237 st_X8_isSheet ⟨Nat.le_of_ble_eq_true rfl, Nat.le_of_ble_eq_true rfl⟩ (m_X8_isSheet _ _ _) rfl rfl rfl (Nat.le_of_ble_eq_true rfl) dX8_load_1) (n := 4) rfl (fun b1 => ?_)
  refine j_if_ne C dX8_load_4 (tgt := 14) (n := 7) (by decide) rfl (fun q2 => ?_) (fun q2 => ?_)
  · refine j_aload_n C dX8_load_14 rfl (n := 15) rfl ?_
    refine gf_X8_51 C 0 (cM_0 g _) rfl dX8_load_15 (n := 18) rfl ?_
    refine j_iload_n C dX8_load_18 rfl (n := 19) rfl ?_
    refine j_iald C 9 (cM_9 g _) dX8_load_19 (n := 20) rfl ?_
    refine j_if_ne C dX8_load_20 (tgt := 30) (n := 23) (by decide) rfl (fun q3 => ?_) (fun q3 => ?_)
    · refine j_iconst C dX8_load_30 ic_0 (n := 31) rfl ?_
      refine j_istore_n C dX8_load_31 (Nat.le_of_ble_eq_true rfl) (n := 32) rfl ?_
      exact j_to (j_X8_load_32 C _ _ _ _ _) ⟨rfl, ⟨rfl, ⟨rfl, trivial⟩⟩⟩
    · refine j_aload_n C dX8_load_23 rfl (n := 24) rfl ?_
      refine j_ldc C dX8_load_24 kc_X8_240 (n := 26) rfl ?_
      refine j_bnd (fun r5 q4 => ?_)
      refine j_ci C (run_V C mi_X8_finding lm_X8_80 iv_X8_finding ⟨Nat.le_of_ble_eq_true rfl, Nat.le_of_ble_eq_true rfl⟩ (m_X8_finding _ _ _ q4) (cM_0 g _) rfl rfl rfl rfl (Nat.le_of_ble_eq_true rfl) dX8_load_26) (n := 29) rfl ?_
      exact j_retP C dX8_load_29
  · refine j_aload_n C dX8_load_7 rfl (n := 8) rfl ?_
    refine j_ldc C dX8_load_8 kc_X8_63 (n := 10) rfl ?_
    refine j_bnd (fun r8 q7 => ?_)
    refine j_ci C (run_V C mi_X8_finding lm_X8_80 iv_X8_finding ⟨Nat.le_of_ble_eq_true rfl, Nat.le_of_ble_eq_true rfl⟩ (m_X8_finding _ _ _ q7) (cM_0 g _) rfl rfl rfl rfl (Nat.le_of_ble_eq_true rfl) dX8_load_10) (n := 13) rfl ?_
    exact j_retP C dX8_load_13
-- X8_judge
set_option maxRecDepth 20000 in
theorem j_X8_judge_74 {x : Fx} {g : Gl} (C : Ok x g RX8 cX8_judge 3 (some .int)) (fu : Nat) (x1 : Int32) (x2 : Int32) (h : Hp) : J x g cwM 3 4 (fun r : Int32 × Hp => qI cwM r.1 r.2) 74 [some (rf g 0), some (.int x1), some (.int x2)] [] h (X8_judge_74 fu x1 x2 h) := by
  unfold X8_judge_74
  refine j_iload_n C dX8_judge_74 rfl (n := 75) rfl ?_
  refine j_aload_n C dX8_judge_75 rfl (n := 76) rfl ?_
  refine gf_X8_54 C 0 (cM_0 g _) rfl dX8_judge_76 (n := 79) rfl ?_
  refine j_iload_n C dX8_judge_79 rfl (n := 80) rfl ?_
  refine j_iald C 10 (cM_10 g _) dX8_judge_80 (n := 81) rfl ?_
  refine j_icmp_ne C dX8_judge_81 (tgt := 88) (n := 84) (by decide) rfl (fun q1 => ?_) (fun q1 => ?_)
  · refine j_iconst C dX8_judge_88 ic_1 (n := 89) rfl ?_
    refine j_iload_n C dX8_judge_89 rfl (n := 90) rfl ?_
    refine j_iadd C dX8_judge_90 (n := 91) rfl ?_
    exact j_retP C dX8_judge_91
  · refine j_iconst C dX8_judge_84 ic_0 (n := 85) rfl ?_
    refine j_goto C dX8_judge_85 (n := 91) (by decide) ?_
    exact j_retP C dX8_judge_91
set_option maxRecDepth 20000 in
theorem j_X8_judge_32 {x : Fx} {g : Gl} (C : Ok x g RX8 cX8_judge 3 (some .int)) (fu : Nat) : ∀ (n : Nat) (x1 : Int32) (x2 : Int32) (h : Hp), J x g cwM 3 4 (fun r : Int32 × Hp => qI cwM r.1 r.2) 32 [some (rf g 0), some (.int x1), some (.int x2)] [] h (X8_judge_32 fu n x1 x2 h) := by
  intro n
  induction n with
  | zero =>
    intro x1 x2 h
    rw [X8_judge_32]
    exact j_none
  | succ n ih =>
    intro x1 x2 h
    rw [X8_judge_32]
    refine j_iload_n C dX8_judge_32 rfl (n := 33) rfl ?_
    refine j_aload_n C dX8_judge_33 rfl (n := 34) rfl ?_
    refine gf_X8_54 C 0 (cM_0 g _) rfl dX8_judge_34 (n := 37) rfl ?_
    refine j_iload_n C dX8_judge_37 rfl (n := 38) rfl ?_
    refine j_iald C 10 (cM_10 g _) dX8_judge_38 (n := 39) rfl ?_
    refine j_icmp_ge C dX8_judge_39 (tgt := 74) (n := 42) (by decide) rfl (fun q1 => ?_) (fun q1 => ?_)
    · exact j_to (j_X8_judge_74 C _ _ _ _) ⟨rfl, ⟨rfl, ⟨rfl, trivial⟩⟩⟩
    · refine j_iload_n C dX8_judge_42 rfl (n := 43) rfl ?_
      refine j_cz C (run_S C mi_X8_isRoom lm_X8_114 st_X8_isRoom ⟨Nat.le_of_ble_eq_true rfl, Nat.le_of_ble_eq_true rfl⟩ (m_X8_isRoom _ _ _) rfl rfl rfl (Nat.le_of_ble_eq_true rfl) dX8_judge_43) (n := 46) rfl (fun b2 => ?_)
      refine j_if_eq C dX8_judge_46 (tgt := 74) (n := 49) (by decide) rfl (fun q3 => ?_) (fun q3 => ?_)
      · exact j_to (j_X8_judge_74 C _ _ _ _) ⟨rfl, ⟨rfl, ⟨rfl, trivial⟩⟩⟩
      · refine j_aload_n C dX8_judge_49 rfl (n := 50) rfl ?_
        refine gf_X8_57 C 0 (cM_0 g _) rfl dX8_judge_50 (n := 53) rfl ?_
        refine j_bipush C dX8_judge_53 bp_40 (n := 55) rfl ?_
        refine j_iload_n C dX8_judge_55 rfl (n := 56) rfl ?_
        refine j_imul C dX8_judge_56 (n := 57) rfl ?_
        refine j_iload_n C dX8_judge_57 rfl (n := 58) rfl ?_
        refine j_iadd C dX8_judge_58 (n := 59) rfl ?_
        refine j_iald C 11 (cM_11 g _) dX8_judge_59 (n := 60) rfl ?_
        refine j_aload_n C dX8_judge_60 rfl (n := 61) rfl ?_
        refine j_iload_n C dX8_judge_61 rfl (n := 62) rfl ?_
        refine j_bnd (fun r5 q4 => ?_)
        refine j_ci C (run_V C mi_X8_likeness lm_X8_141 iv_X8_likeness ⟨Nat.le_of_ble_eq_true rfl, Nat.le_of_ble_eq_true rfl⟩ (m_X8_likeness _ _ _ _ q4) (cM_0 g _) rfl rfl rfl rfl (Nat.le_of_ble_eq_true rfl) dX8_judge_62) (n := 65) rfl ?_
        refine j_icmp_ne C dX8_judge_65 (tgt := 74) (n := 68) (by decide) rfl (fun q7 => ?_) (fun q7 => ?_)
        · exact j_to (j_X8_judge_74 C _ _ _ _) ⟨rfl, ⟨rfl, ⟨rfl, trivial⟩⟩⟩
        · refine j_iinc C dX8_judge_68 rfl ic_1 (Nat.le_of_ble_eq_true rfl) (n := 71) rfl ?_
          refine j_goto C dX8_judge_71 (n := 32) (by decide) ?_
          exact j_to (ih _ _ _) ⟨rfl, ⟨rfl, ⟨rfl, trivial⟩⟩⟩
set_option maxRecDepth 20000 in
theorem m_X8_judge (l : Launch) (fu : Nat) (x1 : Int32) (h : Hp) {r : Int32 × Hp} (e : X8_judge fu x1 h = some r) : CT l yX8_judge cX8_judge 3 (some .int) 4 cwM (fun g => [rf g 0, .int x1]) h (qI cwM r.1 r.2) := by
  refine ct_of (QR := (fun r : Int32 × Hp => qI cwM r.1 r.2)) (by decide +kernel) (fun g => ⟨rfl, Nat.le_of_ble_eq_true rfl⟩) e (fun x g hl C => ?_)
  unfold X8_judge
  refine j_iload_n C dX8_judge_0 rfl (n := 1) rfl ?_
  refine j_cz C (run_S C mi_X8_isSheet lm_X8_237 st_X8_isSheet ⟨Nat.le_of_ble_eq_true rfl, Nat.le_of_ble_eq_true rfl⟩ (m_X8_isSheet _ _ _) rfl rfl rfl (Nat.le_of_ble_eq_true rfl) dX8_judge_1) (n := 4) rfl (fun b1 => ?_)
  refine j_if_ne C dX8_judge_4 (tgt := 14) (n := 7) (by decide) rfl (fun q2 => ?_) (fun q2 => ?_)
  · refine j_aload_n C dX8_judge_14 rfl (n := 15) rfl ?_
    refine gf_X8_51 C 0 (cM_0 g _) rfl dX8_judge_15 (n := 18) rfl ?_
    refine j_iload_n C dX8_judge_18 rfl (n := 19) rfl ?_
    refine j_iald C 9 (cM_9 g _) dX8_judge_19 (n := 20) rfl ?_
    refine j_if_ne C dX8_judge_20 (tgt := 30) (n := 23) (by decide) rfl (fun q3 => ?_) (fun q3 => ?_)
    · refine j_iconst C dX8_judge_30 ic_0 (n := 31) rfl ?_
      refine j_istore_n C dX8_judge_31 (Nat.le_of_ble_eq_true rfl) (n := 32) rfl ?_
      exact j_to (j_X8_judge_32 C _ _ _ _ _) ⟨rfl, ⟨rfl, ⟨rfl, trivial⟩⟩⟩
    · refine j_aload_n C dX8_judge_23 rfl (n := 24) rfl ?_
      refine j_ldc C dX8_judge_24 kc_X8_240 (n := 26) rfl ?_
      refine j_bnd (fun r5 q4 => ?_)
      refine j_ci C (run_V C mi_X8_finding lm_X8_80 iv_X8_finding ⟨Nat.le_of_ble_eq_true rfl, Nat.le_of_ble_eq_true rfl⟩ (m_X8_finding _ _ _ q4) (cM_0 g _) rfl rfl rfl rfl (Nat.le_of_ble_eq_true rfl) dX8_judge_26) (n := 29) rfl ?_
      exact j_retP C dX8_judge_29
  · refine j_aload_n C dX8_judge_7 rfl (n := 8) rfl ?_
    refine j_ldc C dX8_judge_8 kc_X8_63 (n := 10) rfl ?_
    refine j_bnd (fun r8 q7 => ?_)
    refine j_ci C (run_V C mi_X8_finding lm_X8_80 iv_X8_finding ⟨Nat.le_of_ble_eq_true rfl, Nat.le_of_ble_eq_true rfl⟩ (m_X8_finding _ _ _ q7) (cM_0 g _) rfl rfl rfl rfl (Nat.le_of_ble_eq_true rfl) dX8_judge_10) (n := 13) rfl ?_
    exact j_retP C dX8_judge_13
-- X8_image
set_option maxRecDepth 20000 in
theorem m_X8_image (l : Launch) (fu : Nat) (h : Hp) {r : Int32 × Hp} (e : X8_image fu h = some r) : CT l yX8_image cX8_image 1 (some .int) 1 cwM (fun g => [rf g 0]) h (qI cwM r.1 r.2) := by
  refine ct_of (QR := (fun r : Int32 × Hp => qI cwM r.1 r.2)) (by decide +kernel) (fun g => ⟨rfl, Nat.le_of_ble_eq_true rfl⟩) e (fun x g hl C => ?_)
  unfold X8_image
  refine j_aload_n C dX8_image_0 rfl (n := 1) rfl ?_
  refine gf_X8_9 C 0 (cM_0 g _) rfl dX8_image_1 (n := 4) rfl ?_
  refine j_aload_n C dX8_image_4 rfl (n := 5) rfl ?_
  refine gf_X8_13 C 0 (cM_0 g _) rfl dX8_image_5 (n := 8) rfl ?_
  refine j_bnd (fun h2 q1 => ?_)
  refine j_cv C (run_S C mi_X8_copyRow lm_X8_64 st_X8_copyRow ⟨Nat.le_of_ble_eq_true rfl, Nat.le_of_ble_eq_true rfl⟩ (m_X8_copyRow_1_2 _ _ _ q1) rfl rfl rfl (Nat.le_of_ble_eq_true rfl) dX8_image_8) (n := 11) rfl ?_
  refine j_aload_n C dX8_image_11 rfl (n := 12) rfl ?_
  refine j_iconst C dX8_image_12 ic_1 (n := 13) rfl ?_
  refine pf_X8_337 C 0 (cM_0 g _) (Or.inr rfl) (sM_0_3 g _ _) rfl dX8_image_13 (n := 16) rfl ?_
  refine j_iconst C dX8_image_16 ic_1 (n := 17) rfl ?_
  exact j_retP C dX8_image_17
-- X8_undo
set_option maxRecDepth 20000 in
theorem m_X8_undo (l : Launch) (fu : Nat) (h : Hp) {r : Int32 × Hp} (e : X8_undo fu h = some r) : CT l yX8_undo cX8_undo 1 (some .int) 1 cwM (fun g => [rf g 0]) h (qI cwM r.1 r.2) := by
  refine ct_of (QR := (fun r : Int32 × Hp => qI cwM r.1 r.2)) (by decide +kernel) (fun g => ⟨rfl, Nat.le_of_ble_eq_true rfl⟩) e (fun x g hl C => ?_)
  unfold X8_undo
  refine j_aload_n C dX8_undo_0 rfl (n := 1) rfl ?_
  refine gf_X8_337 C 0 (cM_0 g _) rfl dX8_undo_1 (n := 4) rfl ?_
  refine j_if_ne C dX8_undo_4 (tgt := 14) (n := 7) (by decide) rfl (fun q1 => ?_) (fun q1 => ?_)
  · refine j_aload_n C dX8_undo_14 rfl (n := 15) rfl ?_
    refine gf_X8_13 C 0 (cM_0 g _) rfl dX8_undo_15 (n := 18) rfl ?_
    refine j_aload_n C dX8_undo_18 rfl (n := 19) rfl ?_
    refine gf_X8_9 C 0 (cM_0 g _) rfl dX8_undo_19 (n := 22) rfl ?_
    refine j_bnd (fun h3 q2 => ?_)
    refine j_cv C (run_S C mi_X8_copyRow lm_X8_64 st_X8_copyRow ⟨Nat.le_of_ble_eq_true rfl, Nat.le_of_ble_eq_true rfl⟩ (m_X8_copyRow_2_1 _ _ _ q2) rfl rfl rfl (Nat.le_of_ble_eq_true rfl) dX8_undo_22) (n := 25) rfl ?_
    refine j_aload_n C dX8_undo_25 rfl (n := 26) rfl ?_
    refine gf_X8_9 C 0 (cM_0 g _) rfl dX8_undo_26 (n := 29) rfl ?_
    refine j_iconst C dX8_undo_29 ic_0 (n := 30) rfl ?_
    refine j_ialdL C 1 (cM_1 g _) ir_0_117 dX8_undo_30 (n := 31) rfl ?_
    exact j_retP C dX8_undo_31
  · refine j_aload_n C dX8_undo_7 rfl (n := 8) rfl ?_
    refine j_ldc C dX8_undo_8 kc_X8_197 (n := 10) rfl ?_
    refine j_bnd (fun r5 q4 => ?_)
    refine j_ci C (run_V C mi_X8_finding lm_X8_80 iv_X8_finding ⟨Nat.le_of_ble_eq_true rfl, Nat.le_of_ble_eq_true rfl⟩ (m_X8_finding _ _ _ q4) (cM_0 g _) rfl rfl rfl rfl (Nat.le_of_ble_eq_true rfl) dX8_undo_10) (n := 13) rfl ?_
    exact j_retP C dX8_undo_13
-- X8_tear
set_option maxRecDepth 20000 in
theorem m_X8_tear (l : Launch) (h : Hp) {r : Int32 × Hp} (e : X8_tear h = some r) : CT l yX8_tear cX8_tear 2 (some .int) 0 cwM (fun g => [rf g 0]) h (qI cwM r.1 r.2) := by
  refine ct_of (QR := (fun r : Int32 × Hp => qI cwM r.1 r.2)) (by decide +kernel) (fun g => ⟨rfl, Nat.le_of_ble_eq_true rfl⟩) e (fun x g hl C => ?_)
  unfold X8_tear
  refine j_aload_n C dX8_tear_0 rfl (n := 1) rfl ?_
  refine gf_X8_337 C 0 (cM_0 g _) rfl dX8_tear_1 (n := 4) rfl ?_
  refine j_if_eq C dX8_tear_4 (tgt := 11) (n := 7) (by decide) rfl (fun q1 => ?_) (fun q1 => ?_)
  · refine j_iconst C dX8_tear_11 ic_0 (n := 12) rfl ?_
    refine j_istore_n C dX8_tear_12 (Nat.le_of_ble_eq_true rfl) (n := 13) rfl ?_
    refine j_aload_n C dX8_tear_13 rfl (n := 14) rfl ?_
    refine j_iconst C dX8_tear_14 ic_0 (n := 15) rfl ?_
    refine pf_X8_337 C 0 (cM_0 g _) (Or.inl rfl) (sM_0_3 g _ _) rfl dX8_tear_15 (n := 18) rfl ?_
    refine j_iload_n C dX8_tear_18 rfl (n := 19) rfl ?_
    exact j_retP C dX8_tear_19
  · refine j_iconst C dX8_tear_7 ic_1 (n := 8) rfl ?_
    refine j_goto C dX8_tear_8 (n := 12) (by decide) ?_
    refine j_istore_n C dX8_tear_12 (Nat.le_of_ble_eq_true rfl) (n := 13) rfl ?_
    refine j_aload_n C dX8_tear_13 rfl (n := 14) rfl ?_
    refine j_iconst C dX8_tear_14 ic_0 (n := 15) rfl ?_
    refine pf_X8_337 C 0 (cM_0 g _) (Or.inl rfl) (sM_0_3 g _ _) rfl dX8_tear_15 (n := 18) rfl ?_
    refine j_iload_n C dX8_tear_18 rfl (n := 19) rfl ?_
    exact j_retP C dX8_tear_19
-- X8_count
set_option maxRecDepth 20000 in
theorem j_X8_count_71 {x : Fx} {g : Gl} (C : Ok x g RX8 cX8_count 4 (some .int)) (fu : Nat) : ∀ (n : Nat) (x2 : Int32) (x3 : Int32) (h : Hp), J x g cwM 4 2 (fun r : Int32 × Hp => qI cwM r.1 r.2) 71 [some (rf g 0), none, some (.int x2), some (.int x3)] [] h (X8_count_71 fu n x2 x3 h) := by
  intro n
  induction n with
  | zero =>
    intro x2 x3 h
    rw [X8_count_71]
    exact j_none
  | succ n ih =>
    intro x2 x3 h
    rw [X8_count_71]
    refine j_iload_n C dX8_count_71 rfl (n := 72) rfl ?_
    refine j_bipush C dX8_count_72 bp_6 (n := 74) rfl ?_
    refine j_icmp_ge C dX8_count_74 (tgt := 103) (n := 77) (by decide) rfl (fun q1 => ?_) (fun q1 => ?_)
    · refine j_iload_n C dX8_count_103 rfl (n := 104) rfl ?_
      exact j_retP C dX8_count_104
    · refine j_iload_n C dX8_count_77 rfl (n := 78) rfl ?_
      refine j_aload_n C dX8_count_78 rfl (n := 79) rfl ?_
      refine gf_X8_9 C 0 (cM_0 g _) rfl dX8_count_79 (n := 82) rfl ?_
      refine j_bipush C dX8_count_82 bp_27 (n := 84) rfl ?_
      refine j_iload_n C dX8_count_84 rfl (n := 85) rfl ?_
      refine j_iadd C dX8_count_85 (n := 86) rfl ?_
      refine j_iald C 1 (cM_1 g _) dX8_count_86 (n := 87) rfl ?_
      refine j_if_ge C dX8_count_87 (tgt := 94) (n := 90) (by decide) rfl (fun q2 => ?_) (fun q2 => ?_)
      · refine j_iconst C dX8_count_94 ic_1 (n := 95) rfl ?_
        refine j_iadd C dX8_count_95 (n := 96) rfl ?_
        refine j_istore_n C dX8_count_96 (Nat.le_of_ble_eq_true rfl) (n := 97) rfl ?_
        refine j_iinc C dX8_count_97 rfl ic_1 (Nat.le_of_ble_eq_true rfl) (n := 100) rfl ?_
        refine j_goto C dX8_count_100 (n := 71) (by decide) ?_
        exact j_to (ih _ _ _) ⟨rfl, ⟨rfl, ⟨rfl, trivial⟩⟩⟩
      · refine j_iconst C dX8_count_90 ic_0 (n := 91) rfl ?_
        refine j_goto C dX8_count_91 (n := 95) (by decide) ?_
        refine j_iadd C dX8_count_95 (n := 96) rfl ?_
        refine j_istore_n C dX8_count_96 (Nat.le_of_ble_eq_true rfl) (n := 97) rfl ?_
        refine j_iinc C dX8_count_97 rfl ic_1 (Nat.le_of_ble_eq_true rfl) (n := 100) rfl ?_
        refine j_goto C dX8_count_100 (n := 71) (by decide) ?_
        exact j_to (ih _ _ _) ⟨rfl, ⟨rfl, ⟨rfl, trivial⟩⟩⟩
set_option maxRecDepth 20000 in
theorem j_X8_count_107 {x : Fx} {g : Gl} (C : Ok x g RX8 cX8_count 4 (some .int)) (fu : Nat) : ∀ (n : Nat) (x2 : Int32) (x3 : Int32) (h : Hp), J x g cwM 4 2 (fun r : Int32 × Hp => qI cwM r.1 r.2) 107 [some (rf g 0), none, some (.int x2), some (.int x3)] [] h (X8_count_107 fu n x2 x3 h) := by
  intro n
  induction n with
  | zero =>
    intro x2 x3 h
    rw [X8_count_107]
    exact j_none
  | succ n ih =>
    intro x2 x3 h
    rw [X8_count_107]
    refine j_iload_n C dX8_count_107 rfl (n := 108) rfl ?_
    refine j_aload_n C dX8_count_108 rfl (n := 109) rfl ?_
    refine gf_X8_9 C 0 (cM_0 g _) rfl dX8_count_109 (n := 112) rfl ?_
    refine j_iconst C dX8_count_112 ic_2 (n := 113) rfl ?_
    refine j_ialdL C 1 (cM_1 g _) ir_2_117 dX8_count_113 (n := 114) rfl ?_
    refine j_icmp_ge C dX8_count_114 (tgt := 132) (n := 117) (by decide) rfl (fun q1 => ?_) (fun q1 => ?_)
    · refine j_iload_n C dX8_count_132 rfl (n := 133) rfl ?_
      exact j_retP C dX8_count_133
    · refine j_iload_n C dX8_count_117 rfl (n := 118) rfl ?_
      refine j_aload_n C dX8_count_118 rfl (n := 119) rfl ?_
      refine j_iload_n C dX8_count_119 rfl (n := 120) rfl ?_
      refine j_iconst C dX8_count_120 ic_2 (n := 121) rfl ?_
      refine j_bnd (fun r3 q2 => ?_)
      refine j_ci C (run_V C mi_X8_partIs lm_X8_92 iv_X8_partIs ⟨Nat.le_of_ble_eq_true rfl, Nat.le_of_ble_eq_true rfl⟩ (m_X8_partIs _ _ _ _ q2) (cM_0 g _) rfl rfl rfl rfl (Nat.le_of_ble_eq_true rfl) dX8_count_121) (n := 124) rfl ?_
      refine j_iadd C dX8_count_124 (n := 125) rfl ?_
      refine j_istore_n C dX8_count_125 (Nat.le_of_ble_eq_true rfl) (n := 126) rfl ?_
      refine j_iinc C dX8_count_126 rfl ic_1 (Nat.le_of_ble_eq_true rfl) (n := 129) rfl ?_
      refine j_goto C dX8_count_129 (n := 107) (by decide) ?_
      exact j_to (ih _ _ _) ⟨rfl, ⟨rfl, ⟨rfl, trivial⟩⟩⟩
set_option maxRecDepth 20000 in
theorem j_X8_count_148 {x : Fx} {g : Gl} (C : Ok x g RX8 cX8_count 4 (some .int)) (fu : Nat) : ∀ (n : Nat) (x2 : Int32) (x3 : Int32) (h : Hp), J x g cwM 4 2 (fun r : Int32 × Hp => qI cwM r.1 r.2) 148 [some (rf g 0), none, some (.int x2), some (.int x3)] [] h (X8_count_148 fu n x2 x3 h) := by
  intro n
  induction n with
  | zero =>
    intro x2 x3 h
    rw [X8_count_148]
    exact j_none
  | succ n ih =>
    intro x2 x3 h
    rw [X8_count_148]
    refine j_iload_n C dX8_count_148 rfl (n := 149) rfl ?_
    refine j_bipush C dX8_count_149 bp_10 (n := 151) rfl ?_
    refine j_icmp_ge C dX8_count_151 (tgt := 179) (n := 154) (by decide) rfl (fun q1 => ?_) (fun q1 => ?_)
    · refine j_iload_n C dX8_count_179 rfl (n := 180) rfl ?_
      exact j_retP C dX8_count_180
    · refine j_iload_n C dX8_count_154 rfl (n := 155) rfl ?_
      refine j_aload_n C dX8_count_155 rfl (n := 156) rfl ?_
      refine gf_X8_9 C 0 (cM_0 g _) rfl dX8_count_156 (n := 159) rfl ?_
      refine j_iconst C dX8_count_159 ic_5 (n := 160) rfl ?_
      refine j_iload_n C dX8_count_160 rfl (n := 161) rfl ?_
      refine j_iadd C dX8_count_161 (n := 162) rfl ?_
      refine j_iald C 1 (cM_1 g _) dX8_count_162 (n := 163) rfl ?_
      refine j_if_ge C dX8_count_163 (tgt := 170) (n := 166) (by decide) rfl (fun q2 => ?_) (fun q2 => ?_)
      · refine j_iconst C dX8_count_170 ic_1 (n := 171) rfl ?_
        refine j_iadd C dX8_count_171 (n := 172) rfl ?_
        refine j_istore_n C dX8_count_172 (Nat.le_of_ble_eq_true rfl) (n := 173) rfl ?_
        refine j_iinc C dX8_count_173 rfl ic_1 (Nat.le_of_ble_eq_true rfl) (n := 176) rfl ?_
        refine j_goto C dX8_count_176 (n := 148) (by decide) ?_
        exact j_to (ih _ _ _) ⟨rfl, ⟨rfl, ⟨rfl, trivial⟩⟩⟩
      · refine j_iconst C dX8_count_166 ic_0 (n := 167) rfl ?_
        refine j_goto C dX8_count_167 (n := 171) (by decide) ?_
        refine j_iadd C dX8_count_171 (n := 172) rfl ?_
        refine j_istore_n C dX8_count_172 (Nat.le_of_ble_eq_true rfl) (n := 173) rfl ?_
        refine j_iinc C dX8_count_173 rfl ic_1 (Nat.le_of_ble_eq_true rfl) (n := 176) rfl ?_
        refine j_goto C dX8_count_176 (n := 148) (by decide) ?_
        exact j_to (ih _ _ _) ⟨rfl, ⟨rfl, ⟨rfl, trivial⟩⟩⟩
set_option maxRecDepth 20000 in
theorem m_X8_count (l : Launch) (fu : Nat) (x1 : Int32) (h : Hp) {r : Int32 × Hp} (e : X8_count fu x1 h = some r) : CT l yX8_count cX8_count 4 (some .int) 2 cwM (fun g => [rf g 0, .int x1]) h (qI cwM r.1 r.2) := by
  refine ct_of (QR := (fun r : Int32 × Hp => qI cwM r.1 r.2)) (by decide +kernel) (fun g => ⟨rfl, Nat.le_of_ble_eq_true rfl⟩) e (fun x g hl C => ?_)
  unfold X8_count
  refine j_iconst C dX8_count_0 ic_0 (n := 1) rfl ?_
  refine j_istore_n C dX8_count_1 (Nat.le_of_ble_eq_true rfl) (n := 2) rfl ?_
  refine j_iload_n C dX8_count_2 rfl (n := 3) rfl ?_
  refine j_split (fun q1 => ?_) (fun q1 => ?_)
  · refine j_tabIn C dX8_count_3 q1 (off := 45) (by decide) (n := 48) (by decide) ?_
    refine j_aload_n C dX8_count_48 rfl (n := 49) rfl ?_
    refine gf_X8_9 C 0 (cM_0 g _) rfl dX8_count_49 (n := 52) rfl ?_
    refine j_iconst C dX8_count_52 ic_0 (n := 53) rfl ?_
    refine j_ialdL C 1 (cM_1 g _) ir_0_117 dX8_count_53 (n := 54) rfl ?_
    exact j_retP C dX8_count_54
  · refine j_split (fun q2 => ?_) (fun q2 => ?_)
    · refine j_tabIn C dX8_count_3 q2 (off := 52) (by decide) (n := 55) (by decide) ?_
      refine j_aload_n C dX8_count_55 rfl (n := 56) rfl ?_
      refine gf_X8_9 C 0 (cM_0 g _) rfl dX8_count_56 (n := 59) rfl ?_
      refine j_iconst C dX8_count_59 ic_2 (n := 60) rfl ?_
      refine j_ialdL C 1 (cM_1 g _) ir_2_117 dX8_count_60 (n := 61) rfl ?_
      exact j_retP C dX8_count_61
    · refine j_split (fun q3 => ?_) (fun q3 => ?_)
      · refine j_tabIn C dX8_count_3 q3 (off := 59) (by decide) (n := 62) (by decide) ?_
        refine j_aload_n C dX8_count_62 rfl (n := 63) rfl ?_
        refine gf_X8_9 C 0 (cM_0 g _) rfl dX8_count_63 (n := 66) rfl ?_
        refine j_iconst C dX8_count_66 ic_3 (n := 67) rfl ?_
        refine j_ialdL C 1 (cM_1 g _) ir_3_117 dX8_count_67 (n := 68) rfl ?_
        exact j_retP C dX8_count_68
      · refine j_split (fun q4 => ?_) (fun q4 => ?_)
        · refine j_tabIn C dX8_count_3 q4 (off := 66) (by decide) (n := 69) (by decide) ?_
          refine j_iconst C dX8_count_69 ic_0 (n := 70) rfl ?_
          refine j_istore_n C dX8_count_70 (Nat.le_of_ble_eq_true rfl) (n := 71) rfl ?_
          exact j_to (j_X8_count_71 C _ _ _ _ _) ⟨rfl, ⟨rfl, ⟨rfl, trivial⟩⟩⟩
        · refine j_split (fun q5 => ?_) (fun q5 => ?_)
          · refine j_tabIn C dX8_count_3 q5 (off := 102) (by decide) (n := 105) (by decide) ?_
            refine j_iconst C dX8_count_105 ic_0 (n := 106) rfl ?_
            refine j_istore_n C dX8_count_106 (Nat.le_of_ble_eq_true rfl) (n := 107) rfl ?_
            exact j_to (j_X8_count_107 C _ _ _ _ _) ⟨rfl, ⟨rfl, ⟨rfl, trivial⟩⟩⟩
          · refine j_split (fun q6 => ?_) (fun q6 => ?_)
            · refine j_tabIn C dX8_count_3 q6 (off := 131) (by decide) (n := 134) (by decide) ?_
              refine j_aload_n C dX8_count_134 rfl (n := 135) rfl ?_
              refine gf_X8_251 C 0 (cM_0 g _) rfl dX8_count_135 (n := 138) rfl ?_
              exact j_retP C dX8_count_138
            · refine j_split (fun q7 => ?_) (fun q7 => ?_)
              · refine j_tabIn C dX8_count_3 q7 (off := 136) (by decide) (n := 139) (by decide) ?_
                refine j_aload_n C dX8_count_139 rfl (n := 140) rfl ?_
                refine gf_X8_9 C 0 (cM_0 g _) rfl dX8_count_140 (n := 143) rfl ?_
                refine j_iconst C dX8_count_143 ic_4 (n := 144) rfl ?_
                refine j_ialdL C 1 (cM_1 g _) ir_4_117 dX8_count_144 (n := 145) rfl ?_
                exact j_retP C dX8_count_145
              · refine j_split (fun q8 => ?_) (fun q8 => ?_)
                · refine j_tabIn C dX8_count_3 q8 (off := 143) (by decide) (n := 146) (by decide) ?_
                  refine j_iconst C dX8_count_146 ic_0 (n := 147) rfl ?_
                  refine j_istore_n C dX8_count_147 (Nat.le_of_ble_eq_true rfl) (n := 148) rfl ?_
                  exact j_to (j_X8_count_148 C _ _ _ _ _) ⟨rfl, ⟨rfl, ⟨rfl, trivial⟩⟩⟩
                · refine j_tabOut C dX8_count_3 (tabout_0_7 q1 q2 q3 q4 q5 q6 q7 q8) (n := 181) (by decide) ?_
                  refine j_aload_n C dX8_count_181 rfl (n := 182) rfl ?_
                  refine j_ldc C dX8_count_182 kc_X8_63 (n := 184) rfl ?_
                  refine j_bnd (fun r10 q9 => ?_)
                  refine j_ci C (run_V C mi_X8_finding lm_X8_80 iv_X8_finding ⟨Nat.le_of_ble_eq_true rfl, Nat.le_of_ble_eq_true rfl⟩ (m_X8_finding _ _ _ q9) (cM_0 g _) rfl rfl rfl rfl (Nat.le_of_ble_eq_true rfl) dX8_count_184) (n := 187) rfl ?_
                  exact j_retP C dX8_count_187
-- X8_status
set_option maxRecDepth 20000 in
theorem m_X8_status (l : Launch) (x1 : Int32) (h : Hp) {r : Int32 × Hp} (e : X8_status x1 h = some r) : CT l yX8_status cX8_status 2 (some .int) 1 cwM (fun g => [rf g 0, .int x1]) h (qI cwM r.1 r.2) := by
  refine ct_of (QR := (fun r : Int32 × Hp => qI cwM r.1 r.2)) (by decide +kernel) (fun g => ⟨rfl, Nat.le_of_ble_eq_true rfl⟩) e (fun x g hl C => ?_)
  unfold X8_status
  refine j_iload_n C dX8_status_0 rfl (n := 1) rfl ?_
  refine j_iconst C dX8_status_1 ic_m1 (n := 2) rfl ?_
  refine j_bipush C dX8_status_2 bp_6 (n := 4) rfl ?_
  refine j_cz C (run_S C mi_X8_within lm_X8_68 st_X8_within ⟨Nat.le_of_ble_eq_true rfl, Nat.le_of_ble_eq_true rfl⟩ (m_X8_within _ _ _ _ _) rfl rfl rfl (Nat.le_of_ble_eq_true rfl) dX8_status_4) (n := 7) rfl (fun b1 => ?_)
  refine j_if_eq C dX8_status_7 (tgt := 21) (n := 10) (by decide) rfl (fun q2 => ?_) (fun q2 => ?_)
  · refine j_aload_n C dX8_status_21 rfl (n := 22) rfl ?_
    refine j_ldc C dX8_status_22 kc_X8_63 (n := 24) rfl ?_
    refine j_bnd (fun r4 q3 => ?_)
    refine j_ci C (run_V C mi_X8_finding lm_X8_80 iv_X8_finding ⟨Nat.le_of_ble_eq_true rfl, Nat.le_of_ble_eq_true rfl⟩ (m_X8_finding _ _ _ q3) (cM_0 g _) rfl rfl rfl rfl (Nat.le_of_ble_eq_true rfl) dX8_status_24) (n := 27) rfl ?_
    exact j_retP C dX8_status_27
  · refine j_aload_n C dX8_status_10 rfl (n := 11) rfl ?_
    refine gf_X8_19 C 0 (cM_0 g _) rfl dX8_status_11 (n := 14) rfl ?_
    refine j_iload_n C dX8_status_14 rfl (n := 15) rfl ?_
    refine j_iconst C dX8_status_15 ic_1 (n := 16) rfl ?_
    refine j_iadd C dX8_status_16 (n := 17) rfl ?_
    refine j_iald C 4 (cM_4 g _) dX8_status_17 (n := 18) rfl ?_
    refine j_goto C dX8_status_18 (n := 27) (by decide) ?_
    exact j_retP C dX8_status_27
