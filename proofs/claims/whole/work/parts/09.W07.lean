-- X8_findMost
set_option maxRecDepth 20000 in
theorem j_X8_findMost_69 {x : Fx} {g : Gl} (C : Ok x g RX8 cX8_findMost 7 (some .int)) (fu : Nat) (k47 : Int32 → Int32 → Int32 → Hp → Option (Int32 × Hp)) (hk47 : ∀ (x2 : Int32) (x3 : Int32) (x4 : Int32) (h : Hp), J x g cwM 7 4 (fun r : Int32 × Hp => qI cwM r.1 r.2) 47 [some (rf g 0), none, some (.int x2), some (.int x3), some (.int x4)] [] h (k47 x2 x3 x4 h)) : ∀ (n : Nat) (x2 : Int32) (x3 : Int32) (x4 : Int32) (x5 : Int32) (x6 : Int32) (h : Hp), J x g cwM 7 4 (fun r : Int32 × Hp => qI cwM r.1 r.2) 69 [some (rf g 0), none, some (.int x2), some (.int x3), some (.int x4), some (.int x5), some (.int x6)] [] h (X8_findMost_69 fu k47 n x2 x3 x4 x5 x6 h) := by
  intro n
  induction n with
  | zero =>
    intro x2 x3 x4 x5 x6 h
    rw [X8_findMost_69]
    exact j_none
  | succ n ih =>
    intro x2 x3 x4 x5 x6 h
    rw [X8_findMost_69]
    refine j_iload C dX8_findMost_69 rfl (n := 71) rfl ?_
    refine j_aload_n C dX8_findMost_71 rfl (n := 72) rfl ?_
    refine gf_X8_9 C 0 (cM_0 g _) rfl dX8_findMost_72 (n := 75) rfl ?_
    refine j_iconst C dX8_findMost_75 ic_2 (n := 76) rfl ?_
    refine j_ialdL C 1 (cM_1 g _) ir_2_117 dX8_findMost_76 (n := 77) rfl ?_
    refine j_icmp_ge C dX8_findMost_77 (tgt := 159) (n := 80) (by decide) rfl (fun q1 => ?_) (fun q1 => ?_)
    · refine j_aload_n C dX8_findMost_159 rfl (n := 160) rfl ?_
      refine gf_X8_22 C 0 (cM_0 g _) rfl dX8_findMost_160 (n := 163) rfl ?_
      refine j_iload_n C dX8_findMost_163 rfl (n := 164) rfl ?_
      refine j_bipush C dX8_findMost_164 bp_10 (n := 166) rfl ?_
      refine j_ishl C dX8_findMost_166 (n := 167) rfl ?_
      refine j_iload C dX8_findMost_167 rfl (n := 169) rfl ?_
      refine j_iadd C dX8_findMost_169 (n := 170) rfl ?_
      refine j_iload C dX8_findMost_170 rfl (n := 172) rfl ?_
      refine j_iast C 5 (cM_5 g _) (aM_5 g _ _ _) dX8_findMost_172 (n := 173) rfl ?_
      refine j_iinc C dX8_findMost_173 rfl ic_1 (Nat.le_of_ble_eq_true rfl) (n := 176) rfl ?_
      refine j_goto C dX8_findMost_176 (n := 47) (by decide) ?_
      exact j_to (hk47 _ _ _ _) ⟨rfl, ⟨rfl, ⟨rfl, ⟨rfl, trivial⟩⟩⟩⟩
    · refine j_aload_n C dX8_findMost_80 rfl (n := 81) rfl ?_
      refine gf_X8_9 C 0 (cM_0 g _) rfl dX8_findMost_81 (n := 84) rfl ?_
      refine j_bipush C dX8_findMost_84 bp_27 (n := 86) rfl ?_
      refine j_iload_n C dX8_findMost_86 rfl (n := 87) rfl ?_
      refine j_iadd C dX8_findMost_87 (n := 88) rfl ?_
      refine j_iald C 1 (cM_1 g _) dX8_findMost_88 (n := 89) rfl ?_
      refine j_if_lt C dX8_findMost_89 (tgt := 159) (n := 92) (by decide) rfl (fun q2 => ?_) (fun q2 => ?_)
      · refine j_aload_n C dX8_findMost_159 rfl (n := 160) rfl ?_
        refine gf_X8_22 C 0 (cM_0 g _) rfl dX8_findMost_160 (n := 163) rfl ?_
        refine j_iload_n C dX8_findMost_163 rfl (n := 164) rfl ?_
        refine j_bipush C dX8_findMost_164 bp_10 (n := 166) rfl ?_
        refine j_ishl C dX8_findMost_166 (n := 167) rfl ?_
        refine j_iload C dX8_findMost_167 rfl (n := 169) rfl ?_
        refine j_iadd C dX8_findMost_169 (n := 170) rfl ?_
        refine j_iload C dX8_findMost_170 rfl (n := 172) rfl ?_
        refine j_iast C 5 (cM_5 g _) (aM_5 g _ _ _) dX8_findMost_172 (n := 173) rfl ?_
        refine j_iinc C dX8_findMost_173 rfl ic_1 (Nat.le_of_ble_eq_true rfl) (n := 176) rfl ?_
        refine j_goto C dX8_findMost_176 (n := 47) (by decide) ?_
        exact j_to (hk47 _ _ _ _) ⟨rfl, ⟨rfl, ⟨rfl, ⟨rfl, trivial⟩⟩⟩⟩
      · refine j_iload C dX8_findMost_92 rfl (n := 94) rfl ?_
        refine j_iload_n C dX8_findMost_94 rfl (n := 95) rfl ?_
        refine j_iand C dX8_findMost_95 (n := 96) rfl ?_
        refine j_if_ne C dX8_findMost_96 (tgt := 159) (n := 99) (by decide) rfl (fun q3 => ?_) (fun q3 => ?_)
        · refine j_aload_n C dX8_findMost_159 rfl (n := 160) rfl ?_
          refine gf_X8_22 C 0 (cM_0 g _) rfl dX8_findMost_160 (n := 163) rfl ?_
          refine j_iload_n C dX8_findMost_163 rfl (n := 164) rfl ?_
          refine j_bipush C dX8_findMost_164 bp_10 (n := 166) rfl ?_
          refine j_ishl C dX8_findMost_166 (n := 167) rfl ?_
          refine j_iload C dX8_findMost_167 rfl (n := 169) rfl ?_
          refine j_iadd C dX8_findMost_169 (n := 170) rfl ?_
          refine j_iload C dX8_findMost_170 rfl (n := 172) rfl ?_
          refine j_iast C 5 (cM_5 g _) (aM_5 g _ _ _) dX8_findMost_172 (n := 173) rfl ?_
          refine j_iinc C dX8_findMost_173 rfl ic_1 (Nat.le_of_ble_eq_true rfl) (n := 176) rfl ?_
          refine j_goto C dX8_findMost_176 (n := 47) (by decide) ?_
          exact j_to (hk47 _ _ _ _) ⟨rfl, ⟨rfl, ⟨rfl, ⟨rfl, trivial⟩⟩⟩⟩
        · refine j_iload C dX8_findMost_99 rfl (n := 101) rfl ?_
          refine j_iload_n C dX8_findMost_101 rfl (n := 102) rfl ?_
          refine j_ior C dX8_findMost_102 (n := 103) rfl ?_
          refine j_iload C dX8_findMost_103 rfl (n := 105) rfl ?_
          refine j_cz C (run_S C mi_X8_has lm_X8_120 st_X8_has ⟨Nat.le_of_ble_eq_true rfl, Nat.le_of_ble_eq_true rfl⟩ (m_X8_has _ _ _ _) rfl rfl rfl (Nat.le_of_ble_eq_true rfl) dX8_findMost_105) (n := 108) rfl (fun b4 => ?_)
          refine j_if_eq C dX8_findMost_108 (tgt := 116) (n := 111) (by decide) rfl (fun q5 => ?_) (fun q5 => ?_)
          · refine j_iload C dX8_findMost_116 rfl (n := 118) rfl ?_
            refine j_aload_n C dX8_findMost_118 rfl (n := 119) rfl ?_
            refine j_iload C dX8_findMost_119 rfl (n := 121) rfl ?_
            refine j_aload_n C dX8_findMost_121 rfl (n := 122) rfl ?_
            refine gf_X8_9 C 0 (cM_0 g _) rfl dX8_findMost_122 (n := 125) rfl ?_
            refine j_bipush C dX8_findMost_125 bp_27 (n := 127) rfl ?_
            refine j_iload_n C dX8_findMost_127 rfl (n := 128) rfl ?_
            refine j_iadd C dX8_findMost_128 (n := 129) rfl ?_
            refine j_iald C 1 (cM_1 g _) dX8_findMost_129 (n := 130) rfl ?_
            refine j_bnd (fun r7 q6 => ?_)
            refine j_ci C (run_V C mi_X8_likeTo lm_X8_132 iv_X8_likeTo ⟨Nat.le_of_ble_eq_true rfl, Nat.le_of_ble_eq_true rfl⟩ (m_X8_likeTo _ _ _ _ _ q6) (cM_0 g _) rfl rfl rfl rfl (Nat.le_of_ble_eq_true rfl) dX8_findMost_130) (n := 133) rfl ?_
            refine j_aload_n C dX8_findMost_133 rfl (n := 134) rfl ?_
            refine j_iload_n C dX8_findMost_134 rfl (n := 135) rfl ?_
            refine j_iconst C dX8_findMost_135 ic_1 (n := 136) rfl ?_
            refine j_iadd C dX8_findMost_136 (n := 137) rfl ?_
            refine j_iload C dX8_findMost_137 rfl (n := 139) rfl ?_
            refine j_iconst C dX8_findMost_139 ic_1 (n := 140) rfl ?_
            refine j_iload C dX8_findMost_140 rfl (n := 142) rfl ?_
            refine j_ishl C dX8_findMost_142 (n := 143) rfl ?_
            refine j_ior C dX8_findMost_143 (n := 144) rfl ?_
            refine j_bnd (fun r10 q9 => ?_)
            refine j_ci C (run_V C mi_X8_worthAt lm_X8_188 iv_X8_worthAt ⟨Nat.le_of_ble_eq_true rfl, Nat.le_of_ble_eq_true rfl⟩ (m_X8_worthAt _ _ _ _ q9) (cM_0 g _) rfl rfl rfl rfl (Nat.le_of_ble_eq_true rfl) dX8_findMost_144) (n := 147) rfl ?_
            refine j_iadd C dX8_findMost_147 (n := 148) rfl ?_
            refine j_mmax C lm_X8_123 (Nat.le_of_ble_eq_true rfl) (Nat.le_of_ble_eq_true rfl) dX8_findMost_148 (n := 151) rfl ?_
            refine j_istore C dX8_findMost_151 (Nat.le_of_ble_eq_true rfl) (n := 153) rfl ?_
            refine j_iinc C dX8_findMost_153 rfl ic_1 (Nat.le_of_ble_eq_true rfl) (n := 156) rfl ?_
            refine j_goto C dX8_findMost_156 (n := 69) (by decide) ?_
            exact j_to (ih _ _ _ _ _ _) ⟨rfl, ⟨rfl, ⟨rfl, ⟨rfl, ⟨rfl, ⟨rfl, trivial⟩⟩⟩⟩⟩⟩
          · refine j_iload C dX8_findMost_111 rfl (n := 113) rfl ?_
            refine j_goto C dX8_findMost_113 (n := 151) (by decide) ?_
            refine j_istore C dX8_findMost_151 (Nat.le_of_ble_eq_true rfl) (n := 153) rfl ?_
            refine j_iinc C dX8_findMost_153 rfl ic_1 (Nat.le_of_ble_eq_true rfl) (n := 156) rfl ?_
            refine j_goto C dX8_findMost_156 (n := 69) (by decide) ?_
            exact j_to (ih _ _ _ _ _ _) ⟨rfl, ⟨rfl, ⟨rfl, ⟨rfl, ⟨rfl, ⟨rfl, trivial⟩⟩⟩⟩⟩⟩
set_option maxRecDepth 20000 in
theorem j_X8_findMost_47 {x : Fx} {g : Gl} (C : Ok x g RX8 cX8_findMost 7 (some .int)) (fu : Nat) (k40 : Int32 → Int32 → Hp → Option (Int32 × Hp)) (hk40 : ∀ (x2 : Int32) (x3 : Int32) (h : Hp), J x g cwM 7 4 (fun r : Int32 × Hp => qI cwM r.1 r.2) 40 [some (rf g 0), none, some (.int x2), some (.int x3)] [] h (k40 x2 x3 h)) : ∀ (n : Nat) (x2 : Int32) (x3 : Int32) (x4 : Int32) (h : Hp), J x g cwM 7 4 (fun r : Int32 × Hp => qI cwM r.1 r.2) 47 [some (rf g 0), none, some (.int x2), some (.int x3), some (.int x4)] [] h (X8_findMost_47 fu k40 n x2 x3 x4 h) := by
  intro n
  induction n with
  | zero =>
    intro x2 x3 x4 h
    rw [X8_findMost_47]
    exact j_none
  | succ n ih =>
    intro x2 x3 x4 h
    rw [X8_findMost_47]
    refine j_iload C dX8_findMost_47 rfl (n := 49) rfl ?_
    refine j_sipush C dX8_findMost_49 sp_1024 (n := 52) rfl ?_
    refine j_icmp_ge C dX8_findMost_52 (tgt := 179) (n := 55) (by decide) rfl (fun q1 => ?_) (fun q1 => ?_)
    · refine j_iinc C dX8_findMost_179 rfl ic_m1 (Nat.le_of_ble_eq_true rfl) (n := 182) rfl ?_
      refine j_goto C dX8_findMost_182 (n := 40) (by decide) ?_
      exact j_to (hk40 _ _ _) ⟨rfl, ⟨rfl, ⟨rfl, trivial⟩⟩⟩
    · refine j_aload_n C dX8_findMost_55 rfl (n := 56) rfl ?_
      refine j_iload_n C dX8_findMost_56 rfl (n := 57) rfl ?_
      refine j_iconst C dX8_findMost_57 ic_1 (n := 58) rfl ?_
      refine j_iadd C dX8_findMost_58 (n := 59) rfl ?_
      refine j_iload C dX8_findMost_59 rfl (n := 61) rfl ?_
      refine j_bnd (fun r3 q2 => ?_)
      refine j_ci C (run_V C mi_X8_worthAt lm_X8_188 iv_X8_worthAt ⟨Nat.le_of_ble_eq_true rfl, Nat.le_of_ble_eq_true rfl⟩ (m_X8_worthAt _ _ _ _ q2) (cM_0 g _) rfl rfl rfl rfl (Nat.le_of_ble_eq_true rfl) dX8_findMost_61) (n := 64) rfl ?_
      refine j_istore C dX8_findMost_64 (Nat.le_of_ble_eq_true rfl) (n := 66) rfl ?_
      refine j_iconst C dX8_findMost_66 ic_0 (n := 67) rfl ?_
      refine j_istore C dX8_findMost_67 (Nat.le_of_ble_eq_true rfl) (n := 69) rfl ?_
      exact j_to (j_X8_findMost_69 C _ _ ih _ _ _ _ _ _ _) ⟨rfl, ⟨rfl, ⟨rfl, ⟨rfl, ⟨rfl, ⟨rfl, trivial⟩⟩⟩⟩⟩⟩
set_option maxRecDepth 20000 in
theorem j_X8_findMost_40 {x : Fx} {g : Gl} (C : Ok x g RX8 cX8_findMost 7 (some .int)) (fu : Nat) : ∀ (n : Nat) (x2 : Int32) (x3 : Int32) (h : Hp), J x g cwM 7 4 (fun r : Int32 × Hp => qI cwM r.1 r.2) 40 [some (rf g 0), none, some (.int x2), some (.int x3)] [] h (X8_findMost_40 fu n x2 x3 h) := by
  intro n
  induction n with
  | zero =>
    intro x2 x3 h
    rw [X8_findMost_40]
    exact j_none
  | succ n ih =>
    intro x2 x3 h
    rw [X8_findMost_40]
    refine j_iload_n C dX8_findMost_40 rfl (n := 41) rfl ?_
    refine j_if_lt C dX8_findMost_41 (tgt := 185) (n := 44) (by decide) rfl (fun q1 => ?_) (fun q1 => ?_)
    · refine j_aload_n C dX8_findMost_185 rfl (n := 186) rfl ?_
      refine j_iconst C dX8_findMost_186 ic_0 (n := 187) rfl ?_
      refine j_iconst C dX8_findMost_187 ic_0 (n := 188) rfl ?_
      refine j_bnd (fun r3 q2 => ?_)
      refine j_ci C (run_V C mi_X8_worthAt lm_X8_188 iv_X8_worthAt ⟨Nat.le_of_ble_eq_true rfl, Nat.le_of_ble_eq_true rfl⟩ (m_X8_worthAt _ _ _ _ q2) (cM_0 g _) rfl rfl rfl rfl (Nat.le_of_ble_eq_true rfl) dX8_findMost_188) (n := 191) rfl ?_
      exact j_retP C dX8_findMost_191
    · refine j_iconst C dX8_findMost_44 ic_0 (n := 45) rfl ?_
      refine j_istore C dX8_findMost_45 (Nat.le_of_ble_eq_true rfl) (n := 47) rfl ?_
      exact j_to (j_X8_findMost_47 C _ _ ih _ _ _ _ _) ⟨rfl, ⟨rfl, ⟨rfl, ⟨rfl, trivial⟩⟩⟩⟩
set_option maxRecDepth 20000 in
theorem j_X8_findMost_14 {x : Fx} {g : Gl} (C : Ok x g RX8 cX8_findMost 7 (some .int)) (fu : Nat) : ∀ (n : Nat) (x2 : Int32) (x3 : Int32) (h : Hp), J x g cwM 7 4 (fun r : Int32 × Hp => qI cwM r.1 r.2) 14 [some (rf g 0), none, some (.int x2), some (.int x3)] [] h (X8_findMost_14 fu n x2 x3 h) := by
  intro n
  induction n with
  | zero =>
    intro x2 x3 h
    rw [X8_findMost_14]
    exact j_none
  | succ n ih =>
    intro x2 x3 h
    rw [X8_findMost_14]
    refine j_iload_n C dX8_findMost_14 rfl (n := 15) rfl ?_
    refine j_sipush C dX8_findMost_15 sp_1024 (n := 18) rfl ?_
    refine j_icmp_ge C dX8_findMost_18 (tgt := 38) (n := 21) (by decide) rfl (fun q1 => ?_) (fun q1 => ?_)
    · refine j_iconst C dX8_findMost_38 ic_5 (n := 39) rfl ?_
      refine j_istore_n C dX8_findMost_39 (Nat.le_of_ble_eq_true rfl) (n := 40) rfl ?_
      exact j_to (j_X8_findMost_40 C _ _ _ _ _) ⟨rfl, ⟨rfl, ⟨rfl, trivial⟩⟩⟩
    · refine j_aload_n C dX8_findMost_21 rfl (n := 22) rfl ?_
      refine gf_X8_22 C 0 (cM_0 g _) rfl dX8_findMost_22 (n := 25) rfl ?_
      refine j_sipush C dX8_findMost_25 sp_6144 (n := 28) rfl ?_
      refine j_iload_n C dX8_findMost_28 rfl (n := 29) rfl ?_
      refine j_iadd C dX8_findMost_29 (n := 30) rfl ?_
      refine j_iconst C dX8_findMost_30 ic_0 (n := 31) rfl ?_
      refine j_iast C 5 (cM_5 g _) (aM_5 g _ _ _) dX8_findMost_31 (n := 32) rfl ?_
      refine j_iinc C dX8_findMost_32 rfl ic_1 (Nat.le_of_ble_eq_true rfl) (n := 35) rfl ?_
      refine j_goto C dX8_findMost_35 (n := 14) (by decide) ?_
      exact j_to (ih _ _ _) ⟨rfl, ⟨rfl, ⟨rfl, trivial⟩⟩⟩
set_option maxRecDepth 20000 in
theorem m_X8_findMost (l : Launch) (fu : Nat) (x1 : Int32) (h : Hp) {r : Int32 × Hp} (e : X8_findMost fu x1 h = some r) : CT l yX8_findMost cX8_findMost 7 (some .int) 4 cwM (fun g => [rf g 0, .int x1]) h (qI cwM r.1 r.2) := by
  refine ct_of (QR := (fun r : Int32 × Hp => qI cwM r.1 r.2)) (by decide +kernel) (fun g => ⟨rfl, Nat.le_of_ble_eq_true rfl⟩) e (fun x g hl C => ?_)
  unfold X8_findMost
  refine j_aload_n C dX8_findMost_0 rfl (n := 1) rfl ?_
  refine j_iload_n C dX8_findMost_1 rfl (n := 2) rfl ?_
  refine pf_X8_178 C 0 (cM_0 g _) (sM_0_6 g _ _) rfl dX8_findMost_2 (n := 5) rfl ?_
  refine j_aload_n C dX8_findMost_5 rfl (n := 6) rfl ?_
  refine j_bnd (fun r2 q1 => ?_)
  refine j_ci C (run_V C mi_X8_noHeads lm_X8_185 iv_X8_noHeads ⟨Nat.le_of_ble_eq_true rfl, Nat.le_of_ble_eq_true rfl⟩ (m_X8_noHeads _ _ _ q1) (cM_0 g _) rfl rfl rfl rfl (Nat.le_of_ble_eq_true rfl) dX8_findMost_6) (n := 9) rfl ?_
  refine j_iload_n C dX8_findMost_9 rfl (n := 10) rfl ?_
  refine j_ior C dX8_findMost_10 (n := 11) rfl ?_
  refine j_istore_n C dX8_findMost_11 (Nat.le_of_ble_eq_true rfl) (n := 12) rfl ?_
  refine j_iconst C dX8_findMost_12 ic_0 (n := 13) rfl ?_
  refine j_istore_n C dX8_findMost_13 (Nat.le_of_ble_eq_true rfl) (n := 14) rfl ?_
  exact j_to (j_X8_findMost_14 C _ _ _ _ _) ⟨rfl, ⟨rfl, ⟨rfl, trivial⟩⟩⟩
-- X8_most
set_option maxRecDepth 20000 in
theorem m_X8_most (l : Launch) (fu : Nat) (h : Hp) {r : Int32 × Hp} (e : X8_most fu h = some r) : CT l yX8_most cX8_most 1 (some .int) 5 cwM (fun g => [rf g 0]) h (qI cwM r.1 r.2) := by
  refine ct_of (QR := (fun r : Int32 × Hp => qI cwM r.1 r.2)) (by decide +kernel) (fun g => ⟨rfl, Nat.le_of_ble_eq_true rfl⟩) e (fun x g hl C => ?_)
  unfold X8_most
  refine j_aload_n C dX8_most_0 rfl (n := 1) rfl ?_
  refine j_iconst C dX8_most_1 ic_0 (n := 2) rfl ?_
  refine j_bnd (fun r2 q1 => ?_)
  refine j_ci C (run_V C mi_X8_findMost lm_X8_191 iv_X8_findMost ⟨Nat.le_of_ble_eq_true rfl, Nat.le_of_ble_eq_true rfl⟩ (m_X8_findMost _ _ _ _ q1) (cM_0 g _) rfl rfl rfl rfl (Nat.le_of_ble_eq_true rfl) dX8_most_2) (n := 5) rfl ?_
  exact j_retP C dX8_most_5
-- X8_mayGive
set_option maxRecDepth 20000 in
theorem m_X8_mayGive (l : Launch) (fu : Nat) (x1 : Int32) (x2 : Int32) (x3 : Int32) (h : Hp) {r : Int32} (e : X8_mayGive fu x1 x2 x3 h = some r) : CT l yX8_mayGive cX8_mayGive 4 (some .boolean) 3 cwM (fun g => [rf g 0, .int x1, .int x2, .int x3]) h (qZ cwM r h) := by
  refine ct_of (QR := (fun r : Int32 => qZ cwM r h)) (by decide +kernel) (fun g => ⟨rfl, Nat.le_of_ble_eq_true rfl⟩) e (fun x g hl C => ?_)
  unfold X8_mayGive
  refine j_aload_n C dX8_mayGive_0 rfl (n := 1) rfl ?_
  refine gf_X8_9 C 0 (cM_0 g _) rfl dX8_mayGive_1 (n := 4) rfl ?_
  refine j_bipush C dX8_mayGive_4 bp_27 (n := 6) rfl ?_
  refine j_iload_n C dX8_mayGive_6 rfl (n := 7) rfl ?_
  refine j_iadd C dX8_mayGive_7 (n := 8) rfl ?_
  refine j_iald C 1 (cM_1 g _) dX8_mayGive_8 (n := 9) rfl ?_
  refine j_if_lt C dX8_mayGive_9 (tgt := 47) (n := 12) (by decide) rfl (fun q1 => ?_) (fun q1 => ?_)
  · refine j_iconst C dX8_mayGive_47 ic_0 (n := 48) rfl ?_
    exact j_retZ C (Or.inl rfl) dX8_mayGive_48
  · refine j_iload_n C dX8_mayGive_12 rfl (n := 13) rfl ?_
    refine j_aload_n C dX8_mayGive_13 rfl (n := 14) rfl ?_
    refine gf_X8_9 C 0 (cM_0 g _) rfl dX8_mayGive_14 (n := 17) rfl ?_
    refine j_iconst C dX8_mayGive_17 ic_2 (n := 18) rfl ?_
    refine j_ialdL C 1 (cM_1 g _) ir_2_117 dX8_mayGive_18 (n := 19) rfl ?_
    refine j_icmp_ge C dX8_mayGive_19 (tgt := 47) (n := 22) (by decide) rfl (fun q2 => ?_) (fun q2 => ?_)
    · refine j_iconst C dX8_mayGive_47 ic_0 (n := 48) rfl ?_
      exact j_retZ C (Or.inl rfl) dX8_mayGive_48
    · refine j_iload_n C dX8_mayGive_22 rfl (n := 23) rfl ?_
      refine j_aload_n C dX8_mayGive_23 rfl (n := 24) rfl ?_
      refine gf_X8_178 C 0 (cM_0 g _) rfl dX8_mayGive_24 (n := 27) rfl ?_
      refine j_ior C dX8_mayGive_27 (n := 28) rfl ?_
      refine j_iload_n C dX8_mayGive_28 rfl (n := 29) rfl ?_
      refine j_cz C (run_S C mi_X8_has lm_X8_120 st_X8_has ⟨Nat.le_of_ble_eq_true rfl, Nat.le_of_ble_eq_true rfl⟩ (m_X8_has _ _ _ _) rfl rfl rfl (Nat.le_of_ble_eq_true rfl) dX8_mayGive_29) (n := 32) rfl (fun b3 => ?_)
      refine j_if_ne C dX8_mayGive_32 (tgt := 47) (n := 35) (by decide) rfl (fun q4 => ?_) (fun q4 => ?_)
      · refine j_iconst C dX8_mayGive_47 ic_0 (n := 48) rfl ?_
        exact j_retZ C (Or.inl rfl) dX8_mayGive_48
      · refine j_aload_n C dX8_mayGive_35 rfl (n := 36) rfl ?_
        refine j_iload_n C dX8_mayGive_36 rfl (n := 37) rfl ?_
        refine j_bnd (fun r6 q5 => ?_)
        refine j_cz C (run_V C mi_X8_isHead lm_X8_182 iv_X8_isHead ⟨Nat.le_of_ble_eq_true rfl, Nat.le_of_ble_eq_true rfl⟩ (m_X8_isHead _ _ _ _ q5) (cM_0 g _) rfl rfl rfl rfl (Nat.le_of_ble_eq_true rfl) dX8_mayGive_37) (n := 40) rfl (fun b7 => ?_)
        refine j_if_eq C dX8_mayGive_40 (tgt := 47) (n := 43) (by decide) rfl (fun q8 => ?_) (fun q8 => ?_)
        · refine j_iconst C dX8_mayGive_47 ic_0 (n := 48) rfl ?_
          exact j_retZ C (Or.inl rfl) dX8_mayGive_48
        · refine j_iconst C dX8_mayGive_43 ic_1 (n := 44) rfl ?_
          refine j_goto C dX8_mayGive_44 (n := 48) (by decide) ?_
          exact j_retZ C (Or.inr rfl) dX8_mayGive_48
-- X8_given
set_option maxRecDepth 20000 in
theorem j_X8_given_104 {x : Fx} {g : Gl} (C : Ok x g RX8 cX8_given 8 (some .int)) (fu : Nat) (k47 : Int32 → Int32 → Int32 → Int32 → Int32 → Int32 → Hp → Option (Int32 × Hp)) (hk47 : ∀ (x1 : Int32) (x2 : Int32) (x3 : Int32) (x4 : Int32) (x5 : Int32) (x6 : Int32) (h : Hp), J x g cwM 8 5 (fun r : Int32 × Hp => qI cwM r.1 r.2) 47 [some (rf g 0), some (.int x1), some (.int x2), some (.int x3), some (.int x4), some (.int x5), some (.int x6)] [] h (k47 x1 x2 x3 x4 x5 x6 h)) (x1 : Int32) (x2 : Int32) (x3 : Int32) (x4 : Int32) (x5 : Int32) (x6 : Int32) (s0 : Int32) (h : Hp) (bs0 : s0 = 0 ∨ s0 = 1) : J x g cwM 8 5 (fun r : Int32 × Hp => qI cwM r.1 r.2) 104 [some (rf g 0), some (.int x1), some (.int x2), some (.int x3), some (.int x4), some (.int x5), some (.int x6)] [.int s0] h (X8_given_104 fu k47 x1 x2 x3 x4 x5 x6 s0 h) := by
  unfold X8_given_104
  refine j_istore C dX8_given_104 (Nat.le_of_ble_eq_true rfl) (n := 106) rfl ?_
  refine j_iload C dX8_given_106 rfl (n := 108) rfl ?_
  refine j_if_eq C dX8_given_108 (tgt := 116) (n := 111) (by decide) rfl (fun q1 => ?_) (fun q1 => ?_)
  · refine j_iload C dX8_given_116 rfl (n := 118) rfl ?_
    refine j_istore C dX8_given_118 (Nat.le_of_ble_eq_true rfl) (n := 120) rfl ?_
    refine j_iinc C dX8_given_120 rfl ic_m1 (Nat.le_of_ble_eq_true rfl) (n := 123) rfl ?_
    refine j_goto C dX8_given_123 (n := 47) (by decide) ?_
    exact j_to (hk47 _ _ _ _ _ _ _) ⟨rfl, ⟨rfl, ⟨rfl, ⟨rfl, ⟨rfl, ⟨rfl, ⟨rfl, trivial⟩⟩⟩⟩⟩⟩⟩
  · refine j_iload C dX8_given_111 rfl (n := 113) rfl ?_
    refine j_goto C dX8_given_113 (n := 118) (by decide) ?_
    refine j_istore C dX8_given_118 (Nat.le_of_ble_eq_true rfl) (n := 120) rfl ?_
    refine j_iinc C dX8_given_120 rfl ic_m1 (Nat.le_of_ble_eq_true rfl) (n := 123) rfl ?_
    refine j_goto C dX8_given_123 (n := 47) (by decide) ?_
    exact j_to (hk47 _ _ _ _ _ _ _) ⟨rfl, ⟨rfl, ⟨rfl, ⟨rfl, ⟨rfl, ⟨rfl, ⟨rfl, trivial⟩⟩⟩⟩⟩⟩⟩
set_option maxRecDepth 20000 in
theorem j_X8_given_152 {x : Fx} {g : Gl} (C : Ok x g RX8 cX8_given 8 (some .int)) (fu : Nat) (k28 : Int32 → Int32 → Int32 → Int32 → Int32 → Hp → Option (Int32 × Hp)) (hk28 : ∀ (x1 : Int32) (x2 : Int32) (x3 : Int32) (x4 : Int32) (x5 : Int32) (h : Hp), J x g cwM 8 5 (fun r : Int32 × Hp => qI cwM r.1 r.2) 28 [some (rf g 0), some (.int x1), some (.int x2), some (.int x3), some (.int x4), some (.int x5)] [] h (k28 x1 x2 x3 x4 x5 h)) (x1 : Int32) (x3 : Int32) (x4 : Int32) (x5 : Int32) (s0 : Int32) (s1 : Int32) (h : Hp) : J x g cwM 8 5 (fun r : Int32 × Hp => qI cwM r.1 r.2) 152 [some (rf g 0), some (.int x1), none, some (.int x3), some (.int x4), some (.int x5)] [.int s1, .int s0] h (X8_given_152 fu k28 x1 x3 x4 x5 s0 s1 h) := by
  unfold X8_given_152
  refine j_isub C dX8_given_152 (n := 153) rfl ?_
  refine j_istore_n C dX8_given_153 (Nat.le_of_ble_eq_true rfl) (n := 154) rfl ?_
  refine j_iload_n C dX8_given_154 rfl (n := 155) rfl ?_
  refine j_iload C dX8_given_155 rfl (n := 157) rfl ?_
  refine j_if_ge C dX8_given_157 (tgt := 164) (n := 160) (by decide) rfl (fun q1 => ?_) (fun q1 => ?_)
  · refine j_iconst C dX8_given_164 ic_1 (n := 165) rfl ?_
    refine j_iload C dX8_given_165 rfl (n := 167) rfl ?_
    refine j_ishl C dX8_given_167 (n := 168) rfl ?_
    refine j_ior C dX8_given_168 (n := 169) rfl ?_
    refine j_istore_n C dX8_given_169 (Nat.le_of_ble_eq_true rfl) (n := 170) rfl ?_
    refine j_iinc C dX8_given_170 rfl ic_1 (Nat.le_of_ble_eq_true rfl) (n := 173) rfl ?_
    refine j_goto C dX8_given_173 (n := 28) (by decide) ?_
    exact j_to (hk28 _ _ _ _ _ _) ⟨rfl, ⟨rfl, ⟨rfl, ⟨rfl, ⟨rfl, ⟨rfl, trivial⟩⟩⟩⟩⟩⟩
  · refine j_iconst C dX8_given_160 ic_0 (n := 161) rfl ?_
    refine j_goto C dX8_given_161 (n := 168) (by decide) ?_
    refine j_ior C dX8_given_168 (n := 169) rfl ?_
    refine j_istore_n C dX8_given_169 (Nat.le_of_ble_eq_true rfl) (n := 170) rfl ?_
    refine j_iinc C dX8_given_170 rfl ic_1 (Nat.le_of_ble_eq_true rfl) (n := 173) rfl ?_
    refine j_goto C dX8_given_173 (n := 28) (by decide) ?_
    exact j_to (hk28 _ _ _ _ _ _) ⟨rfl, ⟨rfl, ⟨rfl, ⟨rfl, ⟨rfl, ⟨rfl, trivial⟩⟩⟩⟩⟩⟩
set_option maxRecDepth 20000 in
theorem j_X8_given_47 {x : Fx} {g : Gl} (C : Ok x g RX8 cX8_given 8 (some .int)) (fu : Nat) (k28 : Int32 → Int32 → Int32 → Int32 → Int32 → Hp → Option (Int32 × Hp)) (hk28 : ∀ (x1 : Int32) (x2 : Int32) (x3 : Int32) (x4 : Int32) (x5 : Int32) (h : Hp), J x g cwM 8 5 (fun r : Int32 × Hp => qI cwM r.1 r.2) 28 [some (rf g 0), some (.int x1), some (.int x2), some (.int x3), some (.int x4), some (.int x5)] [] h (k28 x1 x2 x3 x4 x5 h)) : ∀ (n : Nat) (x1 : Int32) (x2 : Int32) (x3 : Int32) (x4 : Int32) (x5 : Int32) (x6 : Int32) (h : Hp), J x g cwM 8 5 (fun r : Int32 × Hp => qI cwM r.1 r.2) 47 [some (rf g 0), some (.int x1), some (.int x2), some (.int x3), some (.int x4), some (.int x5), some (.int x6)] [] h (X8_given_47 fu k28 n x1 x2 x3 x4 x5 x6 h) := by
  intro n
  induction n with
  | zero =>
    intro x1 x2 x3 x4 x5 x6 h
    rw [X8_given_47]
    exact j_none
  | succ n ih =>
    intro x1 x2 x3 x4 x5 x6 h
    rw [X8_given_47]
    refine j_iload C dX8_given_47 rfl (n := 49) rfl ?_
    refine j_if_lt C dX8_given_49 (tgt := 126) (n := 52) (by decide) rfl (fun q1 => ?_) (fun q1 => ?_)
    · refine j_iload_n C dX8_given_126 rfl (n := 127) rfl ?_
      refine j_iload C dX8_given_127 rfl (n := 129) rfl ?_
      refine j_if_ge C dX8_given_129 (tgt := 136) (n := 132) (by decide) rfl (fun q2 => ?_) (fun q2 => ?_)
      · refine j_aload_n C dX8_given_136 rfl (n := 137) rfl ?_
        refine j_iload C dX8_given_137 rfl (n := 139) rfl ?_
        refine j_aload_n C dX8_given_139 rfl (n := 140) rfl ?_
        refine gf_X8_9 C 0 (cM_0 g _) rfl dX8_given_140 (n := 143) rfl ?_
        refine j_bipush C dX8_given_143 bp_27 (n := 145) rfl ?_
        refine j_iload C dX8_given_145 rfl (n := 147) rfl ?_
        refine j_iadd C dX8_given_147 (n := 148) rfl ?_
        refine j_iald C 1 (cM_1 g _) dX8_given_148 (n := 149) rfl ?_
        refine j_bnd (fun r4 q3 => ?_)
        refine j_ci C (run_V C mi_X8_likeTo lm_X8_132 iv_X8_likeTo ⟨Nat.le_of_ble_eq_true rfl, Nat.le_of_ble_eq_true rfl⟩ (m_X8_likeTo _ _ _ _ _ q3) (cM_0 g _) rfl rfl rfl rfl (Nat.le_of_ble_eq_true rfl) dX8_given_149) (n := 152) rfl ?_
        exact j_to (j_X8_given_152 C _ _ hk28 _ _ _ _ _ _ _) ⟨rfl, ⟨rfl, ⟨rfl, ⟨rfl, ⟨rfl, trivial⟩⟩⟩⟩⟩
      · refine j_iconst C dX8_given_132 ic_0 (n := 133) rfl ?_
        refine j_goto C dX8_given_133 (n := 152) (by decide) ?_
        exact j_to (j_X8_given_152 C _ _ hk28 _ _ _ _ _ _ _) ⟨rfl, ⟨rfl, ⟨rfl, ⟨rfl, ⟨rfl, trivial⟩⟩⟩⟩⟩
    · refine j_aload_n C dX8_given_52 rfl (n := 53) rfl ?_
      refine j_iload C dX8_given_53 rfl (n := 55) rfl ?_
      refine j_iload_n C dX8_given_55 rfl (n := 56) rfl ?_
      refine j_iload C dX8_given_56 rfl (n := 58) rfl ?_
      refine j_bnd (fun r7 q6 => ?_)
      refine j_cz C (run_V C mi_X8_mayGive lm_X8_194 iv_X8_mayGive ⟨Nat.le_of_ble_eq_true rfl, Nat.le_of_ble_eq_true rfl⟩ (m_X8_mayGive _ _ _ _ _ _ q6) (cM_0 g _) rfl rfl rfl rfl (Nat.le_of_ble_eq_true rfl) dX8_given_58) (n := 61) rfl (fun b8 => ?_)
      refine j_if_eq C dX8_given_61 (tgt := 103) (n := 64) (by decide) rfl (fun q9 => ?_) (fun q9 => ?_)
      · refine j_iconst C dX8_given_103 ic_0 (n := 104) rfl ?_
        exact j_to (j_X8_given_104 C _ _ ih _ _ _ _ _ _ _ _ (Or.inl rfl)) ⟨rfl, ⟨rfl, ⟨rfl, ⟨rfl, ⟨rfl, ⟨rfl, ⟨rfl, trivial⟩⟩⟩⟩⟩⟩⟩
      · refine j_aload_n C dX8_given_64 rfl (n := 65) rfl ?_
        refine j_iload C dX8_given_65 rfl (n := 67) rfl ?_
        refine j_aload_n C dX8_given_67 rfl (n := 68) rfl ?_
        refine gf_X8_9 C 0 (cM_0 g _) rfl dX8_given_68 (n := 71) rfl ?_
        refine j_bipush C dX8_given_71 bp_27 (n := 73) rfl ?_
        refine j_iload C dX8_given_73 rfl (n := 75) rfl ?_
        refine j_iadd C dX8_given_75 (n := 76) rfl ?_
        refine j_iald C 1 (cM_1 g _) dX8_given_76 (n := 77) rfl ?_
        refine j_bnd (fun r11 q10 => ?_)
        refine j_ci C (run_V C mi_X8_likeTo lm_X8_132 iv_X8_likeTo ⟨Nat.le_of_ble_eq_true rfl, Nat.le_of_ble_eq_true rfl⟩ (m_X8_likeTo _ _ _ _ _ q10) (cM_0 g _) rfl rfl rfl rfl (Nat.le_of_ble_eq_true rfl) dX8_given_77) (n := 80) rfl ?_
        refine j_aload_n C dX8_given_80 rfl (n := 81) rfl ?_
        refine j_iload C dX8_given_81 rfl (n := 83) rfl ?_
        refine j_iconst C dX8_given_83 ic_1 (n := 84) rfl ?_
        refine j_iadd C dX8_given_84 (n := 85) rfl ?_
        refine j_iload_n C dX8_given_85 rfl (n := 86) rfl ?_
        refine j_iconst C dX8_given_86 ic_1 (n := 87) rfl ?_
        refine j_iload C dX8_given_87 rfl (n := 89) rfl ?_
        refine j_ishl C dX8_given_89 (n := 90) rfl ?_
        refine j_ior C dX8_given_90 (n := 91) rfl ?_
        refine j_bnd (fun r14 q13 => ?_)
        refine j_ci C (run_V C mi_X8_worthAt lm_X8_188 iv_X8_worthAt ⟨Nat.le_of_ble_eq_true rfl, Nat.le_of_ble_eq_true rfl⟩ (m_X8_worthAt _ _ _ _ q13) (cM_0 g _) rfl rfl rfl rfl (Nat.le_of_ble_eq_true rfl) dX8_given_91) (n := 94) rfl ?_
        refine j_iadd C dX8_given_94 (n := 95) rfl ?_
        refine j_iload_n C dX8_given_95 rfl (n := 96) rfl ?_
        refine j_icmp_ne C dX8_given_96 (tgt := 103) (n := 99) (by decide) rfl (fun q16 => ?_) (fun q16 => ?_)
        · refine j_iconst C dX8_given_103 ic_0 (n := 104) rfl ?_
          exact j_to (j_X8_given_104 C _ _ ih _ _ _ _ _ _ _ _ (Or.inl rfl)) ⟨rfl, ⟨rfl, ⟨rfl, ⟨rfl, ⟨rfl, ⟨rfl, ⟨rfl, trivial⟩⟩⟩⟩⟩⟩⟩
        · refine j_iconst C dX8_given_99 ic_1 (n := 100) rfl ?_
          refine j_goto C dX8_given_100 (n := 104) (by decide) ?_
          exact j_to (j_X8_given_104 C _ _ ih _ _ _ _ _ _ _ _ (Or.inr rfl)) ⟨rfl, ⟨rfl, ⟨rfl, ⟨rfl, ⟨rfl, ⟨rfl, ⟨rfl, trivial⟩⟩⟩⟩⟩⟩⟩
set_option maxRecDepth 20000 in
theorem j_X8_given_28 {x : Fx} {g : Gl} (C : Ok x g RX8 cX8_given 8 (some .int)) (fu : Nat) : ∀ (n : Nat) (x1 : Int32) (x2 : Int32) (x3 : Int32) (x4 : Int32) (x5 : Int32) (h : Hp), J x g cwM 8 5 (fun r : Int32 × Hp => qI cwM r.1 r.2) 28 [some (rf g 0), some (.int x1), some (.int x2), some (.int x3), some (.int x4), some (.int x5)] [] h (X8_given_28 fu n x1 x2 x3 x4 x5 h) := by
  intro n
  induction n with
  | zero =>
    intro x1 x2 x3 x4 x5 h
    rw [X8_given_28]
    exact j_none
  | succ n ih =>
    intro x1 x2 x3 x4 x5 h
    rw [X8_given_28]
    refine j_iload C dX8_given_28 rfl (n := 30) rfl ?_
    refine j_iload_n C dX8_given_30 rfl (n := 31) rfl ?_
    refine j_icmp_gt C dX8_given_31 (tgt := 176) (n := 34) (by decide) rfl (fun q1 => ?_) (fun q1 => ?_)
    · refine j_iload C dX8_given_176 rfl (n := 178) rfl ?_
      exact j_retP C dX8_given_178
    · refine j_iconst C dX8_given_34 ic_m1 (n := 35) rfl ?_
      refine j_istore C dX8_given_35 (Nat.le_of_ble_eq_true rfl) (n := 37) rfl ?_
      refine j_aload_n C dX8_given_37 rfl (n := 38) rfl ?_
      refine gf_X8_9 C 0 (cM_0 g _) rfl dX8_given_38 (n := 41) rfl ?_
      refine j_iconst C dX8_given_41 ic_2 (n := 42) rfl ?_
      refine j_ialdL C 1 (cM_1 g _) ir_2_117 dX8_given_42 (n := 43) rfl ?_
      refine j_iconst C dX8_given_43 ic_1 (n := 44) rfl ?_
      refine j_isub C dX8_given_44 (n := 45) rfl ?_
      refine j_istore C dX8_given_45 (Nat.le_of_ble_eq_true rfl) (n := 47) rfl ?_
      exact j_to (j_X8_given_47 C _ _ ih _ _ _ _ _ _ _ _) ⟨rfl, ⟨rfl, ⟨rfl, ⟨rfl, ⟨rfl, ⟨rfl, ⟨rfl, trivial⟩⟩⟩⟩⟩⟩⟩
set_option maxRecDepth 20000 in
theorem m_X8_given (l : Launch) (fu : Nat) (x1 : Int32) (h : Hp) {r : Int32 × Hp} (e : X8_given fu x1 h = some r) : CT l yX8_given cX8_given 8 (some .int) 5 cwM (fun g => [rf g 0, .int x1]) h (qI cwM r.1 r.2) := by
  refine ct_of (QR := (fun r : Int32 × Hp => qI cwM r.1 r.2)) (by decide +kernel) (fun g => ⟨rfl, Nat.le_of_ble_eq_true rfl⟩) e (fun x g hl C => ?_)
  unfold X8_given
  refine j_iload_n C dX8_given_0 rfl (n := 1) rfl ?_
  refine j_cz C (run_S C mi_X8_isRoom lm_X8_114 st_X8_isRoom ⟨Nat.le_of_ble_eq_true rfl, Nat.le_of_ble_eq_true rfl⟩ (m_X8_isRoom _ _ _) rfl rfl rfl (Nat.le_of_ble_eq_true rfl) dX8_given_1) (n := 4) rfl (fun b1 => ?_)
  refine j_if_ne C dX8_given_4 (tgt := 14) (n := 7) (by decide) rfl (fun q2 => ?_) (fun q2 => ?_)
  · refine j_aload_n C dX8_given_14 rfl (n := 15) rfl ?_
    refine j_iconst C dX8_given_15 ic_0 (n := 16) rfl ?_
    refine j_bnd (fun r4 q3 => ?_)
    refine j_ci C (run_V C mi_X8_findMost lm_X8_191 iv_X8_findMost ⟨Nat.le_of_ble_eq_true rfl, Nat.le_of_ble_eq_true rfl⟩ (m_X8_findMost _ _ _ _ q3) (cM_0 g _) rfl rfl rfl rfl (Nat.le_of_ble_eq_true rfl) dX8_given_16) (n := 19) rfl ?_
    refine j_istore_n C dX8_given_19 (Nat.le_of_ble_eq_true rfl) (n := 20) rfl ?_
    refine j_iconst C dX8_given_20 ic_0 (n := 21) rfl ?_
    refine j_istore_n C dX8_given_21 (Nat.le_of_ble_eq_true rfl) (n := 22) rfl ?_
    refine j_iconst C dX8_given_22 ic_m1 (n := 23) rfl ?_
    refine j_istore C dX8_given_23 (Nat.le_of_ble_eq_true rfl) (n := 25) rfl ?_
    refine j_iconst C dX8_given_25 ic_0 (n := 26) rfl ?_
    refine j_istore C dX8_given_26 (Nat.le_of_ble_eq_true rfl) (n := 28) rfl ?_
    exact j_to (j_X8_given_28 C _ _ _ _ _ _ _ _) ⟨rfl, ⟨rfl, ⟨rfl, ⟨rfl, ⟨rfl, ⟨rfl, trivial⟩⟩⟩⟩⟩⟩
  · refine j_aload_n C dX8_given_7 rfl (n := 8) rfl ?_
    refine j_ldc C dX8_given_8 kc_X8_63 (n := 10) rfl ?_
    refine j_bnd (fun r7 q6 => ?_)
    refine j_ci C (run_V C mi_X8_finding lm_X8_80 iv_X8_finding ⟨Nat.le_of_ble_eq_true rfl, Nat.le_of_ble_eq_true rfl⟩ (m_X8_finding _ _ _ q6) (cM_0 g _) rfl rfl rfl rfl (Nat.le_of_ble_eq_true rfl) dX8_given_10) (n := 13) rfl ?_
    exact j_retP C dX8_given_13
-- X8_likest
set_option maxRecDepth 20000 in
theorem j_X8_likest_21 {x : Fx} {g : Gl} (C : Ok x g RX8 cX8_likest 5 (some .int)) (fu : Nat) : ∀ (n : Nat) (x1 : Int32) (x2 : Int32) (x3 : Int32) (x4 : Int32) (h : Hp), J x g cwM 5 3 (fun r : Int32 × Hp => qI cwM r.1 r.2) 21 [some (rf g 0), some (.int x1), some (.int x2), some (.int x3), some (.int x4)] [] h (X8_likest_21 fu n x1 x2 x3 x4 h) := by
  intro n
  induction n with
  | zero =>
    intro x1 x2 x3 x4 h
    rw [X8_likest_21]
    exact j_none
  | succ n ih =>
    intro x1 x2 x3 x4 h
    rw [X8_likest_21]
    refine j_iload C dX8_likest_21 rfl (n := 23) rfl ?_
    refine j_aload_n C dX8_likest_23 rfl (n := 24) rfl ?_
    refine gf_X8_9 C 0 (cM_0 g _) rfl dX8_likest_24 (n := 27) rfl ?_
    refine j_iconst C dX8_likest_27 ic_2 (n := 28) rfl ?_
    refine j_ialdL C 1 (cM_1 g _) ir_2_117 dX8_likest_28 (n := 29) rfl ?_
    refine j_icmp_ge C dX8_likest_29 (tgt := 68) (n := 32) (by decide) rfl (fun q1 => ?_) (fun q1 => ?_)
    · refine j_iload_n C dX8_likest_68 rfl (n := 69) rfl ?_
      refine j_if_ge C dX8_likest_69 (tgt := 81) (n := 72) (by decide) rfl (fun q2 => ?_) (fun q2 => ?_)
      · refine j_iload_n C dX8_likest_81 rfl (n := 82) rfl ?_
        exact j_retP C dX8_likest_82
      · refine j_aload_n C dX8_likest_72 rfl (n := 73) rfl ?_
        refine j_ldc C dX8_likest_73 kc_X8_197 (n := 75) rfl ?_
        refine j_bnd (fun r4 q3 => ?_)
        refine j_ci C (run_V C mi_X8_finding lm_X8_80 iv_X8_finding ⟨Nat.le_of_ble_eq_true rfl, Nat.le_of_ble_eq_true rfl⟩ (m_X8_finding _ _ _ q3) (cM_0 g _) rfl rfl rfl rfl (Nat.le_of_ble_eq_true rfl) dX8_likest_75) (n := 78) rfl ?_
        refine j_goto C dX8_likest_78 (n := 82) (by decide) ?_
        exact j_retP C dX8_likest_82
    · refine j_aload_n C dX8_likest_32 rfl (n := 33) rfl ?_
      refine j_iload C dX8_likest_33 rfl (n := 35) rfl ?_
      refine j_iload_n C dX8_likest_35 rfl (n := 36) rfl ?_
      refine j_bnd (fun r7 q6 => ?_)
      refine j_ci C (run_V C mi_X8_likeTo lm_X8_132 iv_X8_likeTo ⟨Nat.le_of_ble_eq_true rfl, Nat.le_of_ble_eq_true rfl⟩ (m_X8_likeTo _ _ _ _ _ q6) (cM_0 g _) rfl rfl rfl rfl (Nat.le_of_ble_eq_true rfl) dX8_likest_36) (n := 39) rfl ?_
      refine j_iload_n C dX8_likest_39 rfl (n := 40) rfl ?_
      refine j_icmp_le C dX8_likest_40 (tgt := 48) (n := 43) (by decide) rfl (fun q9 => ?_) (fun q9 => ?_)
      · refine j_iload_n C dX8_likest_48 rfl (n := 49) rfl ?_
        refine j_istore_n C dX8_likest_49 (Nat.le_of_ble_eq_true rfl) (n := 50) rfl ?_
        refine j_iload_n C dX8_likest_50 rfl (n := 51) rfl ?_
        refine j_aload_n C dX8_likest_51 rfl (n := 52) rfl ?_
        refine j_iload C dX8_likest_52 rfl (n := 54) rfl ?_
        refine j_iload_n C dX8_likest_54 rfl (n := 55) rfl ?_
        refine j_bnd (fun r11 q10 => ?_)
        refine j_ci C (run_V C mi_X8_likeTo lm_X8_132 iv_X8_likeTo ⟨Nat.le_of_ble_eq_true rfl, Nat.le_of_ble_eq_true rfl⟩ (m_X8_likeTo _ _ _ _ _ q10) (cM_0 g _) rfl rfl rfl rfl (Nat.le_of_ble_eq_true rfl) dX8_likest_55) (n := 58) rfl ?_
        refine j_mmax C lm_X8_123 (Nat.le_of_ble_eq_true rfl) (Nat.le_of_ble_eq_true rfl) dX8_likest_58 (n := 61) rfl ?_
        refine j_istore_n C dX8_likest_61 (Nat.le_of_ble_eq_true rfl) (n := 62) rfl ?_
        refine j_iinc C dX8_likest_62 rfl ic_1 (Nat.le_of_ble_eq_true rfl) (n := 65) rfl ?_
        refine j_goto C dX8_likest_65 (n := 21) (by decide) ?_
        exact j_to (ih _ _ _ _ _) ⟨rfl, ⟨rfl, ⟨rfl, ⟨rfl, ⟨rfl, trivial⟩⟩⟩⟩⟩
      · refine j_iload C dX8_likest_43 rfl (n := 45) rfl ?_
        refine j_goto C dX8_likest_45 (n := 49) (by decide) ?_
        refine j_istore_n C dX8_likest_49 (Nat.le_of_ble_eq_true rfl) (n := 50) rfl ?_
        refine j_iload_n C dX8_likest_50 rfl (n := 51) rfl ?_
        refine j_aload_n C dX8_likest_51 rfl (n := 52) rfl ?_
        refine j_iload C dX8_likest_52 rfl (n := 54) rfl ?_
        refine j_iload_n C dX8_likest_54 rfl (n := 55) rfl ?_
        refine j_bnd (fun r14 q13 => ?_)
        refine j_ci C (run_V C mi_X8_likeTo lm_X8_132 iv_X8_likeTo ⟨Nat.le_of_ble_eq_true rfl, Nat.le_of_ble_eq_true rfl⟩ (m_X8_likeTo _ _ _ _ _ q13) (cM_0 g _) rfl rfl rfl rfl (Nat.le_of_ble_eq_true rfl) dX8_likest_55) (n := 58) rfl ?_
        refine j_mmax C lm_X8_123 (Nat.le_of_ble_eq_true rfl) (Nat.le_of_ble_eq_true rfl) dX8_likest_58 (n := 61) rfl ?_
        refine j_istore_n C dX8_likest_61 (Nat.le_of_ble_eq_true rfl) (n := 62) rfl ?_
        refine j_iinc C dX8_likest_62 rfl ic_1 (Nat.le_of_ble_eq_true rfl) (n := 65) rfl ?_
        refine j_goto C dX8_likest_65 (n := 21) (by decide) ?_
        exact j_to (ih _ _ _ _ _) ⟨rfl, ⟨rfl, ⟨rfl, ⟨rfl, ⟨rfl, trivial⟩⟩⟩⟩⟩
set_option maxRecDepth 20000 in
theorem m_X8_likest (l : Launch) (fu : Nat) (x1 : Int32) (h : Hp) {r : Int32 × Hp} (e : X8_likest fu x1 h = some r) : CT l yX8_likest cX8_likest 5 (some .int) 3 cwM (fun g => [rf g 0, .int x1]) h (qI cwM r.1 r.2) := by
  refine ct_of (QR := (fun r : Int32 × Hp => qI cwM r.1 r.2)) (by decide +kernel) (fun g => ⟨rfl, Nat.le_of_ble_eq_true rfl⟩) e (fun x g hl C => ?_)
  unfold X8_likest
  refine j_iload_n C dX8_likest_0 rfl (n := 1) rfl ?_
  refine j_cz C (run_S C mi_X8_isFace lm_X8_111 st_X8_isFace ⟨Nat.le_of_ble_eq_true rfl, Nat.le_of_ble_eq_true rfl⟩ (m_X8_isFace _ _ _) rfl rfl rfl (Nat.le_of_ble_eq_true rfl) dX8_likest_1) (n := 4) rfl (fun b1 => ?_)
  refine j_if_ne C dX8_likest_4 (tgt := 14) (n := 7) (by decide) rfl (fun q2 => ?_) (fun q2 => ?_)
  · refine j_iconst C dX8_likest_14 ic_m1 (n := 15) rfl ?_
    refine j_istore_n C dX8_likest_15 (Nat.le_of_ble_eq_true rfl) (n := 16) rfl ?_
    refine j_iconst C dX8_likest_16 ic_m1 (n := 17) rfl ?_
    refine j_istore_n C dX8_likest_17 (Nat.le_of_ble_eq_true rfl) (n := 18) rfl ?_
    refine j_iconst C dX8_likest_18 ic_0 (n := 19) rfl ?_
    refine j_istore C dX8_likest_19 (Nat.le_of_ble_eq_true rfl) (n := 21) rfl ?_
    exact j_to (j_X8_likest_21 C _ _ _ _ _ _ _) ⟨rfl, ⟨rfl, ⟨rfl, ⟨rfl, ⟨rfl, trivial⟩⟩⟩⟩⟩
  · refine j_aload_n C dX8_likest_7 rfl (n := 8) rfl ?_
    refine j_ldc C dX8_likest_8 kc_X8_63 (n := 10) rfl ?_
    refine j_bnd (fun r4 q3 => ?_)
    refine j_ci C (run_V C mi_X8_finding lm_X8_80 iv_X8_finding ⟨Nat.le_of_ble_eq_true rfl, Nat.le_of_ble_eq_true rfl⟩ (m_X8_finding _ _ _ q3) (cM_0 g _) rfl rfl rfl rfl (Nat.le_of_ble_eq_true rfl) dX8_likest_10) (n := 13) rfl ?_
    exact j_retP C dX8_likest_13
-- X8_whom
set_option maxRecDepth 20000 in
theorem j_X8_whom_19 {x : Fx} {g : Gl} (C : Ok x g RX8 cX8_whom 4 (some .int)) (fu : Nat) : ∀ (n : Nat) (x1 : Int32) (x2 : Int32) (x3 : Int32) (h : Hp), J x g cwM 4 3 (fun r : Int32 × Hp => qI cwM r.1 r.2) 19 [some (rf g 0), some (.int x1), some (.int x2), some (.int x3)] [] h (X8_whom_19 fu n x1 x2 x3 h) := by
  intro n
  induction n with
  | zero =>
    intro x1 x2 x3 h
    rw [X8_whom_19]
    exact j_none
  | succ n ih =>
    intro x1 x2 x3 h
    rw [X8_whom_19]
    refine j_iload_n C dX8_whom_19 rfl (n := 20) rfl ?_
    refine j_bipush C dX8_whom_20 bp_6 (n := 22) rfl ?_
    refine j_icmp_ge C dX8_whom_22 (tgt := 52) (n := 25) (by decide) rfl (fun q1 => ?_) (fun q1 => ?_)
    · refine j_iload_n C dX8_whom_52 rfl (n := 53) rfl ?_
      exact j_retP C dX8_whom_53
    · refine j_aload_n C dX8_whom_25 rfl (n := 26) rfl ?_
      refine j_iload_n C dX8_whom_26 rfl (n := 27) rfl ?_
      refine j_iload_n C dX8_whom_27 rfl (n := 28) rfl ?_
      refine j_bnd (fun r3 q2 => ?_)
      refine j_ci C (run_V C mi_X8_likeTo lm_X8_132 iv_X8_likeTo ⟨Nat.le_of_ble_eq_true rfl, Nat.le_of_ble_eq_true rfl⟩ (m_X8_likeTo _ _ _ _ _ q2) (cM_0 g _) rfl rfl rfl rfl (Nat.le_of_ble_eq_true rfl) dX8_whom_28) (n := 31) rfl ?_
      refine j_aload_n C dX8_whom_31 rfl (n := 32) rfl ?_
      refine j_iload_n C dX8_whom_32 rfl (n := 33) rfl ?_
      refine j_iload_n C dX8_whom_33 rfl (n := 34) rfl ?_
      refine j_bnd (fun r6 q5 => ?_)
      refine j_ci C (run_V C mi_X8_likeTo lm_X8_132 iv_X8_likeTo ⟨Nat.le_of_ble_eq_true rfl, Nat.le_of_ble_eq_true rfl⟩ (m_X8_likeTo _ _ _ _ _ q5) (cM_0 g _) rfl rfl rfl rfl (Nat.le_of_ble_eq_true rfl) dX8_whom_34) (n := 37) rfl ?_
      refine j_icmp_le C dX8_whom_37 (tgt := 44) (n := 40) (by decide) rfl (fun q8 => ?_) (fun q8 => ?_)
      · refine j_iload_n C dX8_whom_44 rfl (n := 45) rfl ?_
        refine j_istore_n C dX8_whom_45 (Nat.le_of_ble_eq_true rfl) (n := 46) rfl ?_
        refine j_iinc C dX8_whom_46 rfl ic_1 (Nat.le_of_ble_eq_true rfl) (n := 49) rfl ?_
        refine j_goto C dX8_whom_49 (n := 19) (by decide) ?_
        exact j_to (ih _ _ _ _) ⟨rfl, ⟨rfl, ⟨rfl, ⟨rfl, trivial⟩⟩⟩⟩
      · refine j_iload_n C dX8_whom_40 rfl (n := 41) rfl ?_
        refine j_goto C dX8_whom_41 (n := 45) (by decide) ?_
        refine j_istore_n C dX8_whom_45 (Nat.le_of_ble_eq_true rfl) (n := 46) rfl ?_
        refine j_iinc C dX8_whom_46 rfl ic_1 (Nat.le_of_ble_eq_true rfl) (n := 49) rfl ?_
        refine j_goto C dX8_whom_49 (n := 19) (by decide) ?_
        exact j_to (ih _ _ _ _) ⟨rfl, ⟨rfl, ⟨rfl, ⟨rfl, trivial⟩⟩⟩⟩
set_option maxRecDepth 20000 in
theorem m_X8_whom (l : Launch) (fu : Nat) (x1 : Int32) (h : Hp) {r : Int32 × Hp} (e : X8_whom fu x1 h = some r) : CT l yX8_whom cX8_whom 4 (some .int) 3 cwM (fun g => [rf g 0, .int x1]) h (qI cwM r.1 r.2) := by
  refine ct_of (QR := (fun r : Int32 × Hp => qI cwM r.1 r.2)) (by decide +kernel) (fun g => ⟨rfl, Nat.le_of_ble_eq_true rfl⟩) e (fun x g hl C => ?_)
  unfold X8_whom
  refine j_aload_n C dX8_whom_0 rfl (n := 1) rfl ?_
  refine j_iload_n C dX8_whom_1 rfl (n := 2) rfl ?_
  refine j_bnd (fun r2 q1 => ?_)
  refine j_cz C (run_V C mi_X8_isPart lm_X8_99 iv_X8_isPart ⟨Nat.le_of_ble_eq_true rfl, Nat.le_of_ble_eq_true rfl⟩ (m_X8_isPart _ _ _ q1) (cM_0 g _) rfl rfl rfl rfl (Nat.le_of_ble_eq_true rfl) dX8_whom_2) (n := 5) rfl (fun b3 => ?_)
  refine j_if_ne C dX8_whom_5 (tgt := 15) (n := 8) (by decide) rfl (fun q4 => ?_) (fun q4 => ?_)
  · refine j_iconst C dX8_whom_15 ic_0 (n := 16) rfl ?_
    refine j_istore_n C dX8_whom_16 (Nat.le_of_ble_eq_true rfl) (n := 17) rfl ?_
    refine j_iconst C dX8_whom_17 ic_1 (n := 18) rfl ?_
    refine j_istore_n C dX8_whom_18 (Nat.le_of_ble_eq_true rfl) (n := 19) rfl ?_
    exact j_to (j_X8_whom_19 C _ _ _ _ _ _) ⟨rfl, ⟨rfl, ⟨rfl, ⟨rfl, trivial⟩⟩⟩⟩
  · refine j_aload_n C dX8_whom_8 rfl (n := 9) rfl ?_
    refine j_ldc C dX8_whom_9 kc_X8_63 (n := 11) rfl ?_
    refine j_bnd (fun r6 q5 => ?_)
    refine j_ci C (run_V C mi_X8_finding lm_X8_80 iv_X8_finding ⟨Nat.le_of_ble_eq_true rfl, Nat.le_of_ble_eq_true rfl⟩ (m_X8_finding _ _ _ q5) (cM_0 g _) rfl rfl rfl rfl (Nat.le_of_ble_eq_true rfl) dX8_whom_11) (n := 14) rfl ?_
    exact j_retP C dX8_whom_14
-- X8_missed
set_option maxRecDepth 20000 in
theorem m_X8_missed (l : Launch) (fu : Nat) (x1 : Int32) (h : Hp) {r : Int32 × Hp} (e : X8_missed fu x1 h = some r) : CT l yX8_missed cX8_missed 3 (some .int) 5 cwM (fun g => [rf g 0, .int x1]) h (qI cwM r.1 r.2) := by
  refine ct_of (QR := (fun r : Int32 × Hp => qI cwM r.1 r.2)) (by decide +kernel) (fun g => ⟨rfl, Nat.le_of_ble_eq_true rfl⟩) e (fun x g hl C => ?_)
  unfold X8_missed
  refine j_aload_n C dX8_missed_0 rfl (n := 1) rfl ?_
  refine j_iload_n C dX8_missed_1 rfl (n := 2) rfl ?_
  refine j_bnd (fun r2 q1 => ?_)
  refine j_cz C (run_V C mi_X8_isPart lm_X8_99 iv_X8_isPart ⟨Nat.le_of_ble_eq_true rfl, Nat.le_of_ble_eq_true rfl⟩ (m_X8_isPart _ _ _ q1) (cM_0 g _) rfl rfl rfl rfl (Nat.le_of_ble_eq_true rfl) dX8_missed_2) (n := 5) rfl (fun b3 => ?_)
  refine j_if_ne C dX8_missed_5 (tgt := 15) (n := 8) (by decide) rfl (fun q4 => ?_) (fun q4 => ?_)
  · refine j_aload_n C dX8_missed_15 rfl (n := 16) rfl ?_
    refine j_iconst C dX8_missed_16 ic_0 (n := 17) rfl ?_
    refine j_bnd (fun r6 q5 => ?_)
    refine j_ci C (run_V C mi_X8_findMost lm_X8_191 iv_X8_findMost ⟨Nat.le_of_ble_eq_true rfl, Nat.le_of_ble_eq_true rfl⟩ (m_X8_findMost _ _ _ _ q5) (cM_0 g _) rfl rfl rfl rfl (Nat.le_of_ble_eq_true rfl) dX8_missed_17) (n := 20) rfl ?_
    refine j_istore_n C dX8_missed_20 (Nat.le_of_ble_eq_true rfl) (n := 21) rfl ?_
    refine j_iload_n C dX8_missed_21 rfl (n := 22) rfl ?_
    refine j_aload_n C dX8_missed_22 rfl (n := 23) rfl ?_
    refine j_iconst C dX8_missed_23 ic_1 (n := 24) rfl ?_
    refine j_iload_n C dX8_missed_24 rfl (n := 25) rfl ?_
    refine j_ishl C dX8_missed_25 (n := 26) rfl ?_
    refine j_bnd (fun r9 q8 => ?_)
    refine j_ci C (run_V C mi_X8_findMost lm_X8_191 iv_X8_findMost ⟨Nat.le_of_ble_eq_true rfl, Nat.le_of_ble_eq_true rfl⟩ (m_X8_findMost _ _ _ _ q8) (cM_0 g _) rfl rfl rfl rfl (Nat.le_of_ble_eq_true rfl) dX8_missed_26) (n := 29) rfl ?_
    refine j_isub C dX8_missed_29 (n := 30) rfl ?_
    exact j_retP C dX8_missed_30
  · refine j_aload_n C dX8_missed_8 rfl (n := 9) rfl ?_
    refine j_ldc C dX8_missed_9 kc_X8_63 (n := 11) rfl ?_
    refine j_bnd (fun r12 q11 => ?_)
    refine j_ci C (run_V C mi_X8_finding lm_X8_80 iv_X8_finding ⟨Nat.le_of_ble_eq_true rfl, Nat.le_of_ble_eq_true rfl⟩ (m_X8_finding _ _ _ q11) (cM_0 g _) rfl rfl rfl rfl (Nat.le_of_ble_eq_true rfl) dX8_missed_11) (n := 14) rfl ?_
    exact j_retP C dX8_missed_14
-- X8_bestWith
set_option maxRecDepth 20000 in
theorem j_X8_bestWith_16 {x : Fx} {g : Gl} (C : Ok x g RX8 cX8_bestWith 8 (some .int)) (fu : Nat) : ∀ (n : Nat) (x1 : Int32) (x2 : Int32) (x3 : Int32) (x4 : Int32) (x5 : Int32) (x6 : Int32) (h : Hp), J x g cwM 8 5 (fun r : Int32 × Hp => qI cwM r.1 r.2) 16 [some (rf g 0), some (.int x1), some (.int x2), some (.int x3), some (.int x4), some (.int x5), some (.int x6)] [] h (X8_bestWith_16 fu n x1 x2 x3 x4 x5 x6 h) := by
  intro n
  induction n with
  | zero =>
    intro x1 x2 x3 x4 x5 x6 h
    rw [X8_bestWith_16]
    exact j_none
  | succ n ih =>
    intro x1 x2 x3 x4 x5 x6 h
    rw [X8_bestWith_16]
    refine j_iload C dX8_bestWith_16 rfl (n := 18) rfl ?_
    refine j_iload_n C dX8_bestWith_18 rfl (n := 19) rfl ?_
    refine j_icmp_ge C dX8_bestWith_19 (tgt := 68) (n := 22) (by decide) rfl (fun q1 => ?_) (fun q1 => ?_)
    · refine j_aload_n C dX8_bestWith_68 rfl (n := 69) rfl ?_
      refine gf_X8_9 C 0 (cM_0 g _) rfl dX8_bestWith_69 (n := 72) rfl ?_
      refine j_iload_n C dX8_bestWith_72 rfl (n := 73) rfl ?_
      refine j_iload_n C dX8_bestWith_73 rfl (n := 74) rfl ?_
      refine j_iast C 1 (cM_1 g _) (aM_1 g _ _ _) dX8_bestWith_74 (n := 75) rfl ?_
      refine j_iload C dX8_bestWith_75 rfl (n := 77) rfl ?_
      exact j_retP C dX8_bestWith_77
    · refine j_aload_n C dX8_bestWith_22 rfl (n := 23) rfl ?_
      refine gf_X8_9 C 0 (cM_0 g _) rfl dX8_bestWith_23 (n := 26) rfl ?_
      refine j_iload_n C dX8_bestWith_26 rfl (n := 27) rfl ?_
      refine j_iload C dX8_bestWith_27 rfl (n := 29) rfl ?_
      refine j_iast C 1 (cM_1 g _) (aM_1 g _ _ _) dX8_bestWith_29 (n := 30) rfl ?_
      refine j_aload_n C dX8_bestWith_30 rfl (n := 31) rfl ?_
      refine j_iconst C dX8_bestWith_31 ic_0 (n := 32) rfl ?_
      refine j_bnd (fun r3 q2 => ?_)
      refine j_ci C (run_V C mi_X8_findMost lm_X8_191 iv_X8_findMost ⟨Nat.le_of_ble_eq_true rfl, Nat.le_of_ble_eq_true rfl⟩ (m_X8_findMost _ _ _ _ q2) (cM_0 g _) rfl rfl rfl rfl (Nat.le_of_ble_eq_true rfl) dX8_bestWith_32) (n := 35) rfl ?_
      refine j_istore C dX8_bestWith_35 (Nat.le_of_ble_eq_true rfl) (n := 37) rfl ?_
      refine j_iload C dX8_bestWith_37 rfl (n := 39) rfl ?_
      refine j_iload C dX8_bestWith_39 rfl (n := 41) rfl ?_
      refine j_icmp_le C dX8_bestWith_41 (tgt := 49) (n := 44) (by decide) rfl (fun q5 => ?_) (fun q5 => ?_)
      · refine j_iload C dX8_bestWith_49 rfl (n := 51) rfl ?_
        refine j_istore C dX8_bestWith_51 (Nat.le_of_ble_eq_true rfl) (n := 53) rfl ?_
        refine j_iload C dX8_bestWith_53 rfl (n := 55) rfl ?_
        refine j_iload C dX8_bestWith_55 rfl (n := 57) rfl ?_
        refine j_mmax C lm_X8_123 (Nat.le_of_ble_eq_true rfl) (Nat.le_of_ble_eq_true rfl) dX8_bestWith_57 (n := 60) rfl ?_
        refine j_istore C dX8_bestWith_60 (Nat.le_of_ble_eq_true rfl) (n := 62) rfl ?_
        refine j_iinc C dX8_bestWith_62 rfl ic_1 (Nat.le_of_ble_eq_true rfl) (n := 65) rfl ?_
        refine j_goto C dX8_bestWith_65 (n := 16) (by decide) ?_
        exact j_to (ih _ _ _ _ _ _ _) ⟨rfl, ⟨rfl, ⟨rfl, ⟨rfl, ⟨rfl, ⟨rfl, ⟨rfl, trivial⟩⟩⟩⟩⟩⟩⟩
      · refine j_iload C dX8_bestWith_44 rfl (n := 46) rfl ?_
        refine j_goto C dX8_bestWith_46 (n := 51) (by decide) ?_
        refine j_istore C dX8_bestWith_51 (Nat.le_of_ble_eq_true rfl) (n := 53) rfl ?_
        refine j_iload C dX8_bestWith_53 rfl (n := 55) rfl ?_
        refine j_iload C dX8_bestWith_55 rfl (n := 57) rfl ?_
        refine j_mmax C lm_X8_123 (Nat.le_of_ble_eq_true rfl) (Nat.le_of_ble_eq_true rfl) dX8_bestWith_57 (n := 60) rfl ?_
        refine j_istore C dX8_bestWith_60 (Nat.le_of_ble_eq_true rfl) (n := 62) rfl ?_
        refine j_iinc C dX8_bestWith_62 rfl ic_1 (Nat.le_of_ble_eq_true rfl) (n := 65) rfl ?_
        refine j_goto C dX8_bestWith_65 (n := 16) (by decide) ?_
        exact j_to (ih _ _ _ _ _ _ _) ⟨rfl, ⟨rfl, ⟨rfl, ⟨rfl, ⟨rfl, ⟨rfl, ⟨rfl, trivial⟩⟩⟩⟩⟩⟩⟩
set_option maxRecDepth 20000 in
theorem m_X8_bestWith (l : Launch) (fu : Nat) (x1 : Int32) (x2 : Int32) (h : Hp) {r : Int32 × Hp} (e : X8_bestWith fu x1 x2 h = some r) : CT l yX8_bestWith cX8_bestWith 8 (some .int) 5 cwM (fun g => [rf g 0, .int x1, .int x2]) h (qI cwM r.1 r.2) := by
  refine ct_of (QR := (fun r : Int32 × Hp => qI cwM r.1 r.2)) (by decide +kernel) (fun g => ⟨rfl, Nat.le_of_ble_eq_true rfl⟩) e (fun x g hl C => ?_)
  unfold X8_bestWith
  refine j_aload_n C dX8_bestWith_0 rfl (n := 1) rfl ?_
  refine gf_X8_9 C 0 (cM_0 g _) rfl dX8_bestWith_1 (n := 4) rfl ?_
  refine j_iload_n C dX8_bestWith_4 rfl (n := 5) rfl ?_
  refine j_iald C 1 (cM_1 g _) dX8_bestWith_5 (n := 6) rfl ?_
  refine j_istore_n C dX8_bestWith_6 (Nat.le_of_ble_eq_true rfl) (n := 7) rfl ?_
  refine j_iconst C dX8_bestWith_7 ic_0 (n := 8) rfl ?_
  refine j_istore C dX8_bestWith_8 (Nat.le_of_ble_eq_true rfl) (n := 10) rfl ?_
  refine j_iconst C dX8_bestWith_10 ic_m1 (n := 11) rfl ?_
  refine j_istore C dX8_bestWith_11 (Nat.le_of_ble_eq_true rfl) (n := 13) rfl ?_
  refine j_iconst C dX8_bestWith_13 ic_0 (n := 14) rfl ?_
  refine j_istore C dX8_bestWith_14 (Nat.le_of_ble_eq_true rfl) (n := 16) rfl ?_
  exact j_to (j_X8_bestWith_16 C _ _ _ _ _ _ _ _ _) ⟨rfl, ⟨rfl, ⟨rfl, ⟨rfl, ⟨rfl, ⟨rfl, ⟨rfl, trivial⟩⟩⟩⟩⟩⟩⟩
-- X8_recast
set_option maxRecDepth 20000 in
theorem m_X8_recast (l : Launch) (fu : Nat) (x1 : Int32) (h : Hp) {r : Int32 × Hp} (e : X8_recast fu x1 h = some r) : CT l yX8_recast cX8_recast 2 (some .int) 6 cwM (fun g => [rf g 0, .int x1]) h (qI cwM r.1 r.2) := by
  refine ct_of (QR := (fun r : Int32 × Hp => qI cwM r.1 r.2)) (by decide +kernel) (fun g => ⟨rfl, Nat.le_of_ble_eq_true rfl⟩) e (fun x g hl C => ?_)
  unfold X8_recast
  refine j_aload_n C dX8_recast_0 rfl (n := 1) rfl ?_
  refine j_iload_n C dX8_recast_1 rfl (n := 2) rfl ?_
  refine j_bnd (fun r2 q1 => ?_)
  refine j_cz C (run_V C mi_X8_isPart lm_X8_99 iv_X8_isPart ⟨Nat.le_of_ble_eq_true rfl, Nat.le_of_ble_eq_true rfl⟩ (m_X8_isPart _ _ _ q1) (cM_0 g _) rfl rfl rfl rfl (Nat.le_of_ble_eq_true rfl) dX8_recast_2) (n := 5) rfl (fun b3 => ?_)
  refine j_if_ne C dX8_recast_5 (tgt := 15) (n := 8) (by decide) rfl (fun q4 => ?_) (fun q4 => ?_)
  · refine j_aload_n C dX8_recast_15 rfl (n := 16) rfl ?_
    refine j_iload_n C dX8_recast_16 rfl (n := 17) rfl ?_
    refine j_bnd (fun r6 q5 => ?_)
    refine j_cz C (run_V C mi_X8_isHead lm_X8_182 iv_X8_isHead ⟨Nat.le_of_ble_eq_true rfl, Nat.le_of_ble_eq_true rfl⟩ (m_X8_isHead _ _ _ _ q5) (cM_0 g _) rfl rfl rfl rfl (Nat.le_of_ble_eq_true rfl) dX8_recast_17) (n := 20) rfl (fun b7 => ?_)
    refine j_if_eq C dX8_recast_20 (tgt := 38) (n := 23) (by decide) rfl (fun q8 => ?_) (fun q8 => ?_)
    · refine j_aload_n C dX8_recast_38 rfl (n := 39) rfl ?_
      refine j_ldc C dX8_recast_39 kc_X8_201 (n := 41) rfl ?_
      refine j_bnd (fun r10 q9 => ?_)
      refine j_ci C (run_V C mi_X8_finding lm_X8_80 iv_X8_finding ⟨Nat.le_of_ble_eq_true rfl, Nat.le_of_ble_eq_true rfl⟩ (m_X8_finding _ _ _ q9) (cM_0 g _) rfl rfl rfl rfl (Nat.le_of_ble_eq_true rfl) dX8_recast_41) (n := 44) rfl ?_
      exact j_retP C dX8_recast_44
    · refine j_aload_n C dX8_recast_23 rfl (n := 24) rfl ?_
      refine j_iload_n C dX8_recast_24 rfl (n := 25) rfl ?_
      refine j_iconst C dX8_recast_25 ic_1 (n := 26) rfl ?_
      refine j_ci C (run_S C mi_X8_at lm_X8_72 st_X8_at ⟨Nat.le_of_ble_eq_true rfl, Nat.le_of_ble_eq_true rfl⟩ (m_X8_at _ _ _ _) rfl rfl rfl (Nat.le_of_ble_eq_true rfl) dX8_recast_26) (n := 29) rfl ?_
      refine j_sipush C dX8_recast_29 sp_256 (n := 32) rfl ?_
      refine j_bnd (fun r13 q12 => ?_)
      refine j_ci C (run_V C mi_X8_bestWith lm_X8_198 iv_X8_bestWith ⟨Nat.le_of_ble_eq_true rfl, Nat.le_of_ble_eq_true rfl⟩ (m_X8_bestWith _ _ _ _ _ q12) (cM_0 g _) rfl rfl rfl rfl (Nat.le_of_ble_eq_true rfl) dX8_recast_32) (n := 35) rfl ?_
      refine j_goto C dX8_recast_35 (n := 44) (by decide) ?_
      exact j_retP C dX8_recast_44
  · refine j_aload_n C dX8_recast_8 rfl (n := 9) rfl ?_
    refine j_ldc C dX8_recast_9 kc_X8_63 (n := 11) rfl ?_
    refine j_bnd (fun r16 q15 => ?_)
    refine j_ci C (run_V C mi_X8_finding lm_X8_80 iv_X8_finding ⟨Nat.le_of_ble_eq_true rfl, Nat.le_of_ble_eq_true rfl⟩ (m_X8_finding _ _ _ q15) (cM_0 g _) rfl rfl rfl rfl (Nat.le_of_ble_eq_true rfl) dX8_recast_11) (n := 14) rfl ?_
    exact j_retP C dX8_recast_14
-- X8_kindFor
set_option maxRecDepth 20000 in
theorem m_X8_kindFor (l : Launch) (fu : Nat) (x1 : Int32) (h : Hp) {r : Int32 × Hp} (e : X8_kindFor fu x1 h = some r) : CT l yX8_kindFor cX8_kindFor 2 (some .int) 6 cwM (fun g => [rf g 0, .int x1]) h (qI cwM r.1 r.2) := by
  refine ct_of (QR := (fun r : Int32 × Hp => qI cwM r.1 r.2)) (by decide +kernel) (fun g => ⟨rfl, Nat.le_of_ble_eq_true rfl⟩) e (fun x g hl C => ?_)
  unfold X8_kindFor
  refine j_aload_n C dX8_kindFor_0 rfl (n := 1) rfl ?_
  refine j_iload_n C dX8_kindFor_1 rfl (n := 2) rfl ?_
  refine j_bnd (fun r2 q1 => ?_)
  refine j_cz C (run_V C mi_X8_isPart lm_X8_99 iv_X8_isPart ⟨Nat.le_of_ble_eq_true rfl, Nat.le_of_ble_eq_true rfl⟩ (m_X8_isPart _ _ _ q1) (cM_0 g _) rfl rfl rfl rfl (Nat.le_of_ble_eq_true rfl) dX8_kindFor_2) (n := 5) rfl (fun b3 => ?_)
  refine j_if_eq C dX8_kindFor_5 (tgt := 22) (n := 8) (by decide) rfl (fun q4 => ?_) (fun q4 => ?_)
  · refine j_aload_n C dX8_kindFor_22 rfl (n := 23) rfl ?_
    refine j_ldc C dX8_kindFor_23 kc_X8_63 (n := 25) rfl ?_
    refine j_bnd (fun r6 q5 => ?_)
    refine j_ci C (run_V C mi_X8_finding lm_X8_80 iv_X8_finding ⟨Nat.le_of_ble_eq_true rfl, Nat.le_of_ble_eq_true rfl⟩ (m_X8_finding _ _ _ q5) (cM_0 g _) rfl rfl rfl rfl (Nat.le_of_ble_eq_true rfl) dX8_kindFor_25) (n := 28) rfl ?_
    exact j_retP C dX8_kindFor_28
  · refine j_aload_n C dX8_kindFor_8 rfl (n := 9) rfl ?_
    refine j_iload_n C dX8_kindFor_9 rfl (n := 10) rfl ?_
    refine j_iconst C dX8_kindFor_10 ic_0 (n := 11) rfl ?_
    refine j_ci C (run_S C mi_X8_at lm_X8_72 st_X8_at ⟨Nat.le_of_ble_eq_true rfl, Nat.le_of_ble_eq_true rfl⟩ (m_X8_at _ _ _ _) rfl rfl rfl (Nat.le_of_ble_eq_true rfl) dX8_kindFor_11) (n := 14) rfl ?_
    refine j_bipush C dX8_kindFor_14 bp_7 (n := 16) rfl ?_
    refine j_bnd (fun r9 q8 => ?_)
    refine j_ci C (run_V C mi_X8_bestWith lm_X8_198 iv_X8_bestWith ⟨Nat.le_of_ble_eq_true rfl, Nat.le_of_ble_eq_true rfl⟩ (m_X8_bestWith _ _ _ _ _ q8) (cM_0 g _) rfl rfl rfl rfl (Nat.le_of_ble_eq_true rfl) dX8_kindFor_16) (n := 19) rfl ?_
    refine j_goto C dX8_kindFor_19 (n := 28) (by decide) ?_
    exact j_retP C dX8_kindFor_28
-- X8_whoCount
set_option maxRecDepth 20000 in
theorem j_X8_whoCount_7 {x : Fx} {g : Gl} (C : Ok x g RX8 cX8_whoCount 4 (some .int)) (fu : Nat) (h : Hp) : ∀ (n : Nat) (x1 : Int32) (x2 : Int32) (x3 : Int32), J x g cwM 4 2 (fun r : Int32 => qI cwM r h) 7 [some (rf g 0), some (.int x1), some (.int x2), some (.int x3)] [] h (X8_whoCount_7 fu h n x1 x2 x3) := by
  intro n
  induction n with
  | zero =>
    intro x1 x2 x3
    rw [X8_whoCount_7]
    exact j_none
  | succ n ih =>
    intro x1 x2 x3
    rw [X8_whoCount_7]
    refine j_iload_n C dX8_whoCount_7 rfl (n := 8) rfl ?_
    refine j_aload_n C dX8_whoCount_8 rfl (n := 9) rfl ?_
    refine gf_X8_9 C 0 (cM_0 g _) rfl dX8_whoCount_9 (n := 12) rfl ?_
    refine j_iconst C dX8_whoCount_12 ic_3 (n := 13) rfl ?_
    refine j_ialdL C 1 (cM_1 g _) ir_3_117 dX8_whoCount_13 (n := 14) rfl ?_
    refine j_icmp_ge C dX8_whoCount_14 (tgt := 48) (n := 17) (by decide) rfl (fun q1 => ?_) (fun q1 => ?_)
    · refine j_iload_n C dX8_whoCount_48 rfl (n := 49) rfl ?_
      exact j_ret C dX8_whoCount_49
    · refine j_iload_n C dX8_whoCount_17 rfl (n := 18) rfl ?_
      refine j_aload_n C dX8_whoCount_18 rfl (n := 19) rfl ?_
      refine j_iload_n C dX8_whoCount_19 rfl (n := 20) rfl ?_
      refine j_iconst C dX8_whoCount_20 ic_2 (n := 21) rfl ?_
      refine j_bnd (fun r3 q2 => ?_)
      refine j_ci C (run_V C mi_X8_seenIn lm_X8_158 iv_X8_seenIn ⟨Nat.le_of_ble_eq_true rfl, Nat.le_of_ble_eq_true rfl⟩ (m_X8_seenIn _ _ _ _ _ q2) (cM_0 g _) rfl rfl rfl rfl (Nat.le_of_ble_eq_true rfl) dX8_whoCount_21) (n := 24) rfl ?_
      refine j_iload_n C dX8_whoCount_24 rfl (n := 25) rfl ?_
      refine j_cz C (run_S C mi_X8_has lm_X8_120 st_X8_has ⟨Nat.le_of_ble_eq_true rfl, Nat.le_of_ble_eq_true rfl⟩ (m_X8_has _ _ _ _) rfl rfl rfl (Nat.le_of_ble_eq_true rfl) dX8_whoCount_25) (n := 28) rfl (fun b5 => ?_)
      refine j_if_eq C dX8_whoCount_28 (tgt := 39) (n := 31) (by decide) rfl (fun q6 => ?_) (fun q6 => ?_)
      · refine j_iconst C dX8_whoCount_39 ic_m1 (n := 40) rfl ?_
        refine j_iand C dX8_whoCount_40 (n := 41) rfl ?_
        refine j_istore_n C dX8_whoCount_41 (Nat.le_of_ble_eq_true rfl) (n := 42) rfl ?_
        refine j_iinc C dX8_whoCount_42 rfl ic_1 (Nat.le_of_ble_eq_true rfl) (n := 45) rfl ?_
        refine j_goto C dX8_whoCount_45 (n := 7) (by decide) ?_
        exact j_to (ih _ _ _) ⟨rfl, ⟨rfl, ⟨rfl, ⟨rfl, trivial⟩⟩⟩⟩
      · refine j_iconst C dX8_whoCount_31 ic_1 (n := 32) rfl ?_
        refine j_iload_n C dX8_whoCount_32 rfl (n := 33) rfl ?_
        refine j_ishl C dX8_whoCount_33 (n := 34) rfl ?_
        refine j_iconst C dX8_whoCount_34 ic_m1 (n := 35) rfl ?_
        refine j_ixor C dX8_whoCount_35 (n := 36) rfl ?_
        refine j_goto C dX8_whoCount_36 (n := 40) (by decide) ?_
        refine j_iand C dX8_whoCount_40 (n := 41) rfl ?_
        refine j_istore_n C dX8_whoCount_41 (Nat.le_of_ble_eq_true rfl) (n := 42) rfl ?_
        refine j_iinc C dX8_whoCount_42 rfl ic_1 (Nat.le_of_ble_eq_true rfl) (n := 45) rfl ?_
        refine j_goto C dX8_whoCount_45 (n := 7) (by decide) ?_
        exact j_to (ih _ _ _) ⟨rfl, ⟨rfl, ⟨rfl, ⟨rfl, trivial⟩⟩⟩⟩
set_option maxRecDepth 20000 in
theorem m_X8_whoCount (l : Launch) (fu : Nat) (x1 : Int32) (h : Hp) {r : Int32} (e : X8_whoCount fu x1 h = some r) : CT l yX8_whoCount cX8_whoCount 4 (some .int) 2 cwM (fun g => [rf g 0, .int x1]) h (qI cwM r h) := by
  refine ct_of (QR := (fun r : Int32 => qI cwM r h)) (by decide +kernel) (fun g => ⟨rfl, Nat.le_of_ble_eq_true rfl⟩) e (fun x g hl C => ?_)
  unfold X8_whoCount
  refine j_aload_n C dX8_whoCount_0 rfl (n := 1) rfl ?_
  refine j_bnd (fun r2 q1 => ?_)
  refine j_ci C (run_V C mi_X8_allThere lm_X8_175 iv_X8_allThere ⟨Nat.le_of_ble_eq_true rfl, Nat.le_of_ble_eq_true rfl⟩ (m_X8_allThere _ _ _ q1) (cM_0 g _) rfl rfl rfl rfl (Nat.le_of_ble_eq_true rfl) dX8_whoCount_1) (n := 4) rfl ?_
  refine j_istore_n C dX8_whoCount_4 (Nat.le_of_ble_eq_true rfl) (n := 5) rfl ?_
  refine j_iconst C dX8_whoCount_5 ic_0 (n := 6) rfl ?_
  refine j_istore_n C dX8_whoCount_6 (Nat.le_of_ble_eq_true rfl) (n := 7) rfl ?_
  exact j_to (j_X8_whoCount_7 C _ _ _ _ _ _) ⟨rfl, ⟨rfl, ⟨rfl, ⟨rfl, trivial⟩⟩⟩⟩
-- X8_copyRow
set_option maxRecDepth 20000 in
theorem j_X8_copyRow_2_1_2 {x : Fx} {g : Gl} (C : Ok x g RX8 cX8_copyRow 3 none) (fu : Nat) : ∀ (n : Nat) (x2 : Int32) (h : Hp), J x g cwM 3 0 (fun r : Hp => qV cwM r) 2 [some (rf g 1), some (rf g 2), some (.int x2)] [] h (X8_copyRow_2 fu 1 2 n x2 h) := by
  intro n
  induction n with
  | zero =>
    intro x2 h
    rw [X8_copyRow_2]
    exact j_none
  | succ n ih =>
    intro x2 h
    rw [X8_copyRow_2]
    refine j_iload_n C dX8_copyRow_2 rfl (n := 3) rfl ?_
    refine j_bipush C dX8_copyRow_3 bp_117 (n := 5) rfl ?_
    refine j_icmp_ge C dX8_copyRow_5 (tgt := 20) (n := 8) (by decide) rfl (fun q1 => ?_) (fun q1 => ?_)
    · exact j_retV C dX8_copyRow_20
    · refine j_aload_n C dX8_copyRow_8 rfl (n := 9) rfl ?_
      refine j_iload_n C dX8_copyRow_9 rfl (n := 10) rfl ?_
      refine j_aload_n C dX8_copyRow_10 rfl (n := 11) rfl ?_
      refine j_iload_n C dX8_copyRow_11 rfl (n := 12) rfl ?_
      refine j_iald C 1 (cM_1 g _) dX8_copyRow_12 (n := 13) rfl ?_
      refine j_iast C 2 (cM_2 g _) (aM_2 g _ _ _) dX8_copyRow_13 (n := 14) rfl ?_
      refine j_iinc C dX8_copyRow_14 rfl ic_1 (Nat.le_of_ble_eq_true rfl) (n := 17) rfl ?_
      refine j_goto C dX8_copyRow_17 (n := 2) (by decide) ?_
      exact j_to (ih _ _) ⟨rfl, ⟨rfl, ⟨rfl, trivial⟩⟩⟩
set_option maxRecDepth 20000 in
theorem m_X8_copyRow_1_2 (l : Launch) (fu : Nat) (h : Hp) {r : Hp} (e : X8_copyRow fu 1 2 h = some r) : CT l yX8_copyRow cX8_copyRow 3 none 0 cwM (fun g => [rf g 1, rf g 2]) h (qV cwM r) := by
  refine ct_of (QR := (fun r : Hp => qV cwM r)) (by decide +kernel) (fun g => ⟨rfl, Nat.le_of_ble_eq_true rfl⟩) e (fun x g hl C => ?_)
  unfold X8_copyRow
  refine j_iconst C dX8_copyRow_0 ic_0 (n := 1) rfl ?_
  refine j_istore_n C dX8_copyRow_1 (Nat.le_of_ble_eq_true rfl) (n := 2) rfl ?_
  exact j_to (j_X8_copyRow_2_1_2 C _ _ _ _) ⟨rfl, ⟨rfl, ⟨rfl, trivial⟩⟩⟩
-- X8_copyRow
set_option maxRecDepth 20000 in
theorem j_X8_copyRow_2_2_1 {x : Fx} {g : Gl} (C : Ok x g RX8 cX8_copyRow 3 none) (fu : Nat) : ∀ (n : Nat) (x2 : Int32) (h : Hp), J x g cwM 3 0 (fun r : Hp => qV cwM r) 2 [some (rf g 2), some (rf g 1), some (.int x2)] [] h (X8_copyRow_2 fu 2 1 n x2 h) := by
  intro n
  induction n with
  | zero =>
    intro x2 h
    rw [X8_copyRow_2]
    exact j_none
  | succ n ih =>
    intro x2 h
    rw [X8_copyRow_2]
    refine j_iload_n C dX8_copyRow_2 rfl (n := 3) rfl ?_
    refine j_bipush C dX8_copyRow_3 bp_117 (n := 5) rfl ?_
    refine j_icmp_ge C dX8_copyRow_5 (tgt := 20) (n := 8) (by decide) rfl (fun q1 => ?_) (fun q1 => ?_)
    · exact j_retV C dX8_copyRow_20
    · refine j_aload_n C dX8_copyRow_8 rfl (n := 9) rfl ?_
      refine j_iload_n C dX8_copyRow_9 rfl (n := 10) rfl ?_
      refine j_aload_n C dX8_copyRow_10 rfl (n := 11) rfl ?_
      refine j_iload_n C dX8_copyRow_11 rfl (n := 12) rfl ?_
      refine j_iald C 2 (cM_2 g _) dX8_copyRow_12 (n := 13) rfl ?_
      refine j_iast C 1 (cM_1 g _) (aM_1 g _ _ _) dX8_copyRow_13 (n := 14) rfl ?_
      refine j_iinc C dX8_copyRow_14 rfl ic_1 (Nat.le_of_ble_eq_true rfl) (n := 17) rfl ?_
      refine j_goto C dX8_copyRow_17 (n := 2) (by decide) ?_
      exact j_to (ih _ _) ⟨rfl, ⟨rfl, ⟨rfl, trivial⟩⟩⟩
set_option maxRecDepth 20000 in
theorem m_X8_copyRow_2_1 (l : Launch) (fu : Nat) (h : Hp) {r : Hp} (e : X8_copyRow fu 2 1 h = some r) : CT l yX8_copyRow cX8_copyRow 3 none 0 cwM (fun g => [rf g 2, rf g 1]) h (qV cwM r) := by
  refine ct_of (QR := (fun r : Hp => qV cwM r)) (by decide +kernel) (fun g => ⟨rfl, Nat.le_of_ble_eq_true rfl⟩) e (fun x g hl C => ?_)
  unfold X8_copyRow
  refine j_iconst C dX8_copyRow_0 ic_0 (n := 1) rfl ?_
  refine j_istore_n C dX8_copyRow_1 (Nat.le_of_ble_eq_true rfl) (n := 2) rfl ?_
  exact j_to (j_X8_copyRow_2_2_1 C _ _ _ _) ⟨rfl, ⟨rfl, ⟨rfl, trivial⟩⟩⟩
-- X8_copyRow
set_option maxRecDepth 20000 in
theorem j_X8_copyRow_2_1_3 {x : Fx} {g : Gl} (C : Ok x g RX8 cX8_copyRow 3 none) (fu : Nat) : ∀ (n : Nat) (x2 : Int32) (h : Hp), J x g cwM 3 0 (fun r : Hp => qV cwM r) 2 [some (rf g 1), some (rf g 3), some (.int x2)] [] h (X8_copyRow_2 fu 1 3 n x2 h) := by
  intro n
  induction n with
  | zero =>
    intro x2 h
    rw [X8_copyRow_2]
    exact j_none
  | succ n ih =>
    intro x2 h
    rw [X8_copyRow_2]
    refine j_iload_n C dX8_copyRow_2 rfl (n := 3) rfl ?_
    refine j_bipush C dX8_copyRow_3 bp_117 (n := 5) rfl ?_
    refine j_icmp_ge C dX8_copyRow_5 (tgt := 20) (n := 8) (by decide) rfl (fun q1 => ?_) (fun q1 => ?_)
    · exact j_retV C dX8_copyRow_20
    · refine j_aload_n C dX8_copyRow_8 rfl (n := 9) rfl ?_
      refine j_iload_n C dX8_copyRow_9 rfl (n := 10) rfl ?_
      refine j_aload_n C dX8_copyRow_10 rfl (n := 11) rfl ?_
      refine j_iload_n C dX8_copyRow_11 rfl (n := 12) rfl ?_
      refine j_iald C 1 (cM_1 g _) dX8_copyRow_12 (n := 13) rfl ?_
      refine j_iast C 3 (cM_3 g _) (aM_3 g _ _ _) dX8_copyRow_13 (n := 14) rfl ?_
      refine j_iinc C dX8_copyRow_14 rfl ic_1 (Nat.le_of_ble_eq_true rfl) (n := 17) rfl ?_
      refine j_goto C dX8_copyRow_17 (n := 2) (by decide) ?_
      exact j_to (ih _ _) ⟨rfl, ⟨rfl, ⟨rfl, trivial⟩⟩⟩
set_option maxRecDepth 20000 in
theorem m_X8_copyRow_1_3 (l : Launch) (fu : Nat) (h : Hp) {r : Hp} (e : X8_copyRow fu 1 3 h = some r) : CT l yX8_copyRow cX8_copyRow 3 none 0 cwM (fun g => [rf g 1, rf g 3]) h (qV cwM r) := by
  refine ct_of (QR := (fun r : Hp => qV cwM r)) (by decide +kernel) (fun g => ⟨rfl, Nat.le_of_ble_eq_true rfl⟩) e (fun x g hl C => ?_)
  unfold X8_copyRow
  refine j_iconst C dX8_copyRow_0 ic_0 (n := 1) rfl ?_
  refine j_istore_n C dX8_copyRow_1 (Nat.le_of_ble_eq_true rfl) (n := 2) rfl ?_
  exact j_to (j_X8_copyRow_2_1_3 C _ _ _ _) ⟨rfl, ⟨rfl, ⟨rfl, trivial⟩⟩⟩
-- X8_copyRow
set_option maxRecDepth 20000 in
theorem j_X8_copyRow_2_3_1 {x : Fx} {g : Gl} (C : Ok x g RX8 cX8_copyRow 3 none) (fu : Nat) : ∀ (n : Nat) (x2 : Int32) (h : Hp), J x g cwM 3 0 (fun r : Hp => qV cwM r) 2 [some (rf g 3), some (rf g 1), some (.int x2)] [] h (X8_copyRow_2 fu 3 1 n x2 h) := by
  intro n
  induction n with
  | zero =>
    intro x2 h
    rw [X8_copyRow_2]
    exact j_none
  | succ n ih =>
    intro x2 h
    rw [X8_copyRow_2]
    refine j_iload_n C dX8_copyRow_2 rfl (n := 3) rfl ?_
    refine j_bipush C dX8_copyRow_3 bp_117 (n := 5) rfl ?_
    refine j_icmp_ge C dX8_copyRow_5 (tgt := 20) (n := 8) (by decide) rfl (fun q1 => ?_) (fun q1 => ?_)
    · exact j_retV C dX8_copyRow_20
    · refine j_aload_n C dX8_copyRow_8 rfl (n := 9) rfl ?_
      refine j_iload_n C dX8_copyRow_9 rfl (n := 10) rfl ?_
      refine j_aload_n C dX8_copyRow_10 rfl (n := 11) rfl ?_
      refine j_iload_n C dX8_copyRow_11 rfl (n := 12) rfl ?_
      refine j_iald C 3 (cM_3 g _) dX8_copyRow_12 (n := 13) rfl ?_
      refine j_iast C 1 (cM_1 g _) (aM_1 g _ _ _) dX8_copyRow_13 (n := 14) rfl ?_
      refine j_iinc C dX8_copyRow_14 rfl ic_1 (Nat.le_of_ble_eq_true rfl) (n := 17) rfl ?_
      refine j_goto C dX8_copyRow_17 (n := 2) (by decide) ?_
      exact j_to (ih _ _) ⟨rfl, ⟨rfl, ⟨rfl, trivial⟩⟩⟩
set_option maxRecDepth 20000 in
theorem m_X8_copyRow_3_1 (l : Launch) (fu : Nat) (h : Hp) {r : Hp} (e : X8_copyRow fu 3 1 h = some r) : CT l yX8_copyRow cX8_copyRow 3 none 0 cwM (fun g => [rf g 3, rf g 1]) h (qV cwM r) := by
  refine ct_of (QR := (fun r : Hp => qV cwM r)) (by decide +kernel) (fun g => ⟨rfl, Nat.le_of_ble_eq_true rfl⟩) e (fun x g hl C => ?_)
  unfold X8_copyRow
  refine j_iconst C dX8_copyRow_0 ic_0 (n := 1) rfl ?_
  refine j_istore_n C dX8_copyRow_1 (Nat.le_of_ble_eq_true rfl) (n := 2) rfl ?_
  exact j_to (j_X8_copyRow_2_3_1 C _ _ _ _) ⟨rfl, ⟨rfl, ⟨rfl, trivial⟩⟩⟩
-- X8_isUnseen
set_option maxRecDepth 20000 in
theorem j_X8_isUnseen_45 {x : Fx} {g : Gl} (C : Ok x g RX8 cX8_isUnseen 7 (some .boolean)) (fu : Nat) : ∀ (n : Nat) (x1 : Int32) (x4 : Int32) (x5 : Int32) (x6 : Int32) (h : Hp) (bx5 : x5 = 0 ∨ x5 = 1), J x g cwM 7 5 (fun r : Int32 × Hp => qZ cwM r.1 r.2) 45 [some (rf g 0), some (.int x1), none, none, some (.int x4), some (.int x5), some (.int x6)] [] h (X8_isUnseen_45 fu n x1 x4 x5 x6 h) := by
  intro n
  induction n with
  | zero =>
    intro x1 x4 x5 x6 h bx5
    rw [X8_isUnseen_45]
    exact j_none
  | succ n ih =>
    intro x1 x4 x5 x6 h bx5
    rw [X8_isUnseen_45]
    refine j_iload C dX8_isUnseen_45 rfl (n := 47) rfl ?_
    refine j_aload_n C dX8_isUnseen_47 rfl (n := 48) rfl ?_
    refine gf_X8_9 C 0 (cM_0 g _) rfl dX8_isUnseen_48 (n := 51) rfl ?_
    refine j_iconst C dX8_isUnseen_51 ic_3 (n := 52) rfl ?_
    refine j_ialdL C 1 (cM_1 g _) ir_3_117 dX8_isUnseen_52 (n := 53) rfl ?_
    refine j_icmp_ge C dX8_isUnseen_53 (tgt := 98) (n := 56) (by decide) rfl (fun q1 => ?_) (fun q1 => ?_)
    · refine j_aload_n C dX8_isUnseen_98 rfl (n := 99) rfl ?_
      refine gf_X8_16 C 0 (cM_0 g _) rfl dX8_isUnseen_99 (n := 102) rfl ?_
      refine j_aload_n C dX8_isUnseen_102 rfl (n := 103) rfl ?_
      refine gf_X8_9 C 0 (cM_0 g _) rfl dX8_isUnseen_103 (n := 106) rfl ?_
      refine j_bnd (fun h3 q2 => ?_)
      refine j_cv C (run_S C mi_X8_copyRow lm_X8_64 st_X8_copyRow ⟨Nat.le_of_ble_eq_true rfl, Nat.le_of_ble_eq_true rfl⟩ (m_X8_copyRow_3_1 _ _ _ q2) rfl rfl rfl (Nat.le_of_ble_eq_true rfl) dX8_isUnseen_106) (n := 109) rfl ?_
      refine j_iload C dX8_isUnseen_109 rfl (n := 111) rfl ?_
      exact j_retZP C bx5 dX8_isUnseen_111
    · refine j_iload C dX8_isUnseen_56 rfl (n := 58) rfl ?_
      refine j_if_eq C dX8_isUnseen_58 (tgt := 89) (n := 61) (by decide) rfl (fun q4 => ?_) (fun q4 => ?_)
      · refine j_iconst C dX8_isUnseen_89 ic_0 (n := 90) rfl ?_
        refine j_istore C dX8_isUnseen_90 (Nat.le_of_ble_eq_true rfl) (n := 92) rfl ?_
        refine j_iinc C dX8_isUnseen_92 rfl ic_1 (Nat.le_of_ble_eq_true rfl) (n := 95) rfl ?_
        refine j_goto C dX8_isUnseen_95 (n := 45) (by decide) ?_
        exact j_to (ih _ _ _ _ _ (Or.inl rfl)) ⟨rfl, ⟨rfl, ⟨rfl, ⟨rfl, ⟨rfl, trivial⟩⟩⟩⟩⟩
      · refine j_iload C dX8_isUnseen_61 rfl (n := 63) rfl ?_
        refine j_iload C dX8_isUnseen_63 rfl (n := 65) rfl ?_
        refine j_cz C (run_S C mi_X8_has lm_X8_120 st_X8_has ⟨Nat.le_of_ble_eq_true rfl, Nat.le_of_ble_eq_true rfl⟩ (m_X8_has _ _ _ _) rfl rfl rfl (Nat.le_of_ble_eq_true rfl) dX8_isUnseen_65) (n := 68) rfl (fun b5 => ?_)
        refine j_if_eq C dX8_isUnseen_68 (tgt := 85) (n := 71) (by decide) rfl (fun q6 => ?_) (fun q6 => ?_)
        · refine j_iconst C dX8_isUnseen_85 ic_1 (n := 86) rfl ?_
          refine j_goto C dX8_isUnseen_86 (n := 90) (by decide) ?_
          refine j_istore C dX8_isUnseen_90 (Nat.le_of_ble_eq_true rfl) (n := 92) rfl ?_
          refine j_iinc C dX8_isUnseen_92 rfl ic_1 (Nat.le_of_ble_eq_true rfl) (n := 95) rfl ?_
          refine j_goto C dX8_isUnseen_95 (n := 45) (by decide) ?_
          exact j_to (ih _ _ _ _ _ (Or.inr rfl)) ⟨rfl, ⟨rfl, ⟨rfl, ⟨rfl, ⟨rfl, trivial⟩⟩⟩⟩⟩
        · refine j_aload_n C dX8_isUnseen_71 rfl (n := 72) rfl ?_
          refine j_iload C dX8_isUnseen_72 rfl (n := 74) rfl ?_
          refine j_iconst C dX8_isUnseen_74 ic_2 (n := 75) rfl ?_
          refine j_bnd (fun r8 q7 => ?_)
          refine j_ci C (run_V C mi_X8_seenIn lm_X8_158 iv_X8_seenIn ⟨Nat.le_of_ble_eq_true rfl, Nat.le_of_ble_eq_true rfl⟩ (m_X8_seenIn _ _ _ _ _ q7) (cM_0 g _) rfl rfl rfl rfl (Nat.le_of_ble_eq_true rfl) dX8_isUnseen_75) (n := 78) rfl ?_
          refine j_iload_n C dX8_isUnseen_78 rfl (n := 79) rfl ?_
          refine j_cz C (run_S C mi_X8_has lm_X8_120 st_X8_has ⟨Nat.le_of_ble_eq_true rfl, Nat.le_of_ble_eq_true rfl⟩ (m_X8_has _ _ _ _) rfl rfl rfl (Nat.le_of_ble_eq_true rfl) dX8_isUnseen_79) (n := 82) rfl (fun b10 => ?_)
          refine j_if_ne C dX8_isUnseen_82 (tgt := 89) (n := 85) (by decide) rfl (fun q11 => ?_) (fun q11 => ?_)
          · refine j_iconst C dX8_isUnseen_89 ic_0 (n := 90) rfl ?_
            refine j_istore C dX8_isUnseen_90 (Nat.le_of_ble_eq_true rfl) (n := 92) rfl ?_
            refine j_iinc C dX8_isUnseen_92 rfl ic_1 (Nat.le_of_ble_eq_true rfl) (n := 95) rfl ?_
            refine j_goto C dX8_isUnseen_95 (n := 45) (by decide) ?_
            exact j_to (ih _ _ _ _ _ (Or.inl rfl)) ⟨rfl, ⟨rfl, ⟨rfl, ⟨rfl, ⟨rfl, trivial⟩⟩⟩⟩⟩
          · refine j_iconst C dX8_isUnseen_85 ic_1 (n := 86) rfl ?_
            refine j_goto C dX8_isUnseen_86 (n := 90) (by decide) ?_
            refine j_istore C dX8_isUnseen_90 (Nat.le_of_ble_eq_true rfl) (n := 92) rfl ?_
            refine j_iinc C dX8_isUnseen_92 rfl ic_1 (Nat.le_of_ble_eq_true rfl) (n := 95) rfl ?_
            refine j_goto C dX8_isUnseen_95 (n := 45) (by decide) ?_
            exact j_to (ih _ _ _ _ _ (Or.inr rfl)) ⟨rfl, ⟨rfl, ⟨rfl, ⟨rfl, ⟨rfl, trivial⟩⟩⟩⟩⟩
set_option maxRecDepth 20000 in
theorem j_X8_isUnseen_22 {x : Fx} {g : Gl} (C : Ok x g RX8 cX8_isUnseen 7 (some .boolean)) (fu : Nat) : ∀ (n : Nat) (x1 : Int32) (x4 : Int32) (h : Hp), J x g cwM 7 5 (fun r : Int32 × Hp => qZ cwM r.1 r.2) 22 [some (rf g 0), some (.int x1), none, none, some (.int x4)] [] h (X8_isUnseen_22 fu n x1 x4 h) := by
  intro n
  induction n with
  | zero =>
    intro x1 x4 h
    rw [X8_isUnseen_22]
    exact j_none
  | succ n ih =>
    intro x1 x4 h
    rw [X8_isUnseen_22]
    refine j_aload_n C dX8_isUnseen_22 rfl (n := 23) rfl ?_
    refine j_bnd (fun r2 q1 => ?_)
    refine j_ci C (run_V C mi_X8_allThere lm_X8_175 iv_X8_allThere ⟨Nat.le_of_ble_eq_true rfl, Nat.le_of_ble_eq_true rfl⟩ (m_X8_allThere _ _ _ q1) (cM_0 g _) rfl rfl rfl rfl (Nat.le_of_ble_eq_true rfl) dX8_isUnseen_23) (n := 26) rfl ?_
    refine j_iload C dX8_isUnseen_26 rfl (n := 28) rfl ?_
    refine j_iand C dX8_isUnseen_28 (n := 29) rfl ?_
    refine j_if_eq C dX8_isUnseen_29 (tgt := 39) (n := 32) (by decide) rfl (fun q4 => ?_) (fun q4 => ?_)
    · refine j_iconst C dX8_isUnseen_39 ic_1 (n := 40) rfl ?_
      refine j_istore C dX8_isUnseen_40 (Nat.le_of_ble_eq_true rfl) (n := 42) rfl ?_
      refine j_iconst C dX8_isUnseen_42 ic_0 (n := 43) rfl ?_
      refine j_istore C dX8_isUnseen_43 (Nat.le_of_ble_eq_true rfl) (n := 45) rfl ?_
      exact j_to (j_X8_isUnseen_45 C _ _ _ _ _ _ _ (Or.inr rfl)) ⟨rfl, ⟨rfl, ⟨rfl, ⟨rfl, ⟨rfl, trivial⟩⟩⟩⟩⟩
    · refine j_aload_n C dX8_isUnseen_32 rfl (n := 33) rfl ?_
      refine j_bnd (fun h6 q5 => ?_)
      refine j_cv C (run_V C mi_X8_minute lm_X8_161 iv_X8_minute ⟨Nat.le_of_ble_eq_true rfl, Nat.le_of_ble_eq_true rfl⟩ (m_X8_minute _ _ _ q5) (cM_0 g _) rfl rfl rfl rfl (Nat.le_of_ble_eq_true rfl) dX8_isUnseen_33) (n := 36) rfl ?_
      refine j_goto C dX8_isUnseen_36 (n := 22) (by decide) ?_
      exact j_to (ih _ _ _) ⟨rfl, ⟨rfl, ⟨rfl, trivial⟩⟩⟩
set_option maxRecDepth 20000 in
theorem m_X8_isUnseen (l : Launch) (fu : Nat) (x1 : Int32) (x2 : Int32) (x3 : Int32) (x4 : Int32) (h : Hp) {r : Int32 × Hp} (e : X8_isUnseen fu x1 x2 x3 x4 h = some r) : CT l yX8_isUnseen cX8_isUnseen 7 (some .boolean) 5 cwM (fun g => [rf g 0, .int x1, .int x2, .int x3, .int x4]) h (qZ cwM r.1 r.2) := by
  refine ct_of (QR := (fun r : Int32 × Hp => qZ cwM r.1 r.2)) (by decide +kernel) (fun g => ⟨rfl, Nat.le_of_ble_eq_true rfl⟩) e (fun x g hl C => ?_)
  unfold X8_isUnseen
  refine j_aload_n C dX8_isUnseen_0 rfl (n := 1) rfl ?_
  refine gf_X8_9 C 0 (cM_0 g _) rfl dX8_isUnseen_1 (n := 4) rfl ?_
  refine j_aload_n C dX8_isUnseen_4 rfl (n := 5) rfl ?_
  refine gf_X8_16 C 0 (cM_0 g _) rfl dX8_isUnseen_5 (n := 8) rfl ?_
  refine j_bnd (fun h2 q1 => ?_)
  refine j_cv C (run_S C mi_X8_copyRow lm_X8_64 st_X8_copyRow ⟨Nat.le_of_ble_eq_true rfl, Nat.le_of_ble_eq_true rfl⟩ (m_X8_copyRow_1_3 _ _ _ q1) rfl rfl rfl (Nat.le_of_ble_eq_true rfl) dX8_isUnseen_8) (n := 11) rfl ?_
  refine j_aload_n C dX8_isUnseen_11 rfl (n := 12) rfl ?_
  refine j_iload_n C dX8_isUnseen_12 rfl (n := 13) rfl ?_
  refine j_bnd (fun h4 q3 => ?_)
  refine j_cv C (run_V C mi_X8_minutes lm_X8_164 iv_X8_minutes ⟨Nat.le_of_ble_eq_true rfl, Nat.le_of_ble_eq_true rfl⟩ (m_X8_minutes _ _ _ _ q3) (cM_0 g _) rfl rfl rfl rfl (Nat.le_of_ble_eq_true rfl) dX8_isUnseen_13) (n := 16) rfl ?_
  refine j_aload_n C dX8_isUnseen_16 rfl (n := 17) rfl ?_
  refine j_iload_n C dX8_isUnseen_17 rfl (n := 18) rfl ?_
  refine j_iload_n C dX8_isUnseen_18 rfl (n := 19) rfl ?_
  refine j_bnd (fun h6 q5 => ?_)
  refine j_cv C (run_V C mi_X8_moves lm_X8_168 iv_X8_moves ⟨Nat.le_of_ble_eq_true rfl, Nat.le_of_ble_eq_true rfl⟩ (m_X8_moves _ _ _ _ _ q5) (cM_0 g _) rfl rfl rfl rfl (Nat.le_of_ble_eq_true rfl) dX8_isUnseen_19) (n := 22) rfl ?_
  exact j_to (j_X8_isUnseen_22 C _ _ _ _ _) ⟨rfl, ⟨rfl, ⟨rfl, trivial⟩⟩⟩
-- X8_unseen
set_option maxRecDepth 20000 in
theorem j_X8_unseen_60 {x : Fx} {g : Gl} (C : Ok x g RX8 cX8_unseen 5 (some .int)) (fu : Nat) : ∀ (n : Nat) (x1 : Int32) (x2 : Int32) (x3 : Int32) (x4 : Int32) (h : Hp), J x g cwM 5 6 (fun r : Int32 × Hp => qI cwM r.1 r.2) 60 [some (rf g 0), some (.int x1), some (.int x2), some (.int x3), some (.int x4)] [] h (X8_unseen_60 fu n x1 x2 x3 x4 h) := by
  intro n
  induction n with
  | zero =>
    intro x1 x2 x3 x4 h
    rw [X8_unseen_60]
    exact j_none
  | succ n ih =>
    intro x1 x2 x3 x4 h
    rw [X8_unseen_60]
    refine j_iload C dX8_unseen_60 rfl (n := 62) rfl ?_
    refine j_bipush C dX8_unseen_62 bp_60 (n := 64) rfl ?_
    refine j_icmp_gt C dX8_unseen_64 (tgt := 85) (n := 67) (by decide) rfl (fun q1 => ?_) (fun q1 => ?_)
    · refine j_iload C dX8_unseen_85 rfl (n := 87) rfl ?_
      refine j_bipush C dX8_unseen_87 bp_60 (n := 89) rfl ?_
      refine j_icmp_le C dX8_unseen_89 (tgt := 101) (n := 92) (by decide) rfl (fun q2 => ?_) (fun q2 => ?_)
      · refine j_iload C dX8_unseen_101 rfl (n := 103) rfl ?_
        exact j_retP C dX8_unseen_103
      · refine j_aload_n C dX8_unseen_92 rfl (n := 93) rfl ?_
        refine j_ldc C dX8_unseen_93 kc_X8_197 (n := 95) rfl ?_
        refine j_bnd (fun r4 q3 => ?_)
        refine j_ci C (run_V C mi_X8_finding lm_X8_80 iv_X8_finding ⟨Nat.le_of_ble_eq_true rfl, Nat.le_of_ble_eq_true rfl⟩ (m_X8_finding _ _ _ q3) (cM_0 g _) rfl rfl rfl rfl (Nat.le_of_ble_eq_true rfl) dX8_unseen_95) (n := 98) rfl ?_
        refine j_goto C dX8_unseen_98 (n := 103) (by decide) ?_
        exact j_retP C dX8_unseen_103
    · refine j_aload_n C dX8_unseen_67 rfl (n := 68) rfl ?_
      refine j_iload_n C dX8_unseen_68 rfl (n := 69) rfl ?_
      refine j_iload_n C dX8_unseen_69 rfl (n := 70) rfl ?_
      refine j_iload C dX8_unseen_70 rfl (n := 72) rfl ?_
      refine j_iload_n C dX8_unseen_72 rfl (n := 73) rfl ?_
      refine j_bnd (fun r7 q6 => ?_)
      refine j_cz C (run_V C mi_X8_isUnseen lm_X8_205 iv_X8_isUnseen ⟨Nat.le_of_ble_eq_true rfl, Nat.le_of_ble_eq_true rfl⟩ (m_X8_isUnseen _ _ _ _ _ _ _ q6) (cM_0 g _) rfl rfl rfl rfl (Nat.le_of_ble_eq_true rfl) dX8_unseen_73) (n := 76) rfl (fun b8 => ?_)
      refine j_if_ne C dX8_unseen_76 (tgt := 85) (n := 79) (by decide) rfl (fun q9 => ?_) (fun q9 => ?_)
      · refine j_iload C dX8_unseen_85 rfl (n := 87) rfl ?_
        refine j_bipush C dX8_unseen_87 bp_60 (n := 89) rfl ?_
        refine j_icmp_le C dX8_unseen_89 (tgt := 101) (n := 92) (by decide) rfl (fun q10 => ?_) (fun q10 => ?_)
        · refine j_iload C dX8_unseen_101 rfl (n := 103) rfl ?_
          exact j_retP C dX8_unseen_103
        · refine j_aload_n C dX8_unseen_92 rfl (n := 93) rfl ?_
          refine j_ldc C dX8_unseen_93 kc_X8_197 (n := 95) rfl ?_
          refine j_bnd (fun r12 q11 => ?_)
          refine j_ci C (run_V C mi_X8_finding lm_X8_80 iv_X8_finding ⟨Nat.le_of_ble_eq_true rfl, Nat.le_of_ble_eq_true rfl⟩ (m_X8_finding _ _ _ q11) (cM_0 g _) rfl rfl rfl rfl (Nat.le_of_ble_eq_true rfl) dX8_unseen_95) (n := 98) rfl ?_
          refine j_goto C dX8_unseen_98 (n := 103) (by decide) ?_
          exact j_retP C dX8_unseen_103
      · refine j_iinc C dX8_unseen_79 rfl ic_1 (Nat.le_of_ble_eq_true rfl) (n := 82) rfl ?_
        refine j_goto C dX8_unseen_82 (n := 60) (by decide) ?_
        exact j_to (ih _ _ _ _ _) ⟨rfl, ⟨rfl, ⟨rfl, ⟨rfl, ⟨rfl, trivial⟩⟩⟩⟩⟩
set_option maxRecDepth 20000 in
theorem m_X8_unseen (l : Launch) (fu : Nat) (x1 : Int32) (x2 : Int32) (h : Hp) {r : Int32 × Hp} (e : X8_unseen fu x1 x2 h = some r) : CT l yX8_unseen cX8_unseen 5 (some .int) 6 cwM (fun g => [rf g 0, .int x1, .int x2]) h (qI cwM r.1 r.2) := by
  refine ct_of (QR := (fun r : Int32 × Hp => qI cwM r.1 r.2)) (by decide +kernel) (fun g => ⟨rfl, Nat.le_of_ble_eq_true rfl⟩) e (fun x g hl C => ?_)
  unfold X8_unseen
  refine j_aload_n C dX8_unseen_0 rfl (n := 1) rfl ?_
  refine j_iload_n C dX8_unseen_1 rfl (n := 2) rfl ?_
  refine j_bnd (fun r2 q1 => ?_)
  refine j_cz C (run_V C mi_X8_isPart lm_X8_99 iv_X8_isPart ⟨Nat.le_of_ble_eq_true rfl, Nat.le_of_ble_eq_true rfl⟩ (m_X8_isPart _ _ _ q1) (cM_0 g _) rfl rfl rfl rfl (Nat.le_of_ble_eq_true rfl) dX8_unseen_2) (n := 5) rfl (fun b3 => ?_)
  refine j_if_eq C dX8_unseen_5 (tgt := 15) (n := 8) (by decide) rfl (fun q4 => ?_) (fun q4 => ?_)
  · refine j_aload_n C dX8_unseen_15 rfl (n := 16) rfl ?_
    refine j_ldc C dX8_unseen_16 kc_X8_63 (n := 18) rfl ?_
    refine j_bnd (fun r6 q5 => ?_)
    refine j_ci C (run_V C mi_X8_finding lm_X8_80 iv_X8_finding ⟨Nat.le_of_ble_eq_true rfl, Nat.le_of_ble_eq_true rfl⟩ (m_X8_finding _ _ _ q5) (cM_0 g _) rfl rfl rfl rfl (Nat.le_of_ble_eq_true rfl) dX8_unseen_18) (n := 21) rfl ?_
    exact j_retP C dX8_unseen_21
  · refine j_iload_n C dX8_unseen_8 rfl (n := 9) rfl ?_
    refine j_cz C (run_S C mi_X8_isPlace lm_X8_105 st_X8_isPlace ⟨Nat.le_of_ble_eq_true rfl, Nat.le_of_ble_eq_true rfl⟩ (m_X8_isPlace _ _ _) rfl rfl rfl (Nat.le_of_ble_eq_true rfl) dX8_unseen_9) (n := 12) rfl (fun b8 => ?_)
    refine j_if_ne C dX8_unseen_12 (tgt := 22) (n := 15) (by decide) rfl (fun q9 => ?_) (fun q9 => ?_)
    · refine j_aload_n C dX8_unseen_22 rfl (n := 23) rfl ?_
      refine j_iload_n C dX8_unseen_23 rfl (n := 24) rfl ?_
      refine j_iconst C dX8_unseen_24 ic_3 (n := 25) rfl ?_
      refine j_bnd (fun r11 q10 => ?_)
      refine j_ci C (run_V C mi_X8_partIs lm_X8_92 iv_X8_partIs ⟨Nat.le_of_ble_eq_true rfl, Nat.le_of_ble_eq_true rfl⟩ (m_X8_partIs _ _ _ _ q10) (cM_0 g _) rfl rfl rfl rfl (Nat.le_of_ble_eq_true rfl) dX8_unseen_25) (n := 28) rfl ?_
      refine j_iload_n C dX8_unseen_28 rfl (n := 29) rfl ?_
      refine j_icmp_eq C dX8_unseen_29 (tgt := 44) (n := 32) (by decide) rfl (fun q13 => ?_) (fun q13 => ?_)
      · refine j_aload_n C dX8_unseen_44 rfl (n := 45) rfl ?_
        refine j_ldc C dX8_unseen_45 kc_X8_150 (n := 47) rfl ?_
        refine j_bnd (fun r15 q14 => ?_)
        refine j_ci C (run_V C mi_X8_finding lm_X8_80 iv_X8_finding ⟨Nat.le_of_ble_eq_true rfl, Nat.le_of_ble_eq_true rfl⟩ (m_X8_finding _ _ _ q14) (cM_0 g _) rfl rfl rfl rfl (Nat.le_of_ble_eq_true rfl) dX8_unseen_47) (n := 50) rfl ?_
        exact j_retP C dX8_unseen_50
      · refine j_aload_n C dX8_unseen_32 rfl (n := 33) rfl ?_
        refine gf_X8_9 C 0 (cM_0 g _) rfl dX8_unseen_33 (n := 36) rfl ?_
        refine j_iconst C dX8_unseen_36 ic_0 (n := 37) rfl ?_
        refine j_ialdL C 1 (cM_1 g _) ir_0_117 dX8_unseen_37 (n := 38) rfl ?_
        refine j_sipush C dX8_unseen_38 sp_9000 (n := 41) rfl ?_
        refine j_icmp_le C dX8_unseen_41 (tgt := 51) (n := 44) (by decide) rfl (fun q17 => ?_) (fun q17 => ?_)
        · refine j_aload_n C dX8_unseen_51 rfl (n := 52) rfl ?_
          refine j_iload_n C dX8_unseen_52 rfl (n := 53) rfl ?_
          refine j_bnd (fun r19 q18 => ?_)
          refine j_ci C (run_V C mi_X8_whoCount lm_X8_202 iv_X8_whoCount ⟨Nat.le_of_ble_eq_true rfl, Nat.le_of_ble_eq_true rfl⟩ (m_X8_whoCount _ _ _ _ q18) (cM_0 g _) rfl rfl rfl rfl (Nat.le_of_ble_eq_true rfl) dX8_unseen_53) (n := 56) rfl ?_
          refine j_istore_n C dX8_unseen_56 (Nat.le_of_ble_eq_true rfl) (n := 57) rfl ?_
          refine j_iconst C dX8_unseen_57 ic_0 (n := 58) rfl ?_
          refine j_istore C dX8_unseen_58 (Nat.le_of_ble_eq_true rfl) (n := 60) rfl ?_
          exact j_to (j_X8_unseen_60 C _ _ _ _ _ _ _) ⟨rfl, ⟨rfl, ⟨rfl, ⟨rfl, ⟨rfl, trivial⟩⟩⟩⟩⟩
        · refine j_aload_n C dX8_unseen_44 rfl (n := 45) rfl ?_
          refine j_ldc C dX8_unseen_45 kc_X8_150 (n := 47) rfl ?_
          refine j_bnd (fun r22 q21 => ?_)
          refine j_ci C (run_V C mi_X8_finding lm_X8_80 iv_X8_finding ⟨Nat.le_of_ble_eq_true rfl, Nat.le_of_ble_eq_true rfl⟩ (m_X8_finding _ _ _ q21) (cM_0 g _) rfl rfl rfl rfl (Nat.le_of_ble_eq_true rfl) dX8_unseen_47) (n := 50) rfl ?_
          exact j_retP C dX8_unseen_50
    · refine j_aload_n C dX8_unseen_15 rfl (n := 16) rfl ?_
      refine j_ldc C dX8_unseen_16 kc_X8_63 (n := 18) rfl ?_
      refine j_bnd (fun r25 q24 => ?_)
      refine j_ci C (run_V C mi_X8_finding lm_X8_80 iv_X8_finding ⟨Nat.le_of_ble_eq_true rfl, Nat.le_of_ble_eq_true rfl⟩ (m_X8_finding _ _ _ q24) (cM_0 g _) rfl rfl rfl rfl (Nat.le_of_ble_eq_true rfl) dX8_unseen_18) (n := 21) rfl ?_
      exact j_retP C dX8_unseen_21
-- X8_hidden
set_option maxRecDepth 20000 in
theorem j_X8_hidden_37 {x : Fx} {g : Gl} (C : Ok x g RX8 cX8_hidden 4 (some .int)) (fu : Nat) : ∀ (n : Nat) (x1 : Int32) (x2 : Int32) (x3 : Int32) (h : Hp), J x g cwM 4 6 (fun r : Int32 × Hp => qI cwM r.1 r.2) 37 [some (rf g 0), some (.int x1), some (.int x2), some (.int x3)] [] h (X8_hidden_37 fu n x1 x2 x3 h) := by
  intro n
  induction n with
  | zero =>
    intro x1 x2 x3 h
    rw [X8_hidden_37]
    exact j_none
  | succ n ih =>
    intro x1 x2 x3 h
    rw [X8_hidden_37]
    refine j_iload_n C dX8_hidden_37 rfl (n := 38) rfl ?_
    refine j_aload_n C dX8_hidden_38 rfl (n := 39) rfl ?_
    refine gf_X8_9 C 0 (cM_0 g _) rfl dX8_hidden_39 (n := 42) rfl ?_
    refine j_iconst C dX8_hidden_42 ic_2 (n := 43) rfl ?_
    refine j_ialdL C 1 (cM_1 g _) ir_2_117 dX8_hidden_43 (n := 44) rfl ?_
    refine j_icmp_ge C dX8_hidden_44 (tgt := 88) (n := 47) (by decide) rfl (fun q1 => ?_) (fun q1 => ?_)
    · refine j_iload_n C dX8_hidden_88 rfl (n := 89) rfl ?_
      exact j_retP C dX8_hidden_89
    · refine j_iload_n C dX8_hidden_47 rfl (n := 48) rfl ?_
      refine j_aload_n C dX8_hidden_48 rfl (n := 49) rfl ?_
      refine j_iload_n C dX8_hidden_49 rfl (n := 50) rfl ?_
      refine j_iconst C dX8_hidden_50 ic_3 (n := 51) rfl ?_
      refine j_bnd (fun r3 q2 => ?_)
      refine j_ci C (run_V C mi_X8_partIs lm_X8_92 iv_X8_partIs ⟨Nat.le_of_ble_eq_true rfl, Nat.le_of_ble_eq_true rfl⟩ (m_X8_partIs _ _ _ _ q2) (cM_0 g _) rfl rfl rfl rfl (Nat.le_of_ble_eq_true rfl) dX8_hidden_51) (n := 54) rfl ?_
      refine j_iload_n C dX8_hidden_54 rfl (n := 55) rfl ?_
      refine j_icmp_eq C dX8_hidden_55 (tgt := 79) (n := 58) (by decide) rfl (fun q5 => ?_) (fun q5 => ?_)
      · refine j_iconst C dX8_hidden_79 ic_0 (n := 80) rfl ?_
        refine j_ior C dX8_hidden_80 (n := 81) rfl ?_
        refine j_istore_n C dX8_hidden_81 (Nat.le_of_ble_eq_true rfl) (n := 82) rfl ?_
        refine j_iinc C dX8_hidden_82 rfl ic_1 (Nat.le_of_ble_eq_true rfl) (n := 85) rfl ?_
        refine j_goto C dX8_hidden_85 (n := 37) (by decide) ?_
        exact j_to (ih _ _ _ _) ⟨rfl, ⟨rfl, ⟨rfl, ⟨rfl, trivial⟩⟩⟩⟩
      · refine j_aload_n C dX8_hidden_58 rfl (n := 59) rfl ?_
        refine j_iload_n C dX8_hidden_59 rfl (n := 60) rfl ?_
        refine j_iload_n C dX8_hidden_60 rfl (n := 61) rfl ?_
        refine j_iconst C dX8_hidden_61 ic_0 (n := 62) rfl ?_
        refine j_aload_n C dX8_hidden_62 rfl (n := 63) rfl ?_
        refine j_iload_n C dX8_hidden_63 rfl (n := 64) rfl ?_
        refine j_bnd (fun r7 q6 => ?_)
        refine j_ci C (run_V C mi_X8_whoCount lm_X8_202 iv_X8_whoCount ⟨Nat.le_of_ble_eq_true rfl, Nat.le_of_ble_eq_true rfl⟩ (m_X8_whoCount _ _ _ _ q6) (cM_0 g _) rfl rfl rfl rfl (Nat.le_of_ble_eq_true rfl) dX8_hidden_64) (n := 67) rfl ?_
        refine j_bnd (fun r10 q9 => ?_)
        refine j_cz C (run_V C mi_X8_isUnseen lm_X8_205 iv_X8_isUnseen ⟨Nat.le_of_ble_eq_true rfl, Nat.le_of_ble_eq_true rfl⟩ (m_X8_isUnseen _ _ _ _ _ _ _ q9) (cM_0 g _) rfl rfl rfl rfl (Nat.le_of_ble_eq_true rfl) dX8_hidden_67) (n := 70) rfl (fun b11 => ?_)
        refine j_if_eq C dX8_hidden_70 (tgt := 79) (n := 73) (by decide) rfl (fun q12 => ?_) (fun q12 => ?_)
        · refine j_iconst C dX8_hidden_79 ic_0 (n := 80) rfl ?_
          refine j_ior C dX8_hidden_80 (n := 81) rfl ?_
          refine j_istore_n C dX8_hidden_81 (Nat.le_of_ble_eq_true rfl) (n := 82) rfl ?_
          refine j_iinc C dX8_hidden_82 rfl ic_1 (Nat.le_of_ble_eq_true rfl) (n := 85) rfl ?_
          refine j_goto C dX8_hidden_85 (n := 37) (by decide) ?_
          exact j_to (ih _ _ _ _) ⟨rfl, ⟨rfl, ⟨rfl, ⟨rfl, trivial⟩⟩⟩⟩
        · refine j_iconst C dX8_hidden_73 ic_1 (n := 74) rfl ?_
          refine j_iload_n C dX8_hidden_74 rfl (n := 75) rfl ?_
          refine j_ishl C dX8_hidden_75 (n := 76) rfl ?_
          refine j_goto C dX8_hidden_76 (n := 80) (by decide) ?_
          refine j_ior C dX8_hidden_80 (n := 81) rfl ?_
          refine j_istore_n C dX8_hidden_81 (Nat.le_of_ble_eq_true rfl) (n := 82) rfl ?_
          refine j_iinc C dX8_hidden_82 rfl ic_1 (Nat.le_of_ble_eq_true rfl) (n := 85) rfl ?_
          refine j_goto C dX8_hidden_85 (n := 37) (by decide) ?_
          exact j_to (ih _ _ _ _) ⟨rfl, ⟨rfl, ⟨rfl, ⟨rfl, trivial⟩⟩⟩⟩
set_option maxRecDepth 20000 in
theorem m_X8_hidden (l : Launch) (fu : Nat) (x1 : Int32) (h : Hp) {r : Int32 × Hp} (e : X8_hidden fu x1 h = some r) : CT l yX8_hidden cX8_hidden 4 (some .int) 6 cwM (fun g => [rf g 0, .int x1]) h (qI cwM r.1 r.2) := by
  refine ct_of (QR := (fun r : Int32 × Hp => qI cwM r.1 r.2)) (by decide +kernel) (fun g => ⟨rfl, Nat.le_of_ble_eq_true rfl⟩) e (fun x g hl C => ?_)
  unfold X8_hidden
  refine j_iload_n C dX8_hidden_0 rfl (n := 1) rfl ?_
  refine j_cz C (run_S C mi_X8_isPlace lm_X8_105 st_X8_isPlace ⟨Nat.le_of_ble_eq_true rfl, Nat.le_of_ble_eq_true rfl⟩ (m_X8_isPlace _ _ _) rfl rfl rfl (Nat.le_of_ble_eq_true rfl) dX8_hidden_1) (n := 4) rfl (fun b1 => ?_)
  refine j_if_ne C dX8_hidden_4 (tgt := 14) (n := 7) (by decide) rfl (fun q2 => ?_) (fun q2 => ?_)
  · refine j_aload_n C dX8_hidden_14 rfl (n := 15) rfl ?_
    refine gf_X8_9 C 0 (cM_0 g _) rfl dX8_hidden_15 (n := 18) rfl ?_
    refine j_iconst C dX8_hidden_18 ic_0 (n := 19) rfl ?_
    refine j_ialdL C 1 (cM_1 g _) ir_0_117 dX8_hidden_19 (n := 20) rfl ?_
    refine j_sipush C dX8_hidden_20 sp_9000 (n := 23) rfl ?_
    refine j_icmp_le C dX8_hidden_23 (tgt := 33) (n := 26) (by decide) rfl (fun q3 => ?_) (fun q3 => ?_)
    · refine j_iconst C dX8_hidden_33 ic_0 (n := 34) rfl ?_
      refine j_istore_n C dX8_hidden_34 (Nat.le_of_ble_eq_true rfl) (n := 35) rfl ?_
      refine j_iconst C dX8_hidden_35 ic_0 (n := 36) rfl ?_
      refine j_istore_n C dX8_hidden_36 (Nat.le_of_ble_eq_true rfl) (n := 37) rfl ?_
      exact j_to (j_X8_hidden_37 C _ _ _ _ _ _) ⟨rfl, ⟨rfl, ⟨rfl, ⟨rfl, trivial⟩⟩⟩⟩
    · refine j_aload_n C dX8_hidden_26 rfl (n := 27) rfl ?_
      refine j_ldc C dX8_hidden_27 kc_X8_150 (n := 29) rfl ?_
      refine j_bnd (fun r5 q4 => ?_)
      refine j_ci C (run_V C mi_X8_finding lm_X8_80 iv_X8_finding ⟨Nat.le_of_ble_eq_true rfl, Nat.le_of_ble_eq_true rfl⟩ (m_X8_finding _ _ _ q4) (cM_0 g _) rfl rfl rfl rfl (Nat.le_of_ble_eq_true rfl) dX8_hidden_29) (n := 32) rfl ?_
      exact j_retP C dX8_hidden_32
  · refine j_aload_n C dX8_hidden_7 rfl (n := 8) rfl ?_
    refine j_ldc C dX8_hidden_8 kc_X8_63 (n := 10) rfl ?_
    refine j_bnd (fun r8 q7 => ?_)
    refine j_ci C (run_V C mi_X8_finding lm_X8_80 iv_X8_finding ⟨Nat.le_of_ble_eq_true rfl, Nat.le_of_ble_eq_true rfl⟩ (m_X8_finding _ _ _ q7) (cM_0 g _) rfl rfl rfl rfl (Nat.le_of_ble_eq_true rfl) dX8_hidden_10) (n := 13) rfl ?_
    exact j_retP C dX8_hidden_13
-- X8_empty
set_option maxRecDepth 20000 in
theorem j_X8_empty_4 {x : Fx} {g : Gl} (C : Ok x g RX8 cX8_empty 3 (some .int)) (fu : Nat) (h : Hp) : ∀ (n : Nat) (x1 : Int32) (x2 : Int32), J x g cwM 3 1 (fun r : Int32 => qI cwM r h) 4 [some (rf g 0), some (.int x1), some (.int x2)] [] h (X8_empty_4 fu h n x1 x2) := by
  intro n
  induction n with
  | zero =>
    intro x1 x2
    rw [X8_empty_4]
    exact j_none
  | succ n ih =>
    intro x1 x2
    rw [X8_empty_4]
    refine j_iload_n C dX8_empty_4 rfl (n := 5) rfl ?_
    refine j_aload_n C dX8_empty_5 rfl (n := 6) rfl ?_
    refine gf_X8_9 C 0 (cM_0 g _) rfl dX8_empty_6 (n := 9) rfl ?_
    refine j_iconst C dX8_empty_9 ic_3 (n := 10) rfl ?_
    refine j_ialdL C 1 (cM_1 g _) ir_3_117 dX8_empty_10 (n := 11) rfl ?_
    refine j_icmp_ge C dX8_empty_11 (tgt := 51) (n := 14) (by decide) rfl (fun q1 => ?_) (fun q1 => ?_)
    · refine j_iload_n C dX8_empty_51 rfl (n := 52) rfl ?_
      exact j_ret C dX8_empty_52
    · refine j_iload_n C dX8_empty_14 rfl (n := 15) rfl ?_
      refine j_aload_n C dX8_empty_15 rfl (n := 16) rfl ?_
      refine gf_X8_9 C 0 (cM_0 g _) rfl dX8_empty_16 (n := 19) rfl ?_
      refine j_bipush C dX8_empty_19 bp_73 (n := 21) rfl ?_
      refine j_iload_n C dX8_empty_21 rfl (n := 22) rfl ?_
      refine j_iadd C dX8_empty_22 (n := 23) rfl ?_
      refine j_iald C 1 (cM_1 g _) dX8_empty_23 (n := 24) rfl ?_
      refine j_bipush C dX8_empty_24 bp_6 (n := 26) rfl ?_
      refine j_aload_n C dX8_empty_26 rfl (n := 27) rfl ?_
      refine gf_X8_9 C 0 (cM_0 g _) rfl dX8_empty_27 (n := 30) rfl ?_
      refine j_iconst C dX8_empty_30 ic_1 (n := 31) rfl ?_
      refine j_ialdL C 1 (cM_1 g _) ir_1_117 dX8_empty_31 (n := 32) rfl ?_
      refine j_imul C dX8_empty_32 (n := 33) rfl ?_
      refine j_iadd C dX8_empty_33 (n := 34) rfl ?_
      refine j_aload_n C dX8_empty_34 rfl (n := 35) rfl ?_
      refine gf_X8_9 C 0 (cM_0 g _) rfl dX8_empty_35 (n := 38) rfl ?_
      refine j_iconst C dX8_empty_38 ic_0 (n := 39) rfl ?_
      refine j_ialdL C 1 (cM_1 g _) ir_0_117 dX8_empty_39 (n := 40) rfl ?_
      refine j_isub C dX8_empty_40 (n := 41) rfl ?_
      refine j_mmax C lm_X8_123 (Nat.le_of_ble_eq_true rfl) (Nat.le_of_ble_eq_true rfl) dX8_empty_41 (n := 44) rfl ?_
      refine j_istore_n C dX8_empty_44 (Nat.le_of_ble_eq_true rfl) (n := 45) rfl ?_
      refine j_iinc C dX8_empty_45 rfl ic_1 (Nat.le_of_ble_eq_true rfl) (n := 48) rfl ?_
      refine j_goto C dX8_empty_48 (n := 4) (by decide) ?_
      exact j_to (ih _ _) ⟨rfl, ⟨rfl, ⟨rfl, trivial⟩⟩⟩
set_option maxRecDepth 20000 in
theorem m_X8_empty (l : Launch) (fu : Nat) (h : Hp) {r : Int32} (e : X8_empty fu h = some r) : CT l yX8_empty cX8_empty 3 (some .int) 1 cwM (fun g => [rf g 0]) h (qI cwM r h) := by
  refine ct_of (QR := (fun r : Int32 => qI cwM r h)) (by decide +kernel) (fun g => ⟨rfl, Nat.le_of_ble_eq_true rfl⟩) e (fun x g hl C => ?_)
  unfold X8_empty
  refine j_iconst C dX8_empty_0 ic_0 (n := 1) rfl ?_
  refine j_istore_n C dX8_empty_1 (Nat.le_of_ble_eq_true rfl) (n := 2) rfl ?_
  refine j_iconst C dX8_empty_2 ic_0 (n := 3) rfl ?_
  refine j_istore_n C dX8_empty_3 (Nat.le_of_ble_eq_true rfl) (n := 4) rfl ?_
  exact j_to (j_X8_empty_4 C _ _ _ _ _) ⟨rfl, ⟨rfl, ⟨rfl, trivial⟩⟩⟩
-- X8_chances
set_option maxRecDepth 20000 in
theorem j_X8_chances_4 {x : Fx} {g : Gl} (C : Ok x g RX8 cX8_chances 3 (some .int)) (fu : Nat) (h : Hp) : ∀ (n : Nat) (x1 : Int32) (x2 : Int32), J x g cwM 3 0 (fun r : Int32 => qI cwM r h) 4 [some (rf g 0), some (.int x1), some (.int x2)] [] h (X8_chances_4 fu h n x1 x2) := by
  intro n
  induction n with
  | zero =>
    intro x1 x2
    rw [X8_chances_4]
    exact j_none
  | succ n ih =>
    intro x1 x2
    rw [X8_chances_4]
    refine j_iload_n C dX8_chances_4 rfl (n := 5) rfl ?_
    refine j_bipush C dX8_chances_5 bp_6 (n := 7) rfl ?_
    refine j_icmp_ge C dX8_chances_7 (tgt := 28) (n := 10) (by decide) rfl (fun q1 => ?_) (fun q1 => ?_)
    · refine j_iload_n C dX8_chances_28 rfl (n := 29) rfl ?_
      exact j_ret C dX8_chances_29
    · refine j_iload_n C dX8_chances_10 rfl (n := 11) rfl ?_
      refine j_aload_n C dX8_chances_11 rfl (n := 12) rfl ?_
      refine gf_X8_9 C 0 (cM_0 g _) rfl dX8_chances_12 (n := 15) rfl ?_
      refine j_bipush C dX8_chances_15 bp_21 (n := 17) rfl ?_
      refine j_iload_n C dX8_chances_17 rfl (n := 18) rfl ?_
      refine j_iadd C dX8_chances_18 (n := 19) rfl ?_
      refine j_iald C 1 (cM_1 g _) dX8_chances_19 (n := 20) rfl ?_
      refine j_iadd C dX8_chances_20 (n := 21) rfl ?_
      refine j_istore_n C dX8_chances_21 (Nat.le_of_ble_eq_true rfl) (n := 22) rfl ?_
      refine j_iinc C dX8_chances_22 rfl ic_1 (Nat.le_of_ble_eq_true rfl) (n := 25) rfl ?_
      refine j_goto C dX8_chances_25 (n := 4) (by decide) ?_
      exact j_to (ih _ _) ⟨rfl, ⟨rfl, ⟨rfl, trivial⟩⟩⟩
set_option maxRecDepth 20000 in
theorem m_X8_chances (l : Launch) (fu : Nat) (h : Hp) {r : Int32} (e : X8_chances fu h = some r) : CT l yX8_chances cX8_chances 3 (some .int) 0 cwM (fun g => [rf g 0]) h (qI cwM r h) := by
  refine ct_of (QR := (fun r : Int32 => qI cwM r h)) (by decide +kernel) (fun g => ⟨rfl, Nat.le_of_ble_eq_true rfl⟩) e (fun x g hl C => ?_)
  unfold X8_chances
  refine j_iconst C dX8_chances_0 ic_0 (n := 1) rfl ?_
  refine j_istore_n C dX8_chances_1 (Nat.le_of_ble_eq_true rfl) (n := 2) rfl ?_
  refine j_iconst C dX8_chances_2 ic_0 (n := 3) rfl ?_
  refine j_istore_n C dX8_chances_3 (Nat.le_of_ble_eq_true rfl) (n := 4) rfl ?_
  exact j_to (j_X8_chances_4 C _ _ _ _ _) ⟨rfl, ⟨rfl, ⟨rfl, trivial⟩⟩⟩
-- X8_onTheWhole
set_option maxRecDepth 20000 in
theorem j_X8_onTheWhole_4 {x : Fx} {g : Gl} (C : Ok x g RX8 cX8_onTheWhole 4 (some .int)) (fu : Nat) (h : Hp) : ∀ (n : Nat) (x1 : Int32) (x2 : Int32) (x3 : Int32), J x g cwM 4 2 (fun r : Int32 => qI cwM r h) 4 [some (rf g 0), some (.int x1), some (.int x2), some (.int x3)] [] h (X8_onTheWhole_4 fu h n x1 x2 x3) := by
  intro n
  induction n with
  | zero =>
    intro x1 x2 x3
    rw [X8_onTheWhole_4]
    exact j_none
  | succ n ih =>
    intro x1 x2 x3
    rw [X8_onTheWhole_4]
    refine j_iload_n C dX8_onTheWhole_4 rfl (n := 5) rfl ?_
    refine j_bipush C dX8_onTheWhole_5 bp_6 (n := 7) rfl ?_
    refine j_icmp_ge C dX8_onTheWhole_7 (tgt := 43) (n := 10) (by decide) rfl (fun q1 => ?_) (fun q1 => ?_)
    · refine j_iload_n C dX8_onTheWhole_43 rfl (n := 44) rfl ?_
      exact j_ret C dX8_onTheWhole_44
    · refine j_iload_n C dX8_onTheWhole_10 rfl (n := 11) rfl ?_
      refine j_aload_n C dX8_onTheWhole_11 rfl (n := 12) rfl ?_
      refine gf_X8_9 C 0 (cM_0 g _) rfl dX8_onTheWhole_12 (n := 15) rfl ?_
      refine j_bipush C dX8_onTheWhole_15 bp_21 (n := 17) rfl ?_
      refine j_iload_n C dX8_onTheWhole_17 rfl (n := 18) rfl ?_
      refine j_iadd C dX8_onTheWhole_18 (n := 19) rfl ?_
      refine j_iald C 1 (cM_1 g _) dX8_onTheWhole_19 (n := 20) rfl ?_
      refine j_iconst C dX8_onTheWhole_20 ic_1 (n := 21) rfl ?_
      refine j_iload_n C dX8_onTheWhole_21 rfl (n := 22) rfl ?_
      refine j_aload_n C dX8_onTheWhole_22 rfl (n := 23) rfl ?_
      refine gf_X8_9 C 0 (cM_0 g _) rfl dX8_onTheWhole_23 (n := 26) rfl ?_
      refine j_bipush C dX8_onTheWhole_26 bp_15 (n := 28) rfl ?_
      refine j_iload_n C dX8_onTheWhole_28 rfl (n := 29) rfl ?_
      refine j_iadd C dX8_onTheWhole_29 (n := 30) rfl ?_
      refine j_iald C 1 (cM_1 g _) dX8_onTheWhole_30 (n := 31) rfl ?_
      refine j_bnd (fun r3 q2 => ?_)
      refine j_ci C (run_S C mi_X8_likeBy lm_X8_128 st_X8_likeBy ⟨Nat.le_of_ble_eq_true rfl, Nat.le_of_ble_eq_true rfl⟩ (m_X8_likeBy _ _ _ _ _ _ q2) rfl rfl rfl (Nat.le_of_ble_eq_true rfl) dX8_onTheWhole_31) (n := 34) rfl ?_
      refine j_imul C dX8_onTheWhole_34 (n := 35) rfl ?_
      refine j_iadd C dX8_onTheWhole_35 (n := 36) rfl ?_
      refine j_istore_n C dX8_onTheWhole_36 (Nat.le_of_ble_eq_true rfl) (n := 37) rfl ?_
      refine j_iinc C dX8_onTheWhole_37 rfl ic_1 (Nat.le_of_ble_eq_true rfl) (n := 40) rfl ?_
      refine j_goto C dX8_onTheWhole_40 (n := 4) (by decide) ?_
      exact j_to (ih _ _ _) ⟨rfl, ⟨rfl, ⟨rfl, ⟨rfl, trivial⟩⟩⟩⟩
set_option maxRecDepth 20000 in
theorem m_X8_onTheWhole (l : Launch) (fu : Nat) (x1 : Int32) (h : Hp) {r : Int32} (e : X8_onTheWhole fu x1 h = some r) : CT l yX8_onTheWhole cX8_onTheWhole 4 (some .int) 2 cwM (fun g => [rf g 0, .int x1]) h (qI cwM r h) := by
  refine ct_of (QR := (fun r : Int32 => qI cwM r h)) (by decide +kernel) (fun g => ⟨rfl, Nat.le_of_ble_eq_true rfl⟩) e (fun x g hl C => ?_)
  unfold X8_onTheWhole
  refine j_iconst C dX8_onTheWhole_0 ic_0 (n := 1) rfl ?_
  refine j_istore_n C dX8_onTheWhole_1 (Nat.le_of_ble_eq_true rfl) (n := 2) rfl ?_
  refine j_iconst C dX8_onTheWhole_2 ic_0 (n := 3) rfl ?_
  refine j_istore_n C dX8_onTheWhole_3 (Nat.le_of_ble_eq_true rfl) (n := 4) rfl ?_
  exact j_to (j_X8_onTheWhole_4 C _ _ _ _ _ _) ⟨rfl, ⟨rfl, ⟨rfl, ⟨rfl, trivial⟩⟩⟩⟩
-- X8_common
set_option maxRecDepth 20000 in
theorem j_X8_common_4 {x : Fx} {g : Gl} (C : Ok x g RX8 cX8_common 5 (some .int)) (fu : Nat) (h : Hp) : ∀ (n : Nat) (x2 : Int32) (x3 : Int32), J x g cwM 5 0 (fun r : Int32 => qI cwM r h) 4 [none, none, some (.int x2), some (.int x3)] [] h (X8_common_4 fu n x2 x3) := by
  intro n
  induction n with
  | zero =>
    intro x2 x3
    rw [X8_common_4]
    exact j_none
  | succ n ih =>
    intro x2 x3
    rw [X8_common_4]
    refine j_iload_n C dX8_common_4 rfl (n := 5) rfl ?_
    refine j_if_eq C dX8_common_5 (tgt := 21) (n := 8) (by decide) rfl (fun q1 => ?_) (fun q1 => ?_)
    · refine j_iload_n C dX8_common_21 rfl (n := 22) rfl ?_
      exact j_ret C dX8_common_22
    · refine j_iload_n C dX8_common_8 rfl (n := 9) rfl ?_
      refine j_iload_n C dX8_common_9 rfl (n := 10) rfl ?_
      refine j_irem C dX8_common_10 (n := 11) rfl ?_
      refine j_istore C dX8_common_11 (Nat.le_of_ble_eq_true rfl) (n := 13) rfl ?_
      refine j_iload_n C dX8_common_13 rfl (n := 14) rfl ?_
      refine j_istore_n C dX8_common_14 (Nat.le_of_ble_eq_true rfl) (n := 15) rfl ?_
      refine j_iload C dX8_common_15 rfl (n := 17) rfl ?_
      refine j_istore_n C dX8_common_17 (Nat.le_of_ble_eq_true rfl) (n := 18) rfl ?_
      refine j_goto C dX8_common_18 (n := 4) (by decide) ?_
      exact j_to (ih _ _) ⟨rfl, ⟨rfl, trivial⟩⟩
set_option maxRecDepth 20000 in
theorem m_X8_common (l : Launch) (fu : Nat) (x0 : Int32) (x1 : Int32) (h : Hp) {r : Int32} (e : X8_common fu x0 x1 = some r) : CT l yX8_common cX8_common 5 (some .int) 0 cwM (fun g => [.int x0, .int x1]) h (qI cwM r h) := by
  refine ct_of (QR := (fun r : Int32 => qI cwM r h)) (by decide +kernel) (fun g => ⟨rfl, Nat.le_of_ble_eq_true rfl⟩) e (fun x g hl C => ?_)
  unfold X8_common
  refine j_iload_n C dX8_common_0 rfl (n := 1) rfl ?_
  refine j_istore_n C dX8_common_1 (Nat.le_of_ble_eq_true rfl) (n := 2) rfl ?_
  refine j_iload_n C dX8_common_2 rfl (n := 3) rfl ?_
  refine j_istore_n C dX8_common_3 (Nat.le_of_ble_eq_true rfl) (n := 4) rfl ?_
  exact j_to (j_X8_common_4 C _ _ _ _ _) ⟨rfl, ⟨rfl, trivial⟩⟩
-- X8_worth
set_option maxRecDepth 20000 in
theorem m_X8_worth (l : Launch) (fu : Nat) (x1 : Int32) (x2 : Int32) (h : Hp) {r : Int32 × Hp} (e : X8_worth fu x1 x2 h = some r) : CT l yX8_worth cX8_worth 6 (some .int) 3 cwM (fun g => [rf g 0, .int x1, .int x2]) h (qI cwM r.1 r.2) := by
  refine ct_of (QR := (fun r : Int32 × Hp => qI cwM r.1 r.2)) (by decide +kernel) (fun g => ⟨rfl, Nat.le_of_ble_eq_true rfl⟩) e (fun x g hl C => ?_)
  unfold X8_worth
  refine j_iload_n C dX8_worth_0 rfl (n := 1) rfl ?_
  refine j_cz C (run_S C mi_X8_isLooks lm_X8_102 st_X8_isLooks ⟨Nat.le_of_ble_eq_true rfl, Nat.le_of_ble_eq_true rfl⟩ (m_X8_isLooks _ _ _) rfl rfl rfl (Nat.le_of_ble_eq_true rfl) dX8_worth_1) (n := 4) rfl (fun b1 => ?_)
  refine j_if_eq C dX8_worth_4 (tgt := 16) (n := 7) (by decide) rfl (fun q2 => ?_) (fun q2 => ?_)
  · refine j_aload_n C dX8_worth_16 rfl (n := 17) rfl ?_
    refine j_ldc C dX8_worth_17 kc_X8_63 (n := 19) rfl ?_
    refine j_bnd (fun r4 q3 => ?_)
    refine j_ci C (run_V C mi_X8_finding lm_X8_80 iv_X8_finding ⟨Nat.le_of_ble_eq_true rfl, Nat.le_of_ble_eq_true rfl⟩ (m_X8_finding _ _ _ q3) (cM_0 g _) rfl rfl rfl rfl (Nat.le_of_ble_eq_true rfl) dX8_worth_19) (n := 22) rfl ?_
    exact j_retP C dX8_worth_22
  · refine j_iload_n C dX8_worth_7 rfl (n := 8) rfl ?_
    refine j_iconst C dX8_worth_8 ic_0 (n := 9) rfl ?_
    refine j_iconst C dX8_worth_9 ic_1 (n := 10) rfl ?_
    refine j_cz C (run_S C mi_X8_within lm_X8_68 st_X8_within ⟨Nat.le_of_ble_eq_true rfl, Nat.le_of_ble_eq_true rfl⟩ (m_X8_within _ _ _ _ _) rfl rfl rfl (Nat.le_of_ble_eq_true rfl) dX8_worth_10) (n := 13) rfl (fun b6 => ?_)
    refine j_if_ne C dX8_worth_13 (tgt := 23) (n := 16) (by decide) rfl (fun q7 => ?_) (fun q7 => ?_)
    · refine j_aload_n C dX8_worth_23 rfl (n := 24) rfl ?_
      refine j_bnd (fun r9 q8 => ?_)
      refine j_ci C (run_V C mi_X8_chances lm_X8_209 iv_X8_chances ⟨Nat.le_of_ble_eq_true rfl, Nat.le_of_ble_eq_true rfl⟩ (m_X8_chances _ _ _ q8) (cM_0 g _) rfl rfl rfl rfl (Nat.le_of_ble_eq_true rfl) dX8_worth_24) (n := 27) rfl ?_
      refine j_istore_n C dX8_worth_27 (Nat.le_of_ble_eq_true rfl) (n := 28) rfl ?_
      refine j_iload_n C dX8_worth_28 rfl (n := 29) rfl ?_
      refine j_if_ne C dX8_worth_29 (tgt := 39) (n := 32) (by decide) rfl (fun q11 => ?_) (fun q11 => ?_)
      · refine j_aload_n C dX8_worth_39 rfl (n := 40) rfl ?_
        refine j_iload_n C dX8_worth_40 rfl (n := 41) rfl ?_
        refine j_bnd (fun r13 q12 => ?_)
        refine j_ci C (run_V C mi_X8_onTheWhole lm_X8_212 iv_X8_onTheWhole ⟨Nat.le_of_ble_eq_true rfl, Nat.le_of_ble_eq_true rfl⟩ (m_X8_onTheWhole _ _ _ _ q12) (cM_0 g _) rfl rfl rfl rfl (Nat.le_of_ble_eq_true rfl) dX8_worth_41) (n := 44) rfl ?_
        refine j_istore C dX8_worth_44 (Nat.le_of_ble_eq_true rfl) (n := 46) rfl ?_
        refine j_iload C dX8_worth_46 rfl (n := 48) rfl ?_
        refine j_iload_n C dX8_worth_48 rfl (n := 49) rfl ?_
        refine j_bnd (fun r16 q15 => ?_)
        refine j_ci C (run_S C mi_X8_common lm_X8_215 st_X8_common ⟨Nat.le_of_ble_eq_true rfl, Nat.le_of_ble_eq_true rfl⟩ (m_X8_common _ _ _ _ _ q15) rfl rfl rfl (Nat.le_of_ble_eq_true rfl) dX8_worth_49) (n := 52) rfl ?_
        refine j_istore C dX8_worth_52 (Nat.le_of_ble_eq_true rfl) (n := 54) rfl ?_
        refine j_iload_n C dX8_worth_54 rfl (n := 55) rfl ?_
        refine j_if_ne C dX8_worth_55 (tgt := 66) (n := 58) (by decide) rfl (fun q18 => ?_) (fun q18 => ?_)
        · refine j_iload_n C dX8_worth_66 rfl (n := 67) rfl ?_
          refine j_iload C dX8_worth_67 rfl (n := 69) rfl ?_
          refine j_idiv C dX8_worth_69 (n := 70) rfl ?_
          exact j_retP C dX8_worth_70
        · refine j_iload C dX8_worth_58 rfl (n := 60) rfl ?_
          refine j_iload C dX8_worth_60 rfl (n := 62) rfl ?_
          refine j_idiv C dX8_worth_62 (n := 63) rfl ?_
          refine j_goto C dX8_worth_63 (n := 70) (by decide) ?_
          exact j_retP C dX8_worth_70
      · refine j_aload_n C dX8_worth_32 rfl (n := 33) rfl ?_
        refine j_ldc C dX8_worth_33 kc_X8_197 (n := 35) rfl ?_
        refine j_bnd (fun r20 q19 => ?_)
        refine j_ci C (run_V C mi_X8_finding lm_X8_80 iv_X8_finding ⟨Nat.le_of_ble_eq_true rfl, Nat.le_of_ble_eq_true rfl⟩ (m_X8_finding _ _ _ q19) (cM_0 g _) rfl rfl rfl rfl (Nat.le_of_ble_eq_true rfl) dX8_worth_35) (n := 38) rfl ?_
        exact j_retP C dX8_worth_38
    · refine j_aload_n C dX8_worth_16 rfl (n := 17) rfl ?_
      refine j_ldc C dX8_worth_17 kc_X8_63 (n := 19) rfl ?_
      refine j_bnd (fun r23 q22 => ?_)
      refine j_ci C (run_V C mi_X8_finding lm_X8_80 iv_X8_finding ⟨Nat.le_of_ble_eq_true rfl, Nat.le_of_ble_eq_true rfl⟩ (m_X8_finding _ _ _ q22) (cM_0 g _) rfl rfl rfl rfl (Nat.le_of_ble_eq_true rfl) dX8_worth_19) (n := 22) rfl ?_
      exact j_retP C dX8_worth_22
-- X8_next
set_option maxRecDepth 20000 in
theorem j_X8_next_18 {x : Fx} {g : Gl} (C : Ok x g RX8 cX8_next 3 (some .int)) (fu : Nat) : ∀ (n : Nat) (x1 : Int32) (x2 : Int32) (h : Hp), J x g cwM 3 3 (fun r : Int32 × Hp => qI cwM r.1 r.2) 18 [some (rf g 0), some (.int x1), some (.int x2)] [] h (X8_next_18 fu n x1 x2 h) := by
  intro n
  induction n with
  | zero =>
    intro x1 x2 h
    rw [X8_next_18]
    exact j_none
  | succ n ih =>
    intro x1 x2 h
    rw [X8_next_18]
    refine j_iload_n C dX8_next_18 rfl (n := 19) rfl ?_
    refine j_sipush C dX8_next_19 sp_256 (n := 22) rfl ?_
    refine j_icmp_ge C dX8_next_22 (tgt := 50) (n := 25) (by decide) rfl (fun q1 => ?_) (fun q1 => ?_)
    · refine j_iload_n C dX8_next_50 rfl (n := 51) rfl ?_
      exact j_retP C dX8_next_51
    · refine j_aload_n C dX8_next_25 rfl (n := 26) rfl ?_
      refine j_iload_n C dX8_next_26 rfl (n := 27) rfl ?_
      refine j_bnd (fun r3 q2 => ?_)
      refine j_ci C (run_V C mi_X8_onTheWhole lm_X8_212 iv_X8_onTheWhole ⟨Nat.le_of_ble_eq_true rfl, Nat.le_of_ble_eq_true rfl⟩ (m_X8_onTheWhole _ _ _ _ q2) (cM_0 g _) rfl rfl rfl rfl (Nat.le_of_ble_eq_true rfl) dX8_next_27) (n := 30) rfl ?_
      refine j_aload_n C dX8_next_30 rfl (n := 31) rfl ?_
      refine j_iload_n C dX8_next_31 rfl (n := 32) rfl ?_
      refine j_bnd (fun r6 q5 => ?_)
      refine j_ci C (run_V C mi_X8_onTheWhole lm_X8_212 iv_X8_onTheWhole ⟨Nat.le_of_ble_eq_true rfl, Nat.le_of_ble_eq_true rfl⟩ (m_X8_onTheWhole _ _ _ _ q5) (cM_0 g _) rfl rfl rfl rfl (Nat.le_of_ble_eq_true rfl) dX8_next_32) (n := 35) rfl ?_
      refine j_icmp_le C dX8_next_35 (tgt := 42) (n := 38) (by decide) rfl (fun q8 => ?_) (fun q8 => ?_)
      · refine j_iload_n C dX8_next_42 rfl (n := 43) rfl ?_
        refine j_istore_n C dX8_next_43 (Nat.le_of_ble_eq_true rfl) (n := 44) rfl ?_
        refine j_iinc C dX8_next_44 rfl ic_1 (Nat.le_of_ble_eq_true rfl) (n := 47) rfl ?_
        refine j_goto C dX8_next_47 (n := 18) (by decide) ?_
        exact j_to (ih _ _ _) ⟨rfl, ⟨rfl, ⟨rfl, trivial⟩⟩⟩
      · refine j_iload_n C dX8_next_38 rfl (n := 39) rfl ?_
        refine j_goto C dX8_next_39 (n := 43) (by decide) ?_
        refine j_istore_n C dX8_next_43 (Nat.le_of_ble_eq_true rfl) (n := 44) rfl ?_
        refine j_iinc C dX8_next_44 rfl ic_1 (Nat.le_of_ble_eq_true rfl) (n := 47) rfl ?_
        refine j_goto C dX8_next_47 (n := 18) (by decide) ?_
        exact j_to (ih _ _ _) ⟨rfl, ⟨rfl, ⟨rfl, trivial⟩⟩⟩
set_option maxRecDepth 20000 in
theorem m_X8_next (l : Launch) (fu : Nat) (h : Hp) {r : Int32 × Hp} (e : X8_next fu h = some r) : CT l yX8_next cX8_next 3 (some .int) 3 cwM (fun g => [rf g 0]) h (qI cwM r.1 r.2) := by
  refine ct_of (QR := (fun r : Int32 × Hp => qI cwM r.1 r.2)) (by decide +kernel) (fun g => ⟨rfl, Nat.le_of_ble_eq_true rfl⟩) e (fun x g hl C => ?_)
  unfold X8_next
  refine j_aload_n C dX8_next_0 rfl (n := 1) rfl ?_
  refine j_bnd (fun r2 q1 => ?_)
  refine j_ci C (run_V C mi_X8_chances lm_X8_209 iv_X8_chances ⟨Nat.le_of_ble_eq_true rfl, Nat.le_of_ble_eq_true rfl⟩ (m_X8_chances _ _ _ q1) (cM_0 g _) rfl rfl rfl rfl (Nat.le_of_ble_eq_true rfl) dX8_next_1) (n := 4) rfl ?_
  refine j_if_ne C dX8_next_4 (tgt := 14) (n := 7) (by decide) rfl (fun q4 => ?_) (fun q4 => ?_)
  · refine j_iconst C dX8_next_14 ic_0 (n := 15) rfl ?_
    refine j_istore_n C dX8_next_15 (Nat.le_of_ble_eq_true rfl) (n := 16) rfl ?_
    refine j_iconst C dX8_next_16 ic_1 (n := 17) rfl ?_
    refine j_istore_n C dX8_next_17 (Nat.le_of_ble_eq_true rfl) (n := 18) rfl ?_
    exact j_to (j_X8_next_18 C _ _ _ _ _) ⟨rfl, ⟨rfl, ⟨rfl, trivial⟩⟩⟩
  · refine j_aload_n C dX8_next_7 rfl (n := 8) rfl ?_
    refine j_ldc C dX8_next_8 kc_X8_197 (n := 10) rfl ?_
    refine j_bnd (fun r6 q5 => ?_)
    refine j_ci C (run_V C mi_X8_finding lm_X8_80 iv_X8_finding ⟨Nat.le_of_ble_eq_true rfl, Nat.le_of_ble_eq_true rfl⟩ (m_X8_finding _ _ _ q5) (cM_0 g _) rfl rfl rfl rfl (Nat.le_of_ble_eq_true rfl) dX8_next_10) (n := 13) rfl ?_
    exact j_retP C dX8_next_13
-- X8_cutOf
set_option maxRecDepth 20000 in
theorem m_X8_cutOf (l : Launch) (fu : Nat) (x1 : Int32) (x2 : Int32) (h : Hp) {r : Int32} (e : X8_cutOf fu x1 x2 h = some r) : CT l yX8_cutOf cX8_cutOf 3 (some .int) 2 cwM (fun g => [rf g 0, .int x1, .int x2]) h (qI cwM r h) := by
  refine ct_of (QR := (fun r : Int32 => qI cwM r h)) (by decide +kernel) (fun g => ⟨rfl, Nat.le_of_ble_eq_true rfl⟩) e (fun x g hl C => ?_)
  unfold X8_cutOf
  refine j_aload_n C dX8_cutOf_0 rfl (n := 1) rfl ?_
  refine j_iload_n C dX8_cutOf_1 rfl (n := 2) rfl ?_
  refine j_iconst C dX8_cutOf_2 ic_1 (n := 3) rfl ?_
  refine j_bnd (fun r2 q1 => ?_)
  refine j_ci C (run_V C mi_X8_partIs lm_X8_92 iv_X8_partIs ⟨Nat.le_of_ble_eq_true rfl, Nat.le_of_ble_eq_true rfl⟩ (m_X8_partIs _ _ _ _ q1) (cM_0 g _) rfl rfl rfl rfl (Nat.le_of_ble_eq_true rfl) dX8_cutOf_3) (n := 6) rfl ?_
  refine j_aload_n C dX8_cutOf_6 rfl (n := 7) rfl ?_
  refine gf_X8_9 C 0 (cM_0 g _) rfl dX8_cutOf_7 (n := 10) rfl ?_
  refine j_bipush C dX8_cutOf_10 bp_15 (n := 12) rfl ?_
  refine j_iload_n C dX8_cutOf_12 rfl (n := 13) rfl ?_
  refine j_iadd C dX8_cutOf_13 (n := 14) rfl ?_
  refine j_iald C 1 (cM_1 g _) dX8_cutOf_14 (n := 15) rfl ?_
  refine j_ixor C dX8_cutOf_15 (n := 16) rfl ?_
  refine j_bnd (fun r5 q4 => ?_)
  refine j_ci C (run_S C mi_X8_bits lm_X8_117 st_X8_bits ⟨Nat.le_of_ble_eq_true rfl, Nat.le_of_ble_eq_true rfl⟩ (m_X8_bits _ _ _ _ q4) rfl rfl rfl (Nat.le_of_ble_eq_true rfl) dX8_cutOf_16) (n := 19) rfl ?_
  refine j_aload_n C dX8_cutOf_19 rfl (n := 20) rfl ?_
  refine j_iload_n C dX8_cutOf_20 rfl (n := 21) rfl ?_
  refine j_iconst C dX8_cutOf_21 ic_2 (n := 22) rfl ?_
  refine j_bnd (fun r8 q7 => ?_)
  refine j_ci C (run_V C mi_X8_partIs lm_X8_92 iv_X8_partIs ⟨Nat.le_of_ble_eq_true rfl, Nat.le_of_ble_eq_true rfl⟩ (m_X8_partIs _ _ _ _ q7) (cM_0 g _) rfl rfl rfl rfl (Nat.le_of_ble_eq_true rfl) dX8_cutOf_22) (n := 25) rfl ?_
  refine j_imul C dX8_cutOf_25 (n := 26) rfl ?_
  exact j_ret C dX8_cutOf_26
-- X8_mouldOf
set_option maxRecDepth 20000 in
theorem j_X8_mouldOf_35 {x : Fx} {g : Gl} (C : Ok x g RX8 cX8_mouldOf 5 (some .int)) (fu : Nat) : ∀ (n : Nat) (x1 : Int32) (x2 : Int32) (x3 : Int32) (x4 : Int32) (h : Hp), J x g cwM 5 3 (fun r : Int32 × Hp => qI cwM r.1 r.2) 35 [some (rf g 0), some (.int x1), some (.int x2), some (.int x3), some (.int x4)] [] h (X8_mouldOf_35 fu n x1 x2 x3 x4 h) := by
  intro n
  induction n with
  | zero =>
    intro x1 x2 x3 x4 h
    rw [X8_mouldOf_35]
    exact j_none
  | succ n ih =>
    intro x1 x2 x3 x4 h
    rw [X8_mouldOf_35]
    refine j_iload C dX8_mouldOf_35 rfl (n := 37) rfl ?_
    refine j_aload_n C dX8_mouldOf_37 rfl (n := 38) rfl ?_
    refine gf_X8_9 C 0 (cM_0 g _) rfl dX8_mouldOf_38 (n := 41) rfl ?_
    refine j_iconst C dX8_mouldOf_41 ic_2 (n := 42) rfl ?_
    refine j_ialdL C 1 (cM_1 g _) ir_2_117 dX8_mouldOf_42 (n := 43) rfl ?_
    refine j_icmp_ge C dX8_mouldOf_43 (tgt := 75) (n := 46) (by decide) rfl (fun q1 => ?_) (fun q1 => ?_)
    · refine j_iload_n C dX8_mouldOf_75 rfl (n := 76) rfl ?_
      refine j_if_eq C dX8_mouldOf_76 (tgt := 88) (n := 79) (by decide) rfl (fun q2 => ?_) (fun q2 => ?_)
      · refine j_iload_n C dX8_mouldOf_88 rfl (n := 89) rfl ?_
        exact j_retP C dX8_mouldOf_89
      · refine j_aload_n C dX8_mouldOf_79 rfl (n := 80) rfl ?_
        refine j_iload_n C dX8_mouldOf_80 rfl (n := 81) rfl ?_
        refine j_iload_n C dX8_mouldOf_81 rfl (n := 82) rfl ?_
        refine j_bnd (fun r4 q3 => ?_)
        refine j_ci C (run_V C mi_X8_cutOf lm_X8_218 iv_X8_cutOf ⟨Nat.le_of_ble_eq_true rfl, Nat.le_of_ble_eq_true rfl⟩ (m_X8_cutOf _ _ _ _ _ q3) (cM_0 g _) rfl rfl rfl rfl (Nat.le_of_ble_eq_true rfl) dX8_mouldOf_82) (n := 85) rfl ?_
        refine j_goto C dX8_mouldOf_85 (n := 89) (by decide) ?_
        exact j_retP C dX8_mouldOf_89
    · refine j_aload_n C dX8_mouldOf_46 rfl (n := 47) rfl ?_
      refine j_iload C dX8_mouldOf_47 rfl (n := 49) rfl ?_
      refine j_iload_n C dX8_mouldOf_49 rfl (n := 50) rfl ?_
      refine j_bnd (fun r7 q6 => ?_)
      refine j_ci C (run_V C mi_X8_cutOf lm_X8_218 iv_X8_cutOf ⟨Nat.le_of_ble_eq_true rfl, Nat.le_of_ble_eq_true rfl⟩ (m_X8_cutOf _ _ _ _ _ q6) (cM_0 g _) rfl rfl rfl rfl (Nat.le_of_ble_eq_true rfl) dX8_mouldOf_50) (n := 53) rfl ?_
      refine j_aload_n C dX8_mouldOf_53 rfl (n := 54) rfl ?_
      refine j_iload_n C dX8_mouldOf_54 rfl (n := 55) rfl ?_
      refine j_iload_n C dX8_mouldOf_55 rfl (n := 56) rfl ?_
      refine j_bnd (fun r10 q9 => ?_)
      refine j_ci C (run_V C mi_X8_cutOf lm_X8_218 iv_X8_cutOf ⟨Nat.le_of_ble_eq_true rfl, Nat.le_of_ble_eq_true rfl⟩ (m_X8_cutOf _ _ _ _ _ q9) (cM_0 g _) rfl rfl rfl rfl (Nat.le_of_ble_eq_true rfl) dX8_mouldOf_56) (n := 59) rfl ?_
      refine j_icmp_ge C dX8_mouldOf_59 (tgt := 67) (n := 62) (by decide) rfl (fun q12 => ?_) (fun q12 => ?_)
      · refine j_iload_n C dX8_mouldOf_67 rfl (n := 68) rfl ?_
        refine j_istore_n C dX8_mouldOf_68 (Nat.le_of_ble_eq_true rfl) (n := 69) rfl ?_
        refine j_iinc C dX8_mouldOf_69 rfl ic_1 (Nat.le_of_ble_eq_true rfl) (n := 72) rfl ?_
        refine j_goto C dX8_mouldOf_72 (n := 35) (by decide) ?_
        exact j_to (ih _ _ _ _ _) ⟨rfl, ⟨rfl, ⟨rfl, ⟨rfl, ⟨rfl, trivial⟩⟩⟩⟩⟩
      · refine j_iload C dX8_mouldOf_62 rfl (n := 64) rfl ?_
        refine j_goto C dX8_mouldOf_64 (n := 68) (by decide) ?_
        refine j_istore_n C dX8_mouldOf_68 (Nat.le_of_ble_eq_true rfl) (n := 69) rfl ?_
        refine j_iinc C dX8_mouldOf_69 rfl ic_1 (Nat.le_of_ble_eq_true rfl) (n := 72) rfl ?_
        refine j_goto C dX8_mouldOf_72 (n := 35) (by decide) ?_
        exact j_to (ih _ _ _ _ _) ⟨rfl, ⟨rfl, ⟨rfl, ⟨rfl, ⟨rfl, trivial⟩⟩⟩⟩⟩
set_option maxRecDepth 20000 in
theorem m_X8_mouldOf (l : Launch) (fu : Nat) (x1 : Int32) (x2 : Int32) (h : Hp) {r : Int32 × Hp} (e : X8_mouldOf fu x1 x2 h = some r) : CT l yX8_mouldOf cX8_mouldOf 5 (some .int) 3 cwM (fun g => [rf g 0, .int x1, .int x2]) h (qI cwM r.1 r.2) := by
  refine ct_of (QR := (fun r : Int32 × Hp => qI cwM r.1 r.2)) (by decide +kernel) (fun g => ⟨rfl, Nat.le_of_ble_eq_true rfl⟩) e (fun x g hl C => ?_)
  unfold X8_mouldOf
  refine j_iload_n C dX8_mouldOf_0 rfl (n := 1) rfl ?_
  refine j_cz C (run_S C mi_X8_isFace lm_X8_111 st_X8_isFace ⟨Nat.le_of_ble_eq_true rfl, Nat.le_of_ble_eq_true rfl⟩ (m_X8_isFace _ _ _) rfl rfl rfl (Nat.le_of_ble_eq_true rfl) dX8_mouldOf_1) (n := 4) rfl (fun b1 => ?_)
  refine j_if_ne C dX8_mouldOf_4 (tgt := 14) (n := 7) (by decide) rfl (fun q2 => ?_) (fun q2 => ?_)
  · refine j_aload_n C dX8_mouldOf_14 rfl (n := 15) rfl ?_
    refine gf_X8_9 C 0 (cM_0 g _) rfl dX8_mouldOf_15 (n := 18) rfl ?_
    refine j_iconst C dX8_mouldOf_18 ic_2 (n := 19) rfl ?_
    refine j_ialdL C 1 (cM_1 g _) ir_2_117 dX8_mouldOf_19 (n := 20) rfl ?_
    refine j_if_ne C dX8_mouldOf_20 (tgt := 30) (n := 23) (by decide) rfl (fun q3 => ?_) (fun q3 => ?_)
    · refine j_iconst C dX8_mouldOf_30 ic_0 (n := 31) rfl ?_
      refine j_istore_n C dX8_mouldOf_31 (Nat.le_of_ble_eq_true rfl) (n := 32) rfl ?_
      refine j_iconst C dX8_mouldOf_32 ic_1 (n := 33) rfl ?_
      refine j_istore C dX8_mouldOf_33 (Nat.le_of_ble_eq_true rfl) (n := 35) rfl ?_
      exact j_to (j_X8_mouldOf_35 C _ _ _ _ _ _ _) ⟨rfl, ⟨rfl, ⟨rfl, ⟨rfl, ⟨rfl, trivial⟩⟩⟩⟩⟩
    · refine j_aload_n C dX8_mouldOf_23 rfl (n := 24) rfl ?_
      refine j_ldc C dX8_mouldOf_24 kc_X8_197 (n := 26) rfl ?_
      refine j_bnd (fun r5 q4 => ?_)
      refine j_ci C (run_V C mi_X8_finding lm_X8_80 iv_X8_finding ⟨Nat.le_of_ble_eq_true rfl, Nat.le_of_ble_eq_true rfl⟩ (m_X8_finding _ _ _ q4) (cM_0 g _) rfl rfl rfl rfl (Nat.le_of_ble_eq_true rfl) dX8_mouldOf_26) (n := 29) rfl ?_
      exact j_retP C dX8_mouldOf_29
  · refine j_aload_n C dX8_mouldOf_7 rfl (n := 8) rfl ?_
    refine j_ldc C dX8_mouldOf_8 kc_X8_63 (n := 10) rfl ?_
    refine j_bnd (fun r8 q7 => ?_)
    refine j_ci C (run_V C mi_X8_finding lm_X8_80 iv_X8_finding ⟨Nat.le_of_ble_eq_true rfl, Nat.le_of_ble_eq_true rfl⟩ (m_X8_finding _ _ _ q7) (cM_0 g _) rfl rfl rfl rfl (Nat.le_of_ble_eq_true rfl) dX8_mouldOf_10) (n := 13) rfl ?_
    exact j_retP C dX8_mouldOf_13
-- X8_mould
set_option maxRecDepth 20000 in
theorem m_X8_mould (l : Launch) (fu : Nat) (x1 : Int32) (h : Hp) {r : Int32 × Hp} (e : X8_mould fu x1 h = some r) : CT l yX8_mould cX8_mould 2 (some .int) 4 cwM (fun g => [rf g 0, .int x1]) h (qI cwM r.1 r.2) := by
  refine ct_of (QR := (fun r : Int32 × Hp => qI cwM r.1 r.2)) (by decide +kernel) (fun g => ⟨rfl, Nat.le_of_ble_eq_true rfl⟩) e (fun x g hl C => ?_)
  unfold X8_mould
  refine j_aload_n C dX8_mould_0 rfl (n := 1) rfl ?_
  refine j_iload_n C dX8_mould_1 rfl (n := 2) rfl ?_
  refine j_iconst C dX8_mould_2 ic_0 (n := 3) rfl ?_
  refine j_bnd (fun r2 q1 => ?_)
  refine j_ci C (run_V C mi_X8_mouldOf lm_X8_221 iv_X8_mouldOf ⟨Nat.le_of_ble_eq_true rfl, Nat.le_of_ble_eq_true rfl⟩ (m_X8_mouldOf _ _ _ _ _ q1) (cM_0 g _) rfl rfl rfl rfl (Nat.le_of_ble_eq_true rfl) dX8_mould_3) (n := 6) rfl ?_
  exact j_retP C dX8_mould_6
-- X8_cuts
set_option maxRecDepth 20000 in
theorem m_X8_cuts (l : Launch) (fu : Nat) (x1 : Int32) (h : Hp) {r : Int32 × Hp} (e : X8_cuts fu x1 h = some r) : CT l yX8_cuts cX8_cuts 2 (some .int) 4 cwM (fun g => [rf g 0, .int x1]) h (qI cwM r.1 r.2) := by
  refine ct_of (QR := (fun r : Int32 × Hp => qI cwM r.1 r.2)) (by decide +kernel) (fun g => ⟨rfl, Nat.le_of_ble_eq_true rfl⟩) e (fun x g hl C => ?_)
  unfold X8_cuts
  refine j_aload_n C dX8_cuts_0 rfl (n := 1) rfl ?_
  refine j_iload_n C dX8_cuts_1 rfl (n := 2) rfl ?_
  refine j_iconst C dX8_cuts_2 ic_1 (n := 3) rfl ?_
  refine j_bnd (fun r2 q1 => ?_)
  refine j_ci C (run_V C mi_X8_mouldOf lm_X8_221 iv_X8_mouldOf ⟨Nat.le_of_ble_eq_true rfl, Nat.le_of_ble_eq_true rfl⟩ (m_X8_mouldOf _ _ _ _ _ q1) (cM_0 g _) rfl rfl rfl rfl (Nat.le_of_ble_eq_true rfl) dX8_cuts_3) (n := 6) rfl ?_
  exact j_retP C dX8_cuts_6
-- X8_isSheet
set_option maxRecDepth 20000 in
theorem m_X8_isSheet (l : Launch) (x0 : Int32) (h : Hp) : CT l yX8_isSheet cX8_isSheet 1 (some .boolean) 1 cwM (fun g => [.int x0]) h (qZ cwM (X8_isSheet x0) h) := by
  refine ct_of (QR := (fun r : Int32 => qZ cwM r h)) (by decide +kernel) (fun g => ⟨rfl, Nat.le_of_ble_eq_true rfl⟩) (X8_isSheet_e x0) (fun x g hl C => ?_)
  unfold X8_isSheet_o
  refine j_iload_n C dX8_isSheet_0 rfl (n := 1) rfl ?_
  refine j_iconst C dX8_isSheet_1 ic_0 (n := 2) rfl ?_
  refine j_iconst C dX8_isSheet_2 ic_3 (n := 3) rfl ?_
  refine j_cz C (run_S C mi_X8_within lm_X8_68 st_X8_within ⟨Nat.le_of_ble_eq_true rfl, Nat.le_of_ble_eq_true rfl⟩ (m_X8_within _ _ _ _ _) rfl rfl rfl (Nat.le_of_ble_eq_true rfl) dX8_isSheet_3) (n := 6) rfl (fun b1 => ?_)
  exact j_retZ C b1 dX8_isSheet_6
-- X8_waysFrom
set_option maxRecDepth 20000 in
theorem j_X8_waysFrom_13 {x : Fx} {g : Gl} (C : Ok x g RX8 cX8_waysFrom 8 (some .int)) (fu : Nat) (self : Int32 → Int32 → Int32 → Int32 → Hp → Option (Int32 × Hp)) {ds dq : Nat} (hdR : ds < dq) (hdq : 3 ≤ dq) (hself : ∀ (x1 : Int32) (x2 : Int32) (x3 : Int32) (x4 : Int32) (h : Hp) {r : Int32 × Hp}, self x1 x2 x3 x4 h = some r → CT x.2.1 yX8_waysFrom cX8_waysFrom 8 (some .int) ds cwM (fun g => [rf g 0, .int x1, .int x2, .int x3, .int x4]) h (qI cwM r.1 r.2)) : ∀ (n : Nat) (x1 : Int32) (x2 : Int32) (x3 : Int32) (x4 : Int32) (x5 : Int32) (x6 : Int32) (h : Hp), J x g cwM 8 dq (fun r : Int32 × Hp => qI cwM r.1 r.2) 13 [some (rf g 0), some (.int x1), some (.int x2), some (.int x3), some (.int x4), some (.int x5), some (.int x6)] [] h (X8_waysFrom_13 fu self n x1 x2 x3 x4 x5 x6 h) := by
  intro n
  induction n with
  | zero =>
    intro x1 x2 x3 x4 x5 x6 h
    rw [X8_waysFrom_13]
    exact j_none
  | succ n ih =>
    intro x1 x2 x3 x4 x5 x6 h
    rw [X8_waysFrom_13]
    refine j_iload C dX8_waysFrom_13 rfl (n := 15) rfl ?_
    refine j_aload_n C dX8_waysFrom_15 rfl (n := 16) rfl ?_
    refine gf_X8_9 C 0 (cM_0 g _) rfl dX8_waysFrom_16 (n := 19) rfl ?_
    refine j_iconst C dX8_waysFrom_19 ic_2 (n := 20) rfl ?_
    refine j_ialdL C 1 (cM_1 g _) ir_2_117 dX8_waysFrom_20 (n := 21) rfl ?_
    refine j_icmp_ge C dX8_waysFrom_21 (tgt := 125) (n := 24) (by decide) rfl (fun q1 => ?_) (fun q1 => ?_)
    · refine j_iload C dX8_waysFrom_125 rfl (n := 127) rfl ?_
      exact j_retP C dX8_waysFrom_127
    · refine j_iload C dX8_waysFrom_24 rfl (n := 26) rfl ?_
      refine j_iload C dX8_waysFrom_26 rfl (n := 28) rfl ?_
      refine j_cz C (run_S C mi_X8_has lm_X8_120 st_X8_has ⟨Nat.lt_of_lt_of_le (Nat.le_of_ble_eq_true rfl) hdq, Nat.le_of_ble_eq_true rfl⟩ (m_X8_has _ _ _ _) rfl rfl rfl (Nat.le_of_ble_eq_true rfl) dX8_waysFrom_28) (n := 31) rfl (fun b2 => ?_)
      refine j_if_ne C dX8_waysFrom_31 (tgt := 119) (n := 34) (by decide) rfl (fun q3 => ?_) (fun q3 => ?_)
      · refine j_iinc C dX8_waysFrom_119 rfl ic_1 (Nat.le_of_ble_eq_true rfl) (n := 122) rfl ?_
        refine j_goto C dX8_waysFrom_122 (n := 13) (by decide) ?_
        exact j_to (ih _ _ _ _ _ _ _) ⟨rfl, ⟨rfl, ⟨rfl, ⟨rfl, ⟨rfl, ⟨rfl, ⟨rfl, trivial⟩⟩⟩⟩⟩⟩⟩
      · refine j_aload_n C dX8_waysFrom_34 rfl (n := 35) rfl ?_
        refine j_iload C dX8_waysFrom_35 rfl (n := 37) rfl ?_
        refine j_bnd (fun r5 q4 => ?_)
        refine j_cz C (run_V C mi_X8_isHead lm_X8_182 iv_X8_isHead ⟨Nat.lt_of_lt_of_le (Nat.le_of_ble_eq_true rfl) hdq, Nat.le_of_ble_eq_true rfl⟩ (m_X8_isHead _ _ _ _ q4) (cM_0 g _) rfl rfl rfl rfl (Nat.le_of_ble_eq_true rfl) dX8_waysFrom_37) (n := 40) rfl (fun b6 => ?_)
        refine j_if_eq C dX8_waysFrom_40 (tgt := 119) (n := 43) (by decide) rfl (fun q7 => ?_) (fun q7 => ?_)
        · refine j_iinc C dX8_waysFrom_119 rfl ic_1 (Nat.le_of_ble_eq_true rfl) (n := 122) rfl ?_
          refine j_goto C dX8_waysFrom_122 (n := 13) (by decide) ?_
          exact j_to (ih _ _ _ _ _ _ _) ⟨rfl, ⟨rfl, ⟨rfl, ⟨rfl, ⟨rfl, ⟨rfl, ⟨rfl, trivial⟩⟩⟩⟩⟩⟩⟩
        · refine j_aload_n C dX8_waysFrom_43 rfl (n := 44) rfl ?_
          refine j_iload C dX8_waysFrom_44 rfl (n := 46) rfl ?_
          refine j_iload_n C dX8_waysFrom_46 rfl (n := 47) rfl ?_
          refine j_bnd (fun r9 q8 => ?_)
          refine j_ci C (run_V C mi_X8_likeTo lm_X8_132 iv_X8_likeTo ⟨Nat.lt_of_lt_of_le (Nat.le_of_ble_eq_true rfl) hdq, Nat.le_of_ble_eq_true rfl⟩ (m_X8_likeTo _ _ _ _ _ q8) (cM_0 g _) rfl rfl rfl rfl (Nat.le_of_ble_eq_true rfl) dX8_waysFrom_47) (n := 50) rfl ?_
          refine j_aload_n C dX8_waysFrom_50 rfl (n := 51) rfl ?_
          refine gf_X8_57 C 0 (cM_0 g _) rfl dX8_waysFrom_51 (n := 54) rfl ?_
          refine j_bipush C dX8_waysFrom_54 bp_40 (n := 56) rfl ?_
          refine j_iload_n C dX8_waysFrom_56 rfl (n := 57) rfl ?_
          refine j_imul C dX8_waysFrom_57 (n := 58) rfl ?_
          refine j_iload_n C dX8_waysFrom_58 rfl (n := 59) rfl ?_
          refine j_iadd C dX8_waysFrom_59 (n := 60) rfl ?_
          refine j_iald C 11 (cM_11 g _) dX8_waysFrom_60 (n := 61) rfl ?_
          refine j_icmp_ne C dX8_waysFrom_61 (tgt := 119) (n := 64) (by decide) rfl (fun q11 => ?_) (fun q11 => ?_)
          · refine j_iinc C dX8_waysFrom_119 rfl ic_1 (Nat.le_of_ble_eq_true rfl) (n := 122) rfl ?_
            refine j_goto C dX8_waysFrom_122 (n := 13) (by decide) ?_
            exact j_to (ih _ _ _ _ _ _ _) ⟨rfl, ⟨rfl, ⟨rfl, ⟨rfl, ⟨rfl, ⟨rfl, ⟨rfl, trivial⟩⟩⟩⟩⟩⟩⟩
          · refine j_aload_n C dX8_waysFrom_64 rfl (n := 65) rfl ?_
            refine j_iload_n C dX8_waysFrom_65 rfl (n := 66) rfl ?_
            refine j_iload_n C dX8_waysFrom_66 rfl (n := 67) rfl ?_
            refine j_iconst C dX8_waysFrom_67 ic_1 (n := 68) rfl ?_
            refine j_iadd C dX8_waysFrom_68 (n := 69) rfl ?_
            refine j_iload_n C dX8_waysFrom_69 rfl (n := 70) rfl ?_
            refine j_iload C dX8_waysFrom_70 rfl (n := 72) rfl ?_
            refine j_iconst C dX8_waysFrom_72 ic_1 (n := 73) rfl ?_
            refine j_iload C dX8_waysFrom_73 rfl (n := 75) rfl ?_
            refine j_ishl C dX8_waysFrom_75 (n := 76) rfl ?_
            refine j_ior C dX8_waysFrom_76 (n := 77) rfl ?_
            refine j_bnd (fun r13 q12 => ?_)
            refine j_ci C (run_V C mi_X8_waysFrom lm_X8_225 iv_X8_waysFrom ⟨hdR, Nat.le_of_ble_eq_true rfl⟩ (hself _ _ _ _ _ q12) (cM_0 g _) rfl rfl rfl rfl (Nat.le_of_ble_eq_true rfl) dX8_waysFrom_77) (n := 80) rfl ?_
            refine j_istore C dX8_waysFrom_80 (Nat.le_of_ble_eq_true rfl) (n := 82) rfl ?_
            refine j_aload_n C dX8_waysFrom_82 rfl (n := 83) rfl ?_
            refine j_dup C dX8_waysFrom_83 rfl (n := 84) rfl ?_
            refine gf_X8_228 C 0 (cM_0 g _) rfl dX8_waysFrom_84 (n := 87) rfl ?_
            refine j_iload_n C dX8_waysFrom_87 rfl (n := 88) rfl ?_
            refine j_aload_n C dX8_waysFrom_88 rfl (n := 89) rfl ?_
            refine gf_X8_231 C 0 (cM_0 g _) rfl dX8_waysFrom_89 (n := 92) rfl ?_
            refine j_icmp_ne C dX8_waysFrom_92 (tgt := 107) (n := 95) (by decide) rfl (fun q15 => ?_) (fun q15 => ?_)
            · refine j_iconst C dX8_waysFrom_107 ic_0 (n := 108) rfl ?_
              refine j_ior C dX8_waysFrom_108 (n := 109) rfl ?_
              refine pf_X8_228 C 0 (cM_0 g _) (sM_0_8 g _ _) rfl dX8_waysFrom_109 (n := 112) rfl ?_
              refine j_iload C dX8_waysFrom_112 rfl (n := 114) rfl ?_
              refine j_iload C dX8_waysFrom_114 rfl (n := 116) rfl ?_
              refine j_iadd C dX8_waysFrom_116 (n := 117) rfl ?_
              refine j_istore C dX8_waysFrom_117 (Nat.le_of_ble_eq_true rfl) (n := 119) rfl ?_
              refine j_iinc C dX8_waysFrom_119 rfl ic_1 (Nat.le_of_ble_eq_true rfl) (n := 122) rfl ?_
              refine j_goto C dX8_waysFrom_122 (n := 13) (by decide) ?_
              exact j_to (ih _ _ _ _ _ _ _) ⟨rfl, ⟨rfl, ⟨rfl, ⟨rfl, ⟨rfl, ⟨rfl, ⟨rfl, trivial⟩⟩⟩⟩⟩⟩⟩
            · refine j_iload C dX8_waysFrom_95 rfl (n := 97) rfl ?_
              refine j_if_le C dX8_waysFrom_97 (tgt := 107) (n := 100) (by decide) rfl (fun q16 => ?_) (fun q16 => ?_)
              · refine j_iconst C dX8_waysFrom_107 ic_0 (n := 108) rfl ?_
                refine j_ior C dX8_waysFrom_108 (n := 109) rfl ?_
                refine pf_X8_228 C 0 (cM_0 g _) (sM_0_8 g _ _) rfl dX8_waysFrom_109 (n := 112) rfl ?_
                refine j_iload C dX8_waysFrom_112 rfl (n := 114) rfl ?_
                refine j_iload C dX8_waysFrom_114 rfl (n := 116) rfl ?_
                refine j_iadd C dX8_waysFrom_116 (n := 117) rfl ?_
                refine j_istore C dX8_waysFrom_117 (Nat.le_of_ble_eq_true rfl) (n := 119) rfl ?_
                refine j_iinc C dX8_waysFrom_119 rfl ic_1 (Nat.le_of_ble_eq_true rfl) (n := 122) rfl ?_
                refine j_goto C dX8_waysFrom_122 (n := 13) (by decide) ?_
                exact j_to (ih _ _ _ _ _ _ _) ⟨rfl, ⟨rfl, ⟨rfl, ⟨rfl, ⟨rfl, ⟨rfl, ⟨rfl, trivial⟩⟩⟩⟩⟩⟩⟩
              · refine j_iconst C dX8_waysFrom_100 ic_1 (n := 101) rfl ?_
                refine j_iload C dX8_waysFrom_101 rfl (n := 103) rfl ?_
                refine j_ishl C dX8_waysFrom_103 (n := 104) rfl ?_
                refine j_goto C dX8_waysFrom_104 (n := 108) (by decide) ?_
                refine j_ior C dX8_waysFrom_108 (n := 109) rfl ?_
                refine pf_X8_228 C 0 (cM_0 g _) (sM_0_8 g _ _) rfl dX8_waysFrom_109 (n := 112) rfl ?_
                refine j_iload C dX8_waysFrom_112 rfl (n := 114) rfl ?_
                refine j_iload C dX8_waysFrom_114 rfl (n := 116) rfl ?_
                refine j_iadd C dX8_waysFrom_116 (n := 117) rfl ?_
                refine j_istore C dX8_waysFrom_117 (Nat.le_of_ble_eq_true rfl) (n := 119) rfl ?_
                refine j_iinc C dX8_waysFrom_119 rfl ic_1 (Nat.le_of_ble_eq_true rfl) (n := 122) rfl ?_
                refine j_goto C dX8_waysFrom_122 (n := 13) (by decide) ?_
                exact j_to (ih _ _ _ _ _ _ _) ⟨rfl, ⟨rfl, ⟨rfl, ⟨rfl, ⟨rfl, ⟨rfl, ⟨rfl, trivial⟩⟩⟩⟩⟩⟩⟩
set_option maxRecDepth 20000 in
theorem md_X8_waysFrom (l : Launch) (fu : Nat) : ∀ (dd : Nat) (x1 : Int32) (x2 : Int32) (x3 : Int32) (x4 : Int32) (h : Hp) {r : Int32 × Hp}, X8_waysFrom fu dd x1 x2 x3 x4 h = some r → CT l yX8_waysFrom cX8_waysFrom 8 (some .int) (dd + 3) cwM (fun g => [rf g 0, .int x1, .int x2, .int x3, .int x4]) h (qI cwM r.1 r.2) := by
  intro dd
  induction dd with
  | zero =>
    intro x1 x2 x3 x4 h r e
    rw [X8_waysFrom] at e
    cases e
  | succ dd ih =>
    intro x1 x2 x3 x4 h r e
    refine ct_of (QR := (fun r : Int32 × Hp => qI cwM r.1 r.2)) (by decide +kernel) (fun g => ⟨rfl, Nat.le_of_ble_eq_true rfl⟩) e (fun x g hl C => ?_)
    subst hl
    rw [X8_waysFrom]
    have hself := ih
    have hdR : dd + 3 < dd + 1 + 3 := by omega
    have hdq : 3 ≤ dd + 1 + 3 := by omega
    show J x g cwM _ _ _ _ _ _ _ _
    refine j_iload_n C dX8_waysFrom_0 rfl (n := 1) rfl ?_
    refine j_iload_n C dX8_waysFrom_1 rfl (n := 2) rfl ?_
    refine j_icmp_ne C dX8_waysFrom_2 (tgt := 7) (n := 5) (by decide) rfl (fun q1 => ?_) (fun q1 => ?_)
    · refine j_iconst C dX8_waysFrom_7 ic_0 (n := 8) rfl ?_
      refine j_istore C dX8_waysFrom_8 (Nat.le_of_ble_eq_true rfl) (n := 10) rfl ?_
      refine j_iconst C dX8_waysFrom_10 ic_0 (n := 11) rfl ?_
      refine j_istore C dX8_waysFrom_11 (Nat.le_of_ble_eq_true rfl) (n := 13) rfl ?_
      exact j_to (j_X8_waysFrom_13 C _ _ hdR hdq hself _ _ _ _ _ _ _ _) ⟨rfl, ⟨rfl, ⟨rfl, ⟨rfl, ⟨rfl, ⟨rfl, ⟨rfl, trivial⟩⟩⟩⟩⟩⟩⟩
    · refine j_iconst C dX8_waysFrom_5 ic_1 (n := 6) rfl ?_
      exact j_retP C dX8_waysFrom_6
theorem m_X8_waysFrom (l : Launch) (fu : Nat) (x1 : Int32) (x2 : Int32) (x3 : Int32) (x4 : Int32) (h : Hp) {r : Int32 × Hp} (e : X8_waysFrom fu 8 x1 x2 x3 x4 h = some r) : CT l yX8_waysFrom cX8_waysFrom 8 (some .int) (8 + 3) cwM (fun g => [rf g 0, .int x1, .int x2, .int x3, .int x4]) h (qI cwM r.1 r.2) := md_X8_waysFrom l fu 8 x1 x2 x3 x4 h e
-- X8_waysOf
set_option maxRecDepth 20000 in
theorem m_X8_waysOf (l : Launch) (fu : Nat) (x1 : Int32) (x2 : Int32) (h : Hp) {r : Int32 × Hp} (e : X8_waysOf fu x1 x2 h = some r) : CT l yX8_waysOf cX8_waysOf 3 (some .int) 12 cwM (fun g => [rf g 0, .int x1, .int x2]) h (qI cwM r.1 r.2) := by
  refine ct_of (QR := (fun r : Int32 × Hp => qI cwM r.1 r.2)) (by decide +kernel) (fun g => ⟨rfl, Nat.le_of_ble_eq_true rfl⟩) e (fun x g hl C => ?_)
  unfold X8_waysOf
  refine j_aload_n C dX8_waysOf_0 rfl (n := 1) rfl ?_
  refine j_iload_n C dX8_waysOf_1 rfl (n := 2) rfl ?_
  refine pf_X8_231 C 0 (cM_0 g _) (sM_0_7 g _ _) rfl dX8_waysOf_2 (n := 5) rfl ?_
  refine j_aload_n C dX8_waysOf_5 rfl (n := 6) rfl ?_
  refine j_iconst C dX8_waysOf_6 ic_0 (n := 7) rfl ?_
  refine pf_X8_228 C 0 (cM_0 g _) (sM_0_8 g _ _) rfl dX8_waysOf_7 (n := 10) rfl ?_
  refine j_aload_n C dX8_waysOf_10 rfl (n := 11) rfl ?_
  refine j_iload_n C dX8_waysOf_11 rfl (n := 12) rfl ?_
  refine j_iconst C dX8_waysOf_12 ic_0 (n := 13) rfl ?_
  refine j_bipush C dX8_waysOf_13 bp_6 (n := 15) rfl ?_
  refine j_aload_n C dX8_waysOf_15 rfl (n := 16) rfl ?_
  refine gf_X8_54 C 0 (cM_0 g _) rfl dX8_waysOf_16 (n := 19) rfl ?_
  refine j_iload_n C dX8_waysOf_19 rfl (n := 20) rfl ?_
  refine j_iald C 10 (cM_10 g _) dX8_waysOf_20 (n := 21) rfl ?_
  refine j_mmin C lm_X8_234 (Nat.le_of_ble_eq_true rfl) (Nat.le_of_ble_eq_true rfl) dX8_waysOf_21 (n := 24) rfl ?_
  refine j_iconst C dX8_waysOf_24 ic_0 (n := 25) rfl ?_
  refine j_bnd (fun r2 q1 => ?_)
  refine j_ci C (run_V C mi_X8_waysFrom lm_X8_225 iv_X8_waysFrom ⟨Nat.le_of_ble_eq_true rfl, Nat.le_of_ble_eq_true rfl⟩ (m_X8_waysFrom _ _ _ _ _ _ _ q1) (cM_0 g _) rfl rfl rfl rfl (Nat.le_of_ble_eq_true rfl) dX8_waysOf_25) (n := 28) rfl ?_
  exact j_retP C dX8_waysOf_28
-- X8_fits
set_option maxRecDepth 20000 in
theorem m_X8_fits (l : Launch) (fu : Nat) (x1 : Int32) (h : Hp) {r : Int32 × Hp} (e : X8_fits fu x1 h = some r) : CT l yX8_fits cX8_fits 2 (some .int) 13 cwM (fun g => [rf g 0, .int x1]) h (qI cwM r.1 r.2) := by
  refine ct_of (QR := (fun r : Int32 × Hp => qI cwM r.1 r.2)) (by decide +kernel) (fun g => ⟨rfl, Nat.le_of_ble_eq_true rfl⟩) e (fun x g hl C => ?_)
  unfold X8_fits
  refine j_iload_n C dX8_fits_0 rfl (n := 1) rfl ?_
  refine j_cz C (run_S C mi_X8_isSheet lm_X8_237 st_X8_isSheet ⟨Nat.le_of_ble_eq_true rfl, Nat.le_of_ble_eq_true rfl⟩ (m_X8_isSheet _ _ _) rfl rfl rfl (Nat.le_of_ble_eq_true rfl) dX8_fits_1) (n := 4) rfl (fun b1 => ?_)
  refine j_if_ne C dX8_fits_4 (tgt := 14) (n := 7) (by decide) rfl (fun q2 => ?_) (fun q2 => ?_)
  · refine j_aload_n C dX8_fits_14 rfl (n := 15) rfl ?_
    refine gf_X8_51 C 0 (cM_0 g _) rfl dX8_fits_15 (n := 18) rfl ?_
    refine j_iload_n C dX8_fits_18 rfl (n := 19) rfl ?_
    refine j_iald C 9 (cM_9 g _) dX8_fits_19 (n := 20) rfl ?_
    refine j_if_ne C dX8_fits_20 (tgt := 32) (n := 23) (by decide) rfl (fun q3 => ?_) (fun q3 => ?_)
    · refine j_aload_n C dX8_fits_32 rfl (n := 33) rfl ?_
      refine j_iload_n C dX8_fits_33 rfl (n := 34) rfl ?_
      refine j_iconst C dX8_fits_34 ic_m1 (n := 35) rfl ?_
      refine j_bnd (fun r5 q4 => ?_)
      refine j_ci C (run_V C mi_X8_waysOf lm_X8_241 iv_X8_waysOf ⟨Nat.le_of_ble_eq_true rfl, Nat.le_of_ble_eq_true rfl⟩ (m_X8_waysOf _ _ _ _ _ q4) (cM_0 g _) rfl rfl rfl rfl (Nat.le_of_ble_eq_true rfl) dX8_fits_35) (n := 38) rfl ?_
      exact j_retP C dX8_fits_38
    · refine j_aload_n C dX8_fits_23 rfl (n := 24) rfl ?_
      refine j_ldc C dX8_fits_24 kc_X8_240 (n := 26) rfl ?_
      refine j_bnd (fun r8 q7 => ?_)
      refine j_ci C (run_V C mi_X8_finding lm_X8_80 iv_X8_finding ⟨Nat.le_of_ble_eq_true rfl, Nat.le_of_ble_eq_true rfl⟩ (m_X8_finding _ _ _ q7) (cM_0 g _) rfl rfl rfl rfl (Nat.le_of_ble_eq_true rfl) dX8_fits_26) (n := 29) rfl ?_
      refine j_goto C dX8_fits_29 (n := 38) (by decide) ?_
      exact j_retP C dX8_fits_38
  · refine j_aload_n C dX8_fits_7 rfl (n := 8) rfl ?_
    refine j_ldc C dX8_fits_8 kc_X8_63 (n := 10) rfl ?_
    refine j_bnd (fun r11 q10 => ?_)
    refine j_ci C (run_V C mi_X8_finding lm_X8_80 iv_X8_finding ⟨Nat.le_of_ble_eq_true rfl, Nat.le_of_ble_eq_true rfl⟩ (m_X8_finding _ _ _ q10) (cM_0 g _) rfl rfl rfl rfl (Nat.le_of_ble_eq_true rfl) dX8_fits_10) (n := 13) rfl ?_
    exact j_retP C dX8_fits_13
-- X8_maybe
set_option maxRecDepth 20000 in
theorem m_X8_maybe (l : Launch) (fu : Nat) (x1 : Int32) (x2 : Int32) (h : Hp) {r : Int32 × Hp} (e : X8_maybe fu x1 x2 h = some r) : CT l yX8_maybe cX8_maybe 4 (some .int) 13 cwM (fun g => [rf g 0, .int x1, .int x2]) h (qI cwM r.1 r.2) := by
  refine ct_of (QR := (fun r : Int32 × Hp => qI cwM r.1 r.2)) (by decide +kernel) (fun g => ⟨rfl, Nat.le_of_ble_eq_true rfl⟩) e (fun x g hl C => ?_)
  unfold X8_maybe
  refine j_iload_n C dX8_maybe_0 rfl (n := 1) rfl ?_
  refine j_cz C (run_S C mi_X8_isSheet lm_X8_237 st_X8_isSheet ⟨Nat.le_of_ble_eq_true rfl, Nat.le_of_ble_eq_true rfl⟩ (m_X8_isSheet _ _ _) rfl rfl rfl (Nat.le_of_ble_eq_true rfl) dX8_maybe_1) (n := 4) rfl (fun b1 => ?_)
  refine j_if_ne C dX8_maybe_4 (tgt := 14) (n := 7) (by decide) rfl (fun q2 => ?_) (fun q2 => ?_)
  · refine j_aload_n C dX8_maybe_14 rfl (n := 15) rfl ?_
    refine gf_X8_51 C 0 (cM_0 g _) rfl dX8_maybe_15 (n := 18) rfl ?_
    refine j_iload_n C dX8_maybe_18 rfl (n := 19) rfl ?_
    refine j_iald C 9 (cM_9 g _) dX8_maybe_19 (n := 20) rfl ?_
    refine j_if_ne C dX8_maybe_20 (tgt := 30) (n := 23) (by decide) rfl (fun q3 => ?_) (fun q3 => ?_)
    · refine j_iload_n C dX8_maybe_30 rfl (n := 31) rfl ?_
      refine j_iconst C dX8_maybe_31 ic_0 (n := 32) rfl ?_
      refine j_bipush C dX8_maybe_32 bp_6 (n := 34) rfl ?_
      refine j_aload_n C dX8_maybe_34 rfl (n := 35) rfl ?_
      refine gf_X8_54 C 0 (cM_0 g _) rfl dX8_maybe_35 (n := 38) rfl ?_
      refine j_iload_n C dX8_maybe_38 rfl (n := 39) rfl ?_
      refine j_iald C 10 (cM_10 g _) dX8_maybe_39 (n := 40) rfl ?_
      refine j_mmin C lm_X8_234 (Nat.le_of_ble_eq_true rfl) (Nat.le_of_ble_eq_true rfl) dX8_maybe_40 (n := 43) rfl ?_
      refine j_iconst C dX8_maybe_43 ic_1 (n := 44) rfl ?_
      refine j_isub C dX8_maybe_44 (n := 45) rfl ?_
      refine j_cz C (run_S C mi_X8_within lm_X8_68 st_X8_within ⟨Nat.le_of_ble_eq_true rfl, Nat.le_of_ble_eq_true rfl⟩ (m_X8_within _ _ _ _ _) rfl rfl rfl (Nat.le_of_ble_eq_true rfl) dX8_maybe_45) (n := 48) rfl (fun b4 => ?_)
      refine j_if_ne C dX8_maybe_48 (tgt := 58) (n := 51) (by decide) rfl (fun q5 => ?_) (fun q5 => ?_)
      · refine j_aload_n C dX8_maybe_58 rfl (n := 59) rfl ?_
        refine j_iload_n C dX8_maybe_59 rfl (n := 60) rfl ?_
        refine j_iload_n C dX8_maybe_60 rfl (n := 61) rfl ?_
        refine j_bnd (fun r7 q6 => ?_)
        refine j_ci C (run_V C mi_X8_waysOf lm_X8_241 iv_X8_waysOf ⟨Nat.le_of_ble_eq_true rfl, Nat.le_of_ble_eq_true rfl⟩ (m_X8_waysOf _ _ _ _ _ q6) (cM_0 g _) rfl rfl rfl rfl (Nat.le_of_ble_eq_true rfl) dX8_maybe_61) (n := 64) rfl ?_
        refine j_istore_n C dX8_maybe_64 (Nat.le_of_ble_eq_true rfl) (n := 65) rfl ?_
        refine j_iload_n C dX8_maybe_65 rfl (n := 66) rfl ?_
        refine j_if_ne C dX8_maybe_66 (tgt := 73) (n := 69) (by decide) rfl (fun q9 => ?_) (fun q9 => ?_)
        · refine j_aload_n C dX8_maybe_73 rfl (n := 74) rfl ?_
          refine gf_X8_228 C 0 (cM_0 g _) rfl dX8_maybe_74 (n := 77) rfl ?_
          exact j_retP C dX8_maybe_77
        · refine j_iconst C dX8_maybe_69 ic_0 (n := 70) rfl ?_
          refine j_goto C dX8_maybe_70 (n := 77) (by decide) ?_
          exact j_retP C dX8_maybe_77
      · refine j_aload_n C dX8_maybe_51 rfl (n := 52) rfl ?_
        refine j_ldc C dX8_maybe_52 kc_X8_63 (n := 54) rfl ?_
        refine j_bnd (fun r11 q10 => ?_)
        refine j_ci C (run_V C mi_X8_finding lm_X8_80 iv_X8_finding ⟨Nat.le_of_ble_eq_true rfl, Nat.le_of_ble_eq_true rfl⟩ (m_X8_finding _ _ _ q10) (cM_0 g _) rfl rfl rfl rfl (Nat.le_of_ble_eq_true rfl) dX8_maybe_54) (n := 57) rfl ?_
        exact j_retP C dX8_maybe_57
    · refine j_aload_n C dX8_maybe_23 rfl (n := 24) rfl ?_
      refine j_ldc C dX8_maybe_24 kc_X8_240 (n := 26) rfl ?_
      refine j_bnd (fun r14 q13 => ?_)
      refine j_ci C (run_V C mi_X8_finding lm_X8_80 iv_X8_finding ⟨Nat.le_of_ble_eq_true rfl, Nat.le_of_ble_eq_true rfl⟩ (m_X8_finding _ _ _ q13) (cM_0 g _) rfl rfl rfl rfl (Nat.le_of_ble_eq_true rfl) dX8_maybe_26) (n := 29) rfl ?_
      exact j_retP C dX8_maybe_29
  · refine j_aload_n C dX8_maybe_7 rfl (n := 8) rfl ?_
    refine j_ldc C dX8_maybe_8 kc_X8_63 (n := 10) rfl ?_
    refine j_bnd (fun r17 q16 => ?_)
    refine j_ci C (run_V C mi_X8_finding lm_X8_80 iv_X8_finding ⟨Nat.le_of_ble_eq_true rfl, Nat.le_of_ble_eq_true rfl⟩ (m_X8_finding _ _ _ q16) (cM_0 g _) rfl rfl rfl rfl (Nat.le_of_ble_eq_true rfl) dX8_maybe_10) (n := 13) rfl ?_
    exact j_retP C dX8_maybe_13
-- X8_headsLike
set_option maxRecDepth 20000 in
theorem j_X8_headsLike_5 {x : Fx} {g : Gl} (C : Ok x g RX8 cX8_headsLike 5 (some .int)) (fu : Nat) (h : Hp) : ∀ (n : Nat) (x1 : Int32) (x2 : Int32) (x3 : Int32) (x4 : Int32), J x g cwM 5 3 (fun r : Int32 => qI cwM r h) 5 [some (rf g 0), some (.int x1), some (.int x2), some (.int x3), some (.int x4)] [] h (X8_headsLike_5 fu h n x1 x2 x3 x4) := by
  intro n
  induction n with
  | zero =>
    intro x1 x2 x3 x4
    rw [X8_headsLike_5]
    exact j_none
  | succ n ih =>
    intro x1 x2 x3 x4
    rw [X8_headsLike_5]
    refine j_iload C dX8_headsLike_5 rfl (n := 7) rfl ?_
    refine j_aload_n C dX8_headsLike_7 rfl (n := 8) rfl ?_
    refine gf_X8_9 C 0 (cM_0 g _) rfl dX8_headsLike_8 (n := 11) rfl ?_
    refine j_iconst C dX8_headsLike_11 ic_2 (n := 12) rfl ?_
    refine j_ialdL C 1 (cM_1 g _) ir_2_117 dX8_headsLike_12 (n := 13) rfl ?_
    refine j_icmp_ge C dX8_headsLike_13 (tgt := 53) (n := 16) (by decide) rfl (fun q1 => ?_) (fun q1 => ?_)
    · refine j_iload_n C dX8_headsLike_53 rfl (n := 54) rfl ?_
      exact j_ret C dX8_headsLike_54
    · refine j_iload_n C dX8_headsLike_16 rfl (n := 17) rfl ?_
      refine j_aload_n C dX8_headsLike_17 rfl (n := 18) rfl ?_
      refine j_iload C dX8_headsLike_18 rfl (n := 20) rfl ?_
      refine j_bnd (fun r3 q2 => ?_)
      refine j_cz C (run_V C mi_X8_isHead lm_X8_182 iv_X8_isHead ⟨Nat.le_of_ble_eq_true rfl, Nat.le_of_ble_eq_true rfl⟩ (m_X8_isHead _ _ _ _ q2) (cM_0 g _) rfl rfl rfl rfl (Nat.le_of_ble_eq_true rfl) dX8_headsLike_20) (n := 23) rfl (fun b4 => ?_)
      refine j_if_eq C dX8_headsLike_23 (tgt := 44) (n := 26) (by decide) rfl (fun q5 => ?_) (fun q5 => ?_)
      · refine j_iconst C dX8_headsLike_44 ic_0 (n := 45) rfl ?_
        refine j_ior C dX8_headsLike_45 (n := 46) rfl ?_
        refine j_istore_n C dX8_headsLike_46 (Nat.le_of_ble_eq_true rfl) (n := 47) rfl ?_
        refine j_iinc C dX8_headsLike_47 rfl ic_1 (Nat.le_of_ble_eq_true rfl) (n := 50) rfl ?_
        refine j_goto C dX8_headsLike_50 (n := 5) (by decide) ?_
        exact j_to (ih _ _ _ _) ⟨rfl, ⟨rfl, ⟨rfl, ⟨rfl, ⟨rfl, trivial⟩⟩⟩⟩⟩
      · refine j_aload_n C dX8_headsLike_26 rfl (n := 27) rfl ?_
        refine j_iload C dX8_headsLike_27 rfl (n := 29) rfl ?_
        refine j_iload_n C dX8_headsLike_29 rfl (n := 30) rfl ?_
        refine j_bnd (fun r7 q6 => ?_)
        refine j_ci C (run_V C mi_X8_likeTo lm_X8_132 iv_X8_likeTo ⟨Nat.le_of_ble_eq_true rfl, Nat.le_of_ble_eq_true rfl⟩ (m_X8_likeTo _ _ _ _ _ q6) (cM_0 g _) rfl rfl rfl rfl (Nat.le_of_ble_eq_true rfl) dX8_headsLike_30) (n := 33) rfl ?_
        refine j_iload_n C dX8_headsLike_33 rfl (n := 34) rfl ?_
        refine j_icmp_lt C dX8_headsLike_34 (tgt := 44) (n := 37) (by decide) rfl (fun q9 => ?_) (fun q9 => ?_)
        · refine j_iconst C dX8_headsLike_44 ic_0 (n := 45) rfl ?_
          refine j_ior C dX8_headsLike_45 (n := 46) rfl ?_
          refine j_istore_n C dX8_headsLike_46 (Nat.le_of_ble_eq_true rfl) (n := 47) rfl ?_
          refine j_iinc C dX8_headsLike_47 rfl ic_1 (Nat.le_of_ble_eq_true rfl) (n := 50) rfl ?_
          refine j_goto C dX8_headsLike_50 (n := 5) (by decide) ?_
          exact j_to (ih _ _ _ _) ⟨rfl, ⟨rfl, ⟨rfl, ⟨rfl, ⟨rfl, trivial⟩⟩⟩⟩⟩
        · refine j_iconst C dX8_headsLike_37 ic_1 (n := 38) rfl ?_
          refine j_iload C dX8_headsLike_38 rfl (n := 40) rfl ?_
          refine j_ishl C dX8_headsLike_40 (n := 41) rfl ?_
          refine j_goto C dX8_headsLike_41 (n := 45) (by decide) ?_
          refine j_ior C dX8_headsLike_45 (n := 46) rfl ?_
          refine j_istore_n C dX8_headsLike_46 (Nat.le_of_ble_eq_true rfl) (n := 47) rfl ?_
          refine j_iinc C dX8_headsLike_47 rfl ic_1 (Nat.le_of_ble_eq_true rfl) (n := 50) rfl ?_
          refine j_goto C dX8_headsLike_50 (n := 5) (by decide) ?_
          exact j_to (ih _ _ _ _) ⟨rfl, ⟨rfl, ⟨rfl, ⟨rfl, ⟨rfl, trivial⟩⟩⟩⟩⟩
set_option maxRecDepth 20000 in
theorem m_X8_headsLike (l : Launch) (fu : Nat) (x1 : Int32) (x2 : Int32) (h : Hp) {r : Int32} (e : X8_headsLike fu x1 x2 h = some r) : CT l yX8_headsLike cX8_headsLike 5 (some .int) 3 cwM (fun g => [rf g 0, .int x1, .int x2]) h (qI cwM r h) := by
  refine ct_of (QR := (fun r : Int32 => qI cwM r h)) (by decide +kernel) (fun g => ⟨rfl, Nat.le_of_ble_eq_true rfl⟩) e (fun x g hl C => ?_)
  unfold X8_headsLike
  refine j_iconst C dX8_headsLike_0 ic_0 (n := 1) rfl ?_
  refine j_istore_n C dX8_headsLike_1 (Nat.le_of_ble_eq_true rfl) (n := 2) rfl ?_
  refine j_iconst C dX8_headsLike_2 ic_0 (n := 3) rfl ?_
  refine j_istore C dX8_headsLike_3 (Nat.le_of_ble_eq_true rfl) (n := 5) rfl ?_
  exact j_to (j_X8_headsLike_5 C _ _ _ _ _ _ _) ⟨rfl, ⟨rfl, ⟨rfl, ⟨rfl, ⟨rfl, trivial⟩⟩⟩⟩⟩
