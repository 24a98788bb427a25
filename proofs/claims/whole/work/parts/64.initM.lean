theorem mi_X8_init : MI yX8_init cX8_init 2 none 0 := ⟨(gT_in (tb4 (List.mem_of_getElem? (i := 166) rfl)) rfl), (gT_in (tb1 (List.mem_of_getElem? (i := 9) rfl)) rfl), by decide +kernel⟩
theorem im_X8_init : Cond.instanceMethod yX8_init ∈ gT := (gT_in (tb4 (List.mem_of_getElem? (i := 165) rfl)) rfl)
def tbN : List Int32 := [0, 5, 0, 0, 1, -1, -1, -1, -1, -1, -1, -1, -1, -1, -1, 0, 0, 0, 0, 0, 0, 1, 1, 1, 1, 1, 1, -1, -1, -1, -1, -1, -1, 0, 0, 0, 0, 0, 0, 0, 0, 0, 0, 0, 0, 0, 0, 0, 0, 0, 0, 0, 0, 0, 0, 0, 0, 0, 0, 0, 0, 0, 0, 0, 0, 0, 0, 0, 0, 0, 0, 0, 0, 0, 0, 0, 0, 0, 0, 0, 0, 0, 0, 0, 0, 0, 0, 0, 0, 0, 0, 0, 0, 0, 0, 0, 0, 0, 0, 0, 0, 0, 0, 0, 0, 0, 0, 0, 0, 0, 0, 0, 0, 0, 0, 0, 0]
def hM0 : Hp := fun c => if c = 1 then (fun i => tbN.getD i 0) else (fun _ => 0)
def oX8 (g : Gl) (q : Nat) (u : Nat → Nat) : va_W := cwM (g.1, adr q u, g.2.2) hM0
def nwF : Nat → Int32 := (upd (upd (upd (upd (upd (upd (upd (upd (upd (upd (upd (upd (upd (upd (upd (upd (upd (upd (upd (upd (upd (upd (upd (upd (fun _ => 0) 1 (5)) 4 (1)) 5 (-1)) 6 (-1)) 7 (-1)) 8 (-1)) 9 (-1)) 10 (-1)) 11 (-1)) 12 (-1)) 13 (-1)) 14 (-1)) 21 (1)) 27 (-1)) 22 (1)) 28 (-1)) 23 (1)) 29 (-1)) 24 (1)) 30 (-1)) 25 (1)) 31 (-1)) 26 (1)) 32 (-1))
theorem nwF_ok : ∀ j, j < 117 → nwF j = tbN.getD j 0 := by decide +kernel
set_option maxHeartbeats 4000000 in
set_option maxRecDepth 100000 in
theorem l_X8 {x : Fx} {g : Gl} {R : Room} {Q : State → Prop} {q a kc ks : Nat} {fs : List Value} {T : va_W} (C : Ok x g RX8 cX8_init 2 none) (hf : fs[0]? = some (.ref a)) (k : JA x g R 2 Q 209 [some (.ref q), some (.int 6)] [] ((q, .inr (7, fs)) :: (a, .inl (g.2.2.1 0, 117, .inl nwF)) :: T) kc ks) : JA x g R 2 Q 138 [some (.ref q)] [] ((q, .inr (7, fs)) :: (a, .inl (g.2.2.1 0, 117, .inl (fun _ => 0))) :: T) kc ks := by
  refine a_aload_n C dX8_init_138 rfl (n := 139) rfl ?_
  refine a_get C 0 rfl rfl vi_7 0 (by decide) (gT_in (tb4 (List.mem_of_getElem? (i := 177) rfl)) rfl) hf dX8_init_139 (n := 142) rfl ?_
  refine a_iconst C dX8_init_142 (v := 1) (by decide) (n := 143) rfl ?_
  refine a_iconst C dX8_init_143 (v := 5) (by decide) (n := 144) rfl ?_
  refine a_iastL C (j := 1) ⟨by decide, by decide⟩ dX8_init_144 (n := 145) rfl ?_
  refine a_aload_n C dX8_init_145 rfl (n := 146) rfl ?_
  refine a_get C 0 rfl rfl vi_7 0 (by decide) (gT_in (tb4 (List.mem_of_getElem? (i := 177) rfl)) rfl) hf dX8_init_146 (n := 149) rfl ?_
  refine a_iconst C dX8_init_149 (v := 4) (by decide) (n := 150) rfl ?_
  refine a_iconst C dX8_init_150 (v := 1) (by decide) (n := 151) rfl ?_
  refine a_iastL C (j := 4) ⟨by decide, by decide⟩ dX8_init_151 (n := 152) rfl ?_
  refine a_iconst C dX8_init_152 (v := 0) (by decide) (n := 153) rfl ?_
  refine a_istore_n C dX8_init_153 (Nat.le_of_ble_eq_true rfl) (n := 154) rfl ?_
  refine a_iload_n C dX8_init_154 rfl (n := 155) rfl ?_
  refine a_bipush C dX8_init_155 (v := 10) (by decide) (n := 157) rfl ?_
  refine a_icmp_ge C dX8_init_157 (tgt := 175) (by decide) (n := 160) rfl (fun q => absurd q (by decide)) (fun _ => ?_)
  refine a_aload_n C dX8_init_160 rfl (n := 161) rfl ?_
  refine a_get C 0 rfl rfl vi_7 0 (by decide) (gT_in (tb4 (List.mem_of_getElem? (i := 177) rfl)) rfl) hf dX8_init_161 (n := 164) rfl ?_
  refine a_iconst C dX8_init_164 (v := 5) (by decide) (n := 165) rfl ?_
  refine a_iload_n C dX8_init_165 rfl (n := 166) rfl ?_
  refine a_iadd C dX8_init_166 (n := 167) rfl ?_
  refine a_iconst C dX8_init_167 (v := -1) (by decide) (n := 168) rfl ?_
  refine a_iastL C (j := 5) ⟨by decide, by decide⟩ dX8_init_168 (n := 169) rfl ?_
  refine a_iinc C dX8_init_169 rfl (c1 := 1) (by decide) (Nat.le_of_ble_eq_true rfl) (n := 172) rfl ?_
  refine a_to (L1 := [some (.ref q), some (.int 1)]) ?_ ⟨rfl, ⟨(congrArg (fun v : Int32 => some (Value.int v)) (by decide : (0 : Int32) + 1 = 1)), trivial⟩⟩
  refine a_goto C dX8_init_172 (n := 154) (by decide) ?_
  refine a_iload_n C dX8_init_154 rfl (n := 155) rfl ?_
  refine a_bipush C dX8_init_155 (v := 10) (by decide) (n := 157) rfl ?_
  refine a_icmp_ge C dX8_init_157 (tgt := 175) (by decide) (n := 160) rfl (fun q => absurd q (by decide)) (fun _ => ?_)
  refine a_aload_n C dX8_init_160 rfl (n := 161) rfl ?_
  refine a_get C 0 rfl rfl vi_7 0 (by decide) (gT_in (tb4 (List.mem_of_getElem? (i := 177) rfl)) rfl) hf dX8_init_161 (n := 164) rfl ?_
  refine a_iconst C dX8_init_164 (v := 5) (by decide) (n := 165) rfl ?_
  refine a_iload_n C dX8_init_165 rfl (n := 166) rfl ?_
  refine a_iadd C dX8_init_166 (n := 167) rfl ?_
  refine a_iconst C dX8_init_167 (v := -1) (by decide) (n := 168) rfl ?_
  refine a_iastL C (j := 6) ⟨by decide, by decide⟩ dX8_init_168 (n := 169) rfl ?_
  refine a_iinc C dX8_init_169 rfl (c1 := 1) (by decide) (Nat.le_of_ble_eq_true rfl) (n := 172) rfl ?_
  refine a_to (L1 := [some (.ref q), some (.int 2)]) ?_ ⟨rfl, ⟨(congrArg (fun v : Int32 => some (Value.int v)) (by decide : (1 : Int32) + 1 = 2)), trivial⟩⟩
  refine a_goto C dX8_init_172 (n := 154) (by decide) ?_
  refine a_iload_n C dX8_init_154 rfl (n := 155) rfl ?_
  refine a_bipush C dX8_init_155 (v := 10) (by decide) (n := 157) rfl ?_
  refine a_icmp_ge C dX8_init_157 (tgt := 175) (by decide) (n := 160) rfl (fun q => absurd q (by decide)) (fun _ => ?_)
  refine a_aload_n C dX8_init_160 rfl (n := 161) rfl ?_
  refine a_get C 0 rfl rfl vi_7 0 (by decide) (gT_in (tb4 (List.mem_of_getElem? (i := 177) rfl)) rfl) hf dX8_init_161 (n := 164) rfl ?_
  refine a_iconst C dX8_init_164 (v := 5) (by decide) (n := 165) rfl ?_
  refine a_iload_n C dX8_init_165 rfl (n := 166) rfl ?_
  refine a_iadd C dX8_init_166 (n := 167) rfl ?_
  refine a_iconst C dX8_init_167 (v := -1) (by decide) (n := 168) rfl ?_
  refine a_iastL C (j := 7) ⟨by decide, by decide⟩ dX8_init_168 (n := 169) rfl ?_
  refine a_iinc C dX8_init_169 rfl (c1 := 1) (by decide) (Nat.le_of_ble_eq_true rfl) (n := 172) rfl ?_
  refine a_to (L1 := [some (.ref q), some (.int 3)]) ?_ ⟨rfl, ⟨(congrArg (fun v : Int32 => some (Value.int v)) (by decide : (2 : Int32) + 1 = 3)), trivial⟩⟩
  refine a_goto C dX8_init_172 (n := 154) (by decide) ?_
  refine a_iload_n C dX8_init_154 rfl (n := 155) rfl ?_
  refine a_bipush C dX8_init_155 (v := 10) (by decide) (n := 157) rfl ?_
  refine a_icmp_ge C dX8_init_157 (tgt := 175) (by decide) (n := 160) rfl (fun q => absurd q (by decide)) (fun _ => ?_)
  refine a_aload_n C dX8_init_160 rfl (n := 161) rfl ?_
  refine a_get C 0 rfl rfl vi_7 0 (by decide) (gT_in (tb4 (List.mem_of_getElem? (i := 177) rfl)) rfl) hf dX8_init_161 (n := 164) rfl ?_
  refine a_iconst C dX8_init_164 (v := 5) (by decide) (n := 165) rfl ?_
  refine a_iload_n C dX8_init_165 rfl (n := 166) rfl ?_
  refine a_iadd C dX8_init_166 (n := 167) rfl ?_
  refine a_iconst C dX8_init_167 (v := -1) (by decide) (n := 168) rfl ?_
  refine a_iastL C (j := 8) ⟨by decide, by decide⟩ dX8_init_168 (n := 169) rfl ?_
  refine a_iinc C dX8_init_169 rfl (c1 := 1) (by decide) (Nat.le_of_ble_eq_true rfl) (n := 172) rfl ?_
  refine a_to (L1 := [some (.ref q), some (.int 4)]) ?_ ⟨rfl, ⟨(congrArg (fun v : Int32 => some (Value.int v)) (by decide : (3 : Int32) + 1 = 4)), trivial⟩⟩
  refine a_goto C dX8_init_172 (n := 154) (by decide) ?_
  refine a_iload_n C dX8_init_154 rfl (n := 155) rfl ?_
  refine a_bipush C dX8_init_155 (v := 10) (by decide) (n := 157) rfl ?_
  refine a_icmp_ge C dX8_init_157 (tgt := 175) (by decide) (n := 160) rfl (fun q => absurd q (by decide)) (fun _ => ?_)
  refine a_aload_n C dX8_init_160 rfl (n := 161) rfl ?_
  refine a_get C 0 rfl rfl vi_7 0 (by decide) (gT_in (tb4 (List.mem_of_getElem? (i := 177) rfl)) rfl) hf dX8_init_161 (n := 164) rfl ?_
  refine a_iconst C dX8_init_164 (v := 5) (by decide) (n := 165) rfl ?_
  refine a_iload_n C dX8_init_165 rfl (n := 166) rfl ?_
  refine a_iadd C dX8_init_166 (n := 167) rfl ?_
  refine a_iconst C dX8_init_167 (v := -1) (by decide) (n := 168) rfl ?_
  refine a_iastL C (j := 9) ⟨by decide, by decide⟩ dX8_init_168 (n := 169) rfl ?_
  refine a_iinc C dX8_init_169 rfl (c1 := 1) (by decide) (Nat.le_of_ble_eq_true rfl) (n := 172) rfl ?_
  refine a_to (L1 := [some (.ref q), some (.int 5)]) ?_ ⟨rfl, ⟨(congrArg (fun v : Int32 => some (Value.int v)) (by decide : (4 : Int32) + 1 = 5)), trivial⟩⟩
  refine a_goto C dX8_init_172 (n := 154) (by decide) ?_
  refine a_iload_n C dX8_init_154 rfl (n := 155) rfl ?_
  refine a_bipush C dX8_init_155 (v := 10) (by decide) (n := 157) rfl ?_
  refine a_icmp_ge C dX8_init_157 (tgt := 175) (by decide) (n := 160) rfl (fun q => absurd q (by decide)) (fun _ => ?_)
  refine a_aload_n C dX8_init_160 rfl (n := 161) rfl ?_
  refine a_get C 0 rfl rfl vi_7 0 (by decide) (gT_in (tb4 (List.mem_of_getElem? (i := 177) rfl)) rfl) hf dX8_init_161 (n := 164) rfl ?_
  refine a_iconst C dX8_init_164 (v := 5) (by decide) (n := 165) rfl ?_
  refine a_iload_n C dX8_init_165 rfl (n := 166) rfl ?_
  refine a_iadd C dX8_init_166 (n := 167) rfl ?_
  refine a_iconst C dX8_init_167 (v := -1) (by decide) (n := 168) rfl ?_
  refine a_iastL C (j := 10) ⟨by decide, by decide⟩ dX8_init_168 (n := 169) rfl ?_
  refine a_iinc C dX8_init_169 rfl (c1 := 1) (by decide) (Nat.le_of_ble_eq_true rfl) (n := 172) rfl ?_
  refine a_to (L1 := [some (.ref q), some (.int 6)]) ?_ ⟨rfl, ⟨(congrArg (fun v : Int32 => some (Value.int v)) (by decide : (5 : Int32) + 1 = 6)), trivial⟩⟩
  refine a_goto C dX8_init_172 (n := 154) (by decide) ?_
  refine a_iload_n C dX8_init_154 rfl (n := 155) rfl ?_
  refine a_bipush C dX8_init_155 (v := 10) (by decide) (n := 157) rfl ?_
  refine a_icmp_ge C dX8_init_157 (tgt := 175) (by decide) (n := 160) rfl (fun q => absurd q (by decide)) (fun _ => ?_)
  refine a_aload_n C dX8_init_160 rfl (n := 161) rfl ?_
  refine a_get C 0 rfl rfl vi_7 0 (by decide) (gT_in (tb4 (List.mem_of_getElem? (i := 177) rfl)) rfl) hf dX8_init_161 (n := 164) rfl ?_
  refine a_iconst C dX8_init_164 (v := 5) (by decide) (n := 165) rfl ?_
  refine a_iload_n C dX8_init_165 rfl (n := 166) rfl ?_
  refine a_iadd C dX8_init_166 (n := 167) rfl ?_
  refine a_iconst C dX8_init_167 (v := -1) (by decide) (n := 168) rfl ?_
  refine a_iastL C (j := 11) ⟨by decide, by decide⟩ dX8_init_168 (n := 169) rfl ?_
  refine a_iinc C dX8_init_169 rfl (c1 := 1) (by decide) (Nat.le_of_ble_eq_true rfl) (n := 172) rfl ?_
  refine a_to (L1 := [some (.ref q), some (.int 7)]) ?_ ⟨rfl, ⟨(congrArg (fun v : Int32 => some (Value.int v)) (by decide : (6 : Int32) + 1 = 7)), trivial⟩⟩
  refine a_goto C dX8_init_172 (n := 154) (by decide) ?_
  refine a_iload_n C dX8_init_154 rfl (n := 155) rfl ?_
  refine a_bipush C dX8_init_155 (v := 10) (by decide) (n := 157) rfl ?_
  refine a_icmp_ge C dX8_init_157 (tgt := 175) (by decide) (n := 160) rfl (fun q => absurd q (by decide)) (fun _ => ?_)
  refine a_aload_n C dX8_init_160 rfl (n := 161) rfl ?_
  refine a_get C 0 rfl rfl vi_7 0 (by decide) (gT_in (tb4 (List.mem_of_getElem? (i := 177) rfl)) rfl) hf dX8_init_161 (n := 164) rfl ?_
  refine a_iconst C dX8_init_164 (v := 5) (by decide) (n := 165) rfl ?_
  refine a_iload_n C dX8_init_165 rfl (n := 166) rfl ?_
  refine a_iadd C dX8_init_166 (n := 167) rfl ?_
  refine a_iconst C dX8_init_167 (v := -1) (by decide) (n := 168) rfl ?_
  refine a_iastL C (j := 12) ⟨by decide, by decide⟩ dX8_init_168 (n := 169) rfl ?_
  refine a_iinc C dX8_init_169 rfl (c1 := 1) (by decide) (Nat.le_of_ble_eq_true rfl) (n := 172) rfl ?_
  refine a_to (L1 := [some (.ref q), some (.int 8)]) ?_ ⟨rfl, ⟨(congrArg (fun v : Int32 => some (Value.int v)) (by decide : (7 : Int32) + 1 = 8)), trivial⟩⟩
  refine a_goto C dX8_init_172 (n := 154) (by decide) ?_
  refine a_iload_n C dX8_init_154 rfl (n := 155) rfl ?_
  refine a_bipush C dX8_init_155 (v := 10) (by decide) (n := 157) rfl ?_
  refine a_icmp_ge C dX8_init_157 (tgt := 175) (by decide) (n := 160) rfl (fun q => absurd q (by decide)) (fun _ => ?_)
  refine a_aload_n C dX8_init_160 rfl (n := 161) rfl ?_
  refine a_get C 0 rfl rfl vi_7 0 (by decide) (gT_in (tb4 (List.mem_of_getElem? (i := 177) rfl)) rfl) hf dX8_init_161 (n := 164) rfl ?_
  refine a_iconst C dX8_init_164 (v := 5) (by decide) (n := 165) rfl ?_
  refine a_iload_n C dX8_init_165 rfl (n := 166) rfl ?_
  refine a_iadd C dX8_init_166 (n := 167) rfl ?_
  refine a_iconst C dX8_init_167 (v := -1) (by decide) (n := 168) rfl ?_
  refine a_iastL C (j := 13) ⟨by decide, by decide⟩ dX8_init_168 (n := 169) rfl ?_
  refine a_iinc C dX8_init_169 rfl (c1 := 1) (by decide) (Nat.le_of_ble_eq_true rfl) (n := 172) rfl ?_
  refine a_to (L1 := [some (.ref q), some (.int 9)]) ?_ ⟨rfl, ⟨(congrArg (fun v : Int32 => some (Value.int v)) (by decide : (8 : Int32) + 1 = 9)), trivial⟩⟩
  refine a_goto C dX8_init_172 (n := 154) (by decide) ?_
  refine a_iload_n C dX8_init_154 rfl (n := 155) rfl ?_
  refine a_bipush C dX8_init_155 (v := 10) (by decide) (n := 157) rfl ?_
  refine a_icmp_ge C dX8_init_157 (tgt := 175) (by decide) (n := 160) rfl (fun q => absurd q (by decide)) (fun _ => ?_)
  refine a_aload_n C dX8_init_160 rfl (n := 161) rfl ?_
  refine a_get C 0 rfl rfl vi_7 0 (by decide) (gT_in (tb4 (List.mem_of_getElem? (i := 177) rfl)) rfl) hf dX8_init_161 (n := 164) rfl ?_
  refine a_iconst C dX8_init_164 (v := 5) (by decide) (n := 165) rfl ?_
  refine a_iload_n C dX8_init_165 rfl (n := 166) rfl ?_
  refine a_iadd C dX8_init_166 (n := 167) rfl ?_
  refine a_iconst C dX8_init_167 (v := -1) (by decide) (n := 168) rfl ?_
  refine a_iastL C (j := 14) ⟨by decide, by decide⟩ dX8_init_168 (n := 169) rfl ?_
  refine a_iinc C dX8_init_169 rfl (c1 := 1) (by decide) (Nat.le_of_ble_eq_true rfl) (n := 172) rfl ?_
  refine a_to (L1 := [some (.ref q), some (.int 10)]) ?_ ⟨rfl, ⟨(congrArg (fun v : Int32 => some (Value.int v)) (by decide : (9 : Int32) + 1 = 10)), trivial⟩⟩
  refine a_goto C dX8_init_172 (n := 154) (by decide) ?_
  refine a_iload_n C dX8_init_154 rfl (n := 155) rfl ?_
  refine a_bipush C dX8_init_155 (v := 10) (by decide) (n := 157) rfl ?_
  refine a_icmp_ge C dX8_init_157 (tgt := 175) (by decide) (n := 160) rfl (fun _ => ?_) (fun q => absurd (by decide) q)
  refine a_iconst C dX8_init_175 (v := 0) (by decide) (n := 176) rfl ?_
  refine a_istore_n C dX8_init_176 (Nat.le_of_ble_eq_true rfl) (n := 177) rfl ?_
  refine a_iload_n C dX8_init_177 rfl (n := 178) rfl ?_
  refine a_bipush C dX8_init_178 (v := 6) (by decide) (n := 180) rfl ?_
  refine a_icmp_ge C dX8_init_180 (tgt := 209) (by decide) (n := 183) rfl (fun q => absurd q (by decide)) (fun _ => ?_)
  refine a_aload_n C dX8_init_183 rfl (n := 184) rfl ?_
  refine a_get C 0 rfl rfl vi_7 0 (by decide) (gT_in (tb4 (List.mem_of_getElem? (i := 177) rfl)) rfl) hf dX8_init_184 (n := 187) rfl ?_
  refine a_bipush C dX8_init_187 (v := 21) (by decide) (n := 189) rfl ?_
  refine a_iload_n C dX8_init_189 rfl (n := 190) rfl ?_
  refine a_iadd C dX8_init_190 (n := 191) rfl ?_
  refine a_iconst C dX8_init_191 (v := 1) (by decide) (n := 192) rfl ?_
  refine a_iastL C (j := 21) ⟨by decide, by decide⟩ dX8_init_192 (n := 193) rfl ?_
  refine a_aload_n C dX8_init_193 rfl (n := 194) rfl ?_
  refine a_get C 0 rfl rfl vi_7 0 (by decide) (gT_in (tb4 (List.mem_of_getElem? (i := 177) rfl)) rfl) hf dX8_init_194 (n := 197) rfl ?_
  refine a_bipush C dX8_init_197 (v := 27) (by decide) (n := 199) rfl ?_
  refine a_iload_n C dX8_init_199 rfl (n := 200) rfl ?_
  refine a_iadd C dX8_init_200 (n := 201) rfl ?_
  refine a_iconst C dX8_init_201 (v := -1) (by decide) (n := 202) rfl ?_
  refine a_iastL C (j := 27) ⟨by decide, by decide⟩ dX8_init_202 (n := 203) rfl ?_
  refine a_iinc C dX8_init_203 rfl (c1 := 1) (by decide) (Nat.le_of_ble_eq_true rfl) (n := 206) rfl ?_
  refine a_to (L1 := [some (.ref q), some (.int 1)]) ?_ ⟨rfl, ⟨(congrArg (fun v : Int32 => some (Value.int v)) (by decide : (0 : Int32) + 1 = 1)), trivial⟩⟩
  refine a_goto C dX8_init_206 (n := 177) (by decide) ?_
  refine a_iload_n C dX8_init_177 rfl (n := 178) rfl ?_
  refine a_bipush C dX8_init_178 (v := 6) (by decide) (n := 180) rfl ?_
  refine a_icmp_ge C dX8_init_180 (tgt := 209) (by decide) (n := 183) rfl (fun q => absurd q (by decide)) (fun _ => ?_)
  refine a_aload_n C dX8_init_183 rfl (n := 184) rfl ?_
  refine a_get C 0 rfl rfl vi_7 0 (by decide) (gT_in (tb4 (List.mem_of_getElem? (i := 177) rfl)) rfl) hf dX8_init_184 (n := 187) rfl ?_
  refine a_bipush C dX8_init_187 (v := 21) (by decide) (n := 189) rfl ?_
  refine a_iload_n C dX8_init_189 rfl (n := 190) rfl ?_
  refine a_iadd C dX8_init_190 (n := 191) rfl ?_
  refine a_iconst C dX8_init_191 (v := 1) (by decide) (n := 192) rfl ?_
  refine a_iastL C (j := 22) ⟨by decide, by decide⟩ dX8_init_192 (n := 193) rfl ?_
  refine a_aload_n C dX8_init_193 rfl (n := 194) rfl ?_
  refine a_get C 0 rfl rfl vi_7 0 (by decide) (gT_in (tb4 (List.mem_of_getElem? (i := 177) rfl)) rfl) hf dX8_init_194 (n := 197) rfl ?_
  refine a_bipush C dX8_init_197 (v := 27) (by decide) (n := 199) rfl ?_
  refine a_iload_n C dX8_init_199 rfl (n := 200) rfl ?_
  refine a_iadd C dX8_init_200 (n := 201) rfl ?_
  refine a_iconst C dX8_init_201 (v := -1) (by decide) (n := 202) rfl ?_
  refine a_iastL C (j := 28) ⟨by decide, by decide⟩ dX8_init_202 (n := 203) rfl ?_
  refine a_iinc C dX8_init_203 rfl (c1 := 1) (by decide) (Nat.le_of_ble_eq_true rfl) (n := 206) rfl ?_
  refine a_to (L1 := [some (.ref q), some (.int 2)]) ?_ ⟨rfl, ⟨(congrArg (fun v : Int32 => some (Value.int v)) (by decide : (1 : Int32) + 1 = 2)), trivial⟩⟩
  refine a_goto C dX8_init_206 (n := 177) (by decide) ?_
  refine a_iload_n C dX8_init_177 rfl (n := 178) rfl ?_
  refine a_bipush C dX8_init_178 (v := 6) (by decide) (n := 180) rfl ?_
  refine a_icmp_ge C dX8_init_180 (tgt := 209) (by decide) (n := 183) rfl (fun q => absurd q (by decide)) (fun _ => ?_)
  refine a_aload_n C dX8_init_183 rfl (n := 184) rfl ?_
  refine a_get C 0 rfl rfl vi_7 0 (by decide) (gT_in (tb4 (List.mem_of_getElem? (i := 177) rfl)) rfl) hf dX8_init_184 (n := 187) rfl ?_
  refine a_bipush C dX8_init_187 (v := 21) (by decide) (n := 189) rfl ?_
  refine a_iload_n C dX8_init_189 rfl (n := 190) rfl ?_
  refine a_iadd C dX8_init_190 (n := 191) rfl ?_
  refine a_iconst C dX8_init_191 (v := 1) (by decide) (n := 192) rfl ?_
  refine a_iastL C (j := 23) ⟨by decide, by decide⟩ dX8_init_192 (n := 193) rfl ?_
  refine a_aload_n C dX8_init_193 rfl (n := 194) rfl ?_
  refine a_get C 0 rfl rfl vi_7 0 (by decide) (gT_in (tb4 (List.mem_of_getElem? (i := 177) rfl)) rfl) hf dX8_init_194 (n := 197) rfl ?_
  refine a_bipush C dX8_init_197 (v := 27) (by decide) (n := 199) rfl ?_
  refine a_iload_n C dX8_init_199 rfl (n := 200) rfl ?_
  refine a_iadd C dX8_init_200 (n := 201) rfl ?_
  refine a_iconst C dX8_init_201 (v := -1) (by decide) (n := 202) rfl ?_
  refine a_iastL C (j := 29) ⟨by decide, by decide⟩ dX8_init_202 (n := 203) rfl ?_
  refine a_iinc C dX8_init_203 rfl (c1 := 1) (by decide) (Nat.le_of_ble_eq_true rfl) (n := 206) rfl ?_
  refine a_to (L1 := [some (.ref q), some (.int 3)]) ?_ ⟨rfl, ⟨(congrArg (fun v : Int32 => some (Value.int v)) (by decide : (2 : Int32) + 1 = 3)), trivial⟩⟩
  refine a_goto C dX8_init_206 (n := 177) (by decide) ?_
  refine a_iload_n C dX8_init_177 rfl (n := 178) rfl ?_
  refine a_bipush C dX8_init_178 (v := 6) (by decide) (n := 180) rfl ?_
  refine a_icmp_ge C dX8_init_180 (tgt := 209) (by decide) (n := 183) rfl (fun q => absurd q (by decide)) (fun _ => ?_)
  refine a_aload_n C dX8_init_183 rfl (n := 184) rfl ?_
  refine a_get C 0 rfl rfl vi_7 0 (by decide) (gT_in (tb4 (List.mem_of_getElem? (i := 177) rfl)) rfl) hf dX8_init_184 (n := 187) rfl ?_
  refine a_bipush C dX8_init_187 (v := 21) (by decide) (n := 189) rfl ?_
  refine a_iload_n C dX8_init_189 rfl (n := 190) rfl ?_
  refine a_iadd C dX8_init_190 (n := 191) rfl ?_
  refine a_iconst C dX8_init_191 (v := 1) (by decide) (n := 192) rfl ?_
  refine a_iastL C (j := 24) ⟨by decide, by decide⟩ dX8_init_192 (n := 193) rfl ?_
  refine a_aload_n C dX8_init_193 rfl (n := 194) rfl ?_
  refine a_get C 0 rfl rfl vi_7 0 (by decide) (gT_in (tb4 (List.mem_of_getElem? (i := 177) rfl)) rfl) hf dX8_init_194 (n := 197) rfl ?_
  refine a_bipush C dX8_init_197 (v := 27) (by decide) (n := 199) rfl ?_
  refine a_iload_n C dX8_init_199 rfl (n := 200) rfl ?_
  refine a_iadd C dX8_init_200 (n := 201) rfl ?_
  refine a_iconst C dX8_init_201 (v := -1) (by decide) (n := 202) rfl ?_
  refine a_iastL C (j := 30) ⟨by decide, by decide⟩ dX8_init_202 (n := 203) rfl ?_
  refine a_iinc C dX8_init_203 rfl (c1 := 1) (by decide) (Nat.le_of_ble_eq_true rfl) (n := 206) rfl ?_
  refine a_to (L1 := [some (.ref q), some (.int 4)]) ?_ ⟨rfl, ⟨(congrArg (fun v : Int32 => some (Value.int v)) (by decide : (3 : Int32) + 1 = 4)), trivial⟩⟩
  refine a_goto C dX8_init_206 (n := 177) (by decide) ?_
  refine a_iload_n C dX8_init_177 rfl (n := 178) rfl ?_
  refine a_bipush C dX8_init_178 (v := 6) (by decide) (n := 180) rfl ?_
  refine a_icmp_ge C dX8_init_180 (tgt := 209) (by decide) (n := 183) rfl (fun q => absurd q (by decide)) (fun _ => ?_)
  refine a_aload_n C dX8_init_183 rfl (n := 184) rfl ?_
  refine a_get C 0 rfl rfl vi_7 0 (by decide) (gT_in (tb4 (List.mem_of_getElem? (i := 177) rfl)) rfl) hf dX8_init_184 (n := 187) rfl ?_
  refine a_bipush C dX8_init_187 (v := 21) (by decide) (n := 189) rfl ?_
  refine a_iload_n C dX8_init_189 rfl (n := 190) rfl ?_
  refine a_iadd C dX8_init_190 (n := 191) rfl ?_
  refine a_iconst C dX8_init_191 (v := 1) (by decide) (n := 192) rfl ?_
  refine a_iastL C (j := 25) ⟨by decide, by decide⟩ dX8_init_192 (n := 193) rfl ?_
  refine a_aload_n C dX8_init_193 rfl (n := 194) rfl ?_
  refine a_get C 0 rfl rfl vi_7 0 (by decide) (gT_in (tb4 (List.mem_of_getElem? (i := 177) rfl)) rfl) hf dX8_init_194 (n := 197) rfl ?_
  refine a_bipush C dX8_init_197 (v := 27) (by decide) (n := 199) rfl ?_
  refine a_iload_n C dX8_init_199 rfl (n := 200) rfl ?_
  refine a_iadd C dX8_init_200 (n := 201) rfl ?_
  refine a_iconst C dX8_init_201 (v := -1) (by decide) (n := 202) rfl ?_
  refine a_iastL C (j := 31) ⟨by decide, by decide⟩ dX8_init_202 (n := 203) rfl ?_
  refine a_iinc C dX8_init_203 rfl (c1 := 1) (by decide) (Nat.le_of_ble_eq_true rfl) (n := 206) rfl ?_
  refine a_to (L1 := [some (.ref q), some (.int 5)]) ?_ ⟨rfl, ⟨(congrArg (fun v : Int32 => some (Value.int v)) (by decide : (4 : Int32) + 1 = 5)), trivial⟩⟩
  refine a_goto C dX8_init_206 (n := 177) (by decide) ?_
  refine a_iload_n C dX8_init_177 rfl (n := 178) rfl ?_
  refine a_bipush C dX8_init_178 (v := 6) (by decide) (n := 180) rfl ?_
  refine a_icmp_ge C dX8_init_180 (tgt := 209) (by decide) (n := 183) rfl (fun q => absurd q (by decide)) (fun _ => ?_)
  refine a_aload_n C dX8_init_183 rfl (n := 184) rfl ?_
  refine a_get C 0 rfl rfl vi_7 0 (by decide) (gT_in (tb4 (List.mem_of_getElem? (i := 177) rfl)) rfl) hf dX8_init_184 (n := 187) rfl ?_
  refine a_bipush C dX8_init_187 (v := 21) (by decide) (n := 189) rfl ?_
  refine a_iload_n C dX8_init_189 rfl (n := 190) rfl ?_
  refine a_iadd C dX8_init_190 (n := 191) rfl ?_
  refine a_iconst C dX8_init_191 (v := 1) (by decide) (n := 192) rfl ?_
  refine a_iastL C (j := 26) ⟨by decide, by decide⟩ dX8_init_192 (n := 193) rfl ?_
  refine a_aload_n C dX8_init_193 rfl (n := 194) rfl ?_
  refine a_get C 0 rfl rfl vi_7 0 (by decide) (gT_in (tb4 (List.mem_of_getElem? (i := 177) rfl)) rfl) hf dX8_init_194 (n := 197) rfl ?_
  refine a_bipush C dX8_init_197 (v := 27) (by decide) (n := 199) rfl ?_
  refine a_iload_n C dX8_init_199 rfl (n := 200) rfl ?_
  refine a_iadd C dX8_init_200 (n := 201) rfl ?_
  refine a_iconst C dX8_init_201 (v := -1) (by decide) (n := 202) rfl ?_
  refine a_iastL C (j := 32) ⟨by decide, by decide⟩ dX8_init_202 (n := 203) rfl ?_
  refine a_iinc C dX8_init_203 rfl (c1 := 1) (by decide) (Nat.le_of_ble_eq_true rfl) (n := 206) rfl ?_
  refine a_to (L1 := [some (.ref q), some (.int 6)]) ?_ ⟨rfl, ⟨(congrArg (fun v : Int32 => some (Value.int v)) (by decide : (5 : Int32) + 1 = 6)), trivial⟩⟩
  refine a_goto C dX8_init_206 (n := 177) (by decide) ?_
  refine a_iload_n C dX8_init_177 rfl (n := 178) rfl ?_
  refine a_bipush C dX8_init_178 (v := 6) (by decide) (n := 180) rfl ?_
  refine a_icmp_ge C dX8_init_180 (tgt := 209) (by decide) (n := 183) rfl (fun _ => ?_) (fun q => absurd (by decide) q)
  exact k
theorem ki_X8_30 : (RX8, 30, "part", 0) ∈ stR := List.mem_of_getElem? (i := 14) rfl
theorem ki_X8_32 : (RX8, 32, "head", 1) ∈ stR := List.mem_of_getElem? (i := 15) rfl
theorem ki_X8_34 : (RX8, 34, "wigged", 2) ∈ stR := List.mem_of_getElem? (i := 16) rfl
theorem ki_X8_36 : (RX8, 36, "crowned", 3) ∈ stR := List.mem_of_getElem? (i := 17) rfl
theorem ki_X8_38 : (RX8, 38, "body", 4) ∈ stR := List.mem_of_getElem? (i := 18) rfl
theorem ki_X8_40 : (RX8, 40, "hands", 5) ∈ stR := List.mem_of_getElem? (i := 19) rfl
theorem ki_X8_42 : (RX8, 42, "gloved", 6) ∈ stR := List.mem_of_getElem? (i := 20) rfl
set_option maxHeartbeats 4000000 in
set_option maxRecDepth 100000 in
theorem c_X8 (l : Launch) (g : Gl) (q : Nat) : CCt l yX8_init cX8_init 2 1 12 8342 g [.ref q] [(q, .inr (7, [.null, .null, .null, .int 0, .null, .null, .int 0, .int 0, .int 0, .null, .int 0, .int 0, .int 0, .int 0, .int 0, .int 0, .null, .null, .int 0, .int 0, .null, .null, .null, .null]))] (oX8 g q) := by
  refine cct_of (by decide +kernel) rfl ⟨rfl, (Nat.le_of_ble_eq_true rfl)⟩ (fun x hl C o => ?_)
  obtain rfl := hl
  refine a_aload_n C dX8_init_0 rfl (n := 1) rfl ?_
  refine a_obj C (gT_in (tb4 (List.mem_of_getElem? (i := 167) rfl)) rfl) obI obC ⟨(Nat.le_of_ble_eq_true rfl), (Nat.le_of_ble_eq_true rfl)⟩ (Nat.le_of_ble_eq_true rfl) dX8_init_1 (n := 4) rfl ?_
  refine a_aload_n C dX8_init_4 rfl (n := 5) rfl ?_
  refine a_bipush C dX8_init_5 (v := 117) (by decide) (n := 7) rfl ?_
  refine a_newa C acI (N := 117) ⟨by decide, by decide, by decide⟩ ⟨(Nat.le_of_ble_eq_true rfl), (Nat.le_of_ble_eq_true rfl)⟩ dX8_init_7 (n := 9) rfl (fun q7 => ?_)
  refine a_putF C o 0 rfl rfl vi_7 tyX8 tyX8_ok nmX8 0 (by decide) (gT_in (tb4 (List.mem_of_getElem? (i := 177) rfl)) rfl) rfl rfl (tyX8_ok 0 (by decide)) ⟨rfl, rfl⟩ (Nat.le_of_ble_eq_true rfl) dX8_init_9 (n := 12) rfl ?_
  refine a_ws (ws1 := ([(q, .inr (7, [.ref q7, .null, .null, .int 0, .null, .null, .int 0, .int 0, .int 0, .null, .int 0, .int 0, .int 0, .int 0, .int 0, .int 0, .null, .null, .int 0, .int 0, .null, .null, .null, .null]))] ++ [(q7, .inl (g.2.2.1 0, 117, .inl (fun _ => 0)))])) ?_ rfl
  refine a_aload_n C dX8_init_12 rfl (n := 13) rfl ?_
  refine a_bipush C dX8_init_13 (v := 117) (by decide) (n := 15) rfl ?_
  refine a_newa C acI (N := 117) ⟨by decide, by decide, by decide⟩ ⟨(Nat.le_of_ble_eq_true rfl), (Nat.le_of_ble_eq_true rfl)⟩ dX8_init_15 (n := 17) rfl (fun q15 => ?_)
  refine a_putF C o 0 rfl rfl vi_7 tyX8 tyX8_ok nmX8 1 (by decide) (gT_in (tb4 (List.mem_of_getElem? (i := 178) rfl)) rfl) rfl rfl (tyX8_ok 1 (by decide)) ⟨rfl, rfl⟩ (Nat.le_of_ble_eq_true rfl) dX8_init_17 (n := 20) rfl ?_
  refine a_ws (ws1 := (([(q, .inr (7, [.ref q7, .ref q15, .null, .int 0, .null, .null, .int 0, .int 0, .int 0, .null, .int 0, .int 0, .int 0, .int 0, .int 0, .int 0, .null, .null, .int 0, .int 0, .null, .null, .null, .null]))] ++ [(q7, .inl (g.2.2.1 0, 117, .inl (fun _ => 0)))]) ++ [(q15, .inl (g.2.2.1 0, 117, .inl (fun _ => 0)))])) ?_ rfl
  refine a_aload_n C dX8_init_20 rfl (n := 21) rfl ?_
  refine a_bipush C dX8_init_21 (v := 117) (by decide) (n := 23) rfl ?_
  refine a_newa C acI (N := 117) ⟨by decide, by decide, by decide⟩ ⟨(Nat.le_of_ble_eq_true rfl), (Nat.le_of_ble_eq_true rfl)⟩ dX8_init_23 (n := 25) rfl (fun q23 => ?_)
  refine a_putF C o 0 rfl rfl vi_7 tyX8 tyX8_ok nmX8 2 (by decide) (gT_in (tb4 (List.mem_of_getElem? (i := 179) rfl)) rfl) rfl rfl (tyX8_ok 2 (by decide)) ⟨rfl, rfl⟩ (Nat.le_of_ble_eq_true rfl) dX8_init_25 (n := 28) rfl ?_
  refine a_ws (ws1 := ((([(q, .inr (7, [.ref q7, .ref q15, .ref q23, .int 0, .null, .null, .int 0, .int 0, .int 0, .null, .int 0, .int 0, .int 0, .int 0, .int 0, .int 0, .null, .null, .int 0, .int 0, .null, .null, .null, .null]))] ++ [(q7, .inl (g.2.2.1 0, 117, .inl (fun _ => 0)))]) ++ [(q15, .inl (g.2.2.1 0, 117, .inl (fun _ => 0)))]) ++ [(q23, .inl (g.2.2.1 0, 117, .inl (fun _ => 0)))])) ?_ rfl
  refine a_aload_n C dX8_init_28 rfl (n := 29) rfl ?_
  refine a_bipush C dX8_init_29 (v := 8) (by decide) (n := 31) rfl ?_
  refine a_newa C acI (N := 8) ⟨by decide, by decide, by decide⟩ ⟨(Nat.le_of_ble_eq_true rfl), (Nat.le_of_ble_eq_true rfl)⟩ dX8_init_31 (n := 33) rfl (fun q31 => ?_)
  refine a_putF C o 0 rfl rfl vi_7 tyX8 tyX8_ok nmX8 4 (by decide) (gT_in (tb4 (List.mem_of_getElem? (i := 181) rfl)) rfl) rfl rfl (tyX8_ok 4 (by decide)) ⟨rfl, rfl⟩ (Nat.le_of_ble_eq_true rfl) dX8_init_33 (n := 36) rfl ?_
  refine a_ws (ws1 := (((([(q, .inr (7, [.ref q7, .ref q15, .ref q23, .int 0, .ref q31, .null, .int 0, .int 0, .int 0, .null, .int 0, .int 0, .int 0, .int 0, .int 0, .int 0, .null, .null, .int 0, .int 0, .null, .null, .null, .null]))] ++ [(q7, .inl (g.2.2.1 0, 117, .inl (fun _ => 0)))]) ++ [(q15, .inl (g.2.2.1 0, 117, .inl (fun _ => 0)))]) ++ [(q23, .inl (g.2.2.1 0, 117, .inl (fun _ => 0)))]) ++ [(q31, .inl (g.2.2.1 0, 8, .inl (fun _ => 0)))])) ?_ rfl
  refine a_aload_n C dX8_init_36 rfl (n := 37) rfl ?_
  refine a_sipush C dX8_init_37 (v := 7168) (by decide) (n := 40) rfl ?_
  refine a_newa C acI (N := 7168) ⟨by decide, by decide, by decide⟩ ⟨(Nat.le_of_ble_eq_true rfl), (Nat.le_of_ble_eq_true rfl)⟩ dX8_init_40 (n := 42) rfl (fun q40 => ?_)
  refine a_putF C o 0 rfl rfl vi_7 tyX8 tyX8_ok nmX8 5 (by decide) (gT_in (tb4 (List.mem_of_getElem? (i := 182) rfl)) rfl) rfl rfl (tyX8_ok 5 (by decide)) ⟨rfl, rfl⟩ (Nat.le_of_ble_eq_true rfl) dX8_init_42 (n := 45) rfl ?_
  refine a_ws (ws1 := ((((([(q, .inr (7, [.ref q7, .ref q15, .ref q23, .int 0, .ref q31, .ref q40, .int 0, .int 0, .int 0, .null, .int 0, .int 0, .int 0, .int 0, .int 0, .int 0, .null, .null, .int 0, .int 0, .null, .null, .null, .null]))] ++ [(q7, .inl (g.2.2.1 0, 117, .inl (fun _ => 0)))]) ++ [(q15, .inl (g.2.2.1 0, 117, .inl (fun _ => 0)))]) ++ [(q23, .inl (g.2.2.1 0, 117, .inl (fun _ => 0)))]) ++ [(q31, .inl (g.2.2.1 0, 8, .inl (fun _ => 0)))]) ++ [(q40, .inl (g.2.2.1 0, 7168, .inl (fun _ => 0)))])) ?_ rfl
  refine a_aload_n C dX8_init_45 rfl (n := 46) rfl ?_
  refine a_bipush C dX8_init_46 (v := 120) (by decide) (n := 48) rfl ?_
  refine a_newa C acI (N := 120) ⟨by decide, by decide, by decide⟩ ⟨(Nat.le_of_ble_eq_true rfl), (Nat.le_of_ble_eq_true rfl)⟩ dX8_init_48 (n := 50) rfl (fun q48 => ?_)
  refine a_putF C o 0 rfl rfl vi_7 tyX8 tyX8_ok nmX8 9 (by decide) (gT_in (tb4 (List.mem_of_getElem? (i := 186) rfl)) rfl) rfl rfl (tyX8_ok 9 (by decide)) ⟨rfl, rfl⟩ (Nat.le_of_ble_eq_true rfl) dX8_init_50 (n := 53) rfl ?_
  refine a_ws (ws1 := (((((([(q, .inr (7, [.ref q7, .ref q15, .ref q23, .int 0, .ref q31, .ref q40, .int 0, .int 0, .int 0, .ref q48, .int 0, .int 0, .int 0, .int 0, .int 0, .int 0, .null, .null, .int 0, .int 0, .null, .null, .null, .null]))] ++ [(q7, .inl (g.2.2.1 0, 117, .inl (fun _ => 0)))]) ++ [(q15, .inl (g.2.2.1 0, 117, .inl (fun _ => 0)))]) ++ [(q23, .inl (g.2.2.1 0, 117, .inl (fun _ => 0)))]) ++ [(q31, .inl (g.2.2.1 0, 8, .inl (fun _ => 0)))]) ++ [(q40, .inl (g.2.2.1 0, 7168, .inl (fun _ => 0)))]) ++ [(q48, .inl (g.2.2.1 0, 120, .inl (fun _ => 0)))])) ?_ rfl
  refine a_aload_n C dX8_init_53 rfl (n := 54) rfl ?_
  refine a_bipush C dX8_init_54 (v := 7) (by decide) (n := 56) rfl ?_
  refine a_newq C (t0 := 3) (fun s h => (o.ao s h).2) rfl (gT_in (tb4 (List.mem_of_getElem? (i := 168) rfl)) rfl) (N := 7) ⟨by decide, by decide, by decide⟩ ⟨(Nat.le_of_ble_eq_true rfl), (Nat.le_of_ble_eq_true rfl)⟩ dX8_init_56 (n := 59) rfl (fun q56 => ?_)
  refine a_dup C dX8_init_59 rfl (n := 60) rfl ?_
  refine a_iconst C dX8_init_60 (v := 0) (by decide) (n := 61) rfl ?_
  refine a_ldcS C ki_X8_30 dX8_init_61 (n := 63) rfl ?_
  refine a_sast C 7 3 rfl rfl (by decide) rfl dX8_init_63 (n := 64) rfl ?_
  refine a_ws (ws1 := ((((((([(q, .inr (7, [.ref q7, .ref q15, .ref q23, .int 0, .ref q31, .ref q40, .int 0, .int 0, .int 0, .ref q48, .int 0, .int 0, .int 0, .int 0, .int 0, .int 0, .null, .null, .int 0, .int 0, .null, .null, .null, .null]))] ++ [(q7, .inl (g.2.2.1 0, 117, .inl (fun _ => 0)))]) ++ [(q15, .inl (g.2.2.1 0, 117, .inl (fun _ => 0)))]) ++ [(q23, .inl (g.2.2.1 0, 117, .inl (fun _ => 0)))]) ++ [(q31, .inl (g.2.2.1 0, 8, .inl (fun _ => 0)))]) ++ [(q40, .inl (g.2.2.1 0, 7168, .inl (fun _ => 0)))]) ++ [(q48, .inl (g.2.2.1 0, 120, .inl (fun _ => 0)))]) ++ [(q56, .inl (g.2.2.1 3, 7, .inr (.inr (.inr (.inr (va_up (fun _ => none) 0 (some (g.2.2.2.2.1 0))))))))])) ?_ rfl
  refine a_dup C dX8_init_64 rfl (n := 65) rfl ?_
  refine a_iconst C dX8_init_65 (v := 1) (by decide) (n := 66) rfl ?_
  refine a_ldcS C ki_X8_32 dX8_init_66 (n := 68) rfl ?_
  refine a_sast C 7 3 rfl rfl (by decide) rfl dX8_init_68 (n := 69) rfl ?_
  refine a_ws (ws1 := ((((((([(q, .inr (7, [.ref q7, .ref q15, .ref q23, .int 0, .ref q31, .ref q40, .int 0, .int 0, .int 0, .ref q48, .int 0, .int 0, .int 0, .int 0, .int 0, .int 0, .null, .null, .int 0, .int 0, .null, .null, .null, .null]))] ++ [(q7, .inl (g.2.2.1 0, 117, .inl (fun _ => 0)))]) ++ [(q15, .inl (g.2.2.1 0, 117, .inl (fun _ => 0)))]) ++ [(q23, .inl (g.2.2.1 0, 117, .inl (fun _ => 0)))]) ++ [(q31, .inl (g.2.2.1 0, 8, .inl (fun _ => 0)))]) ++ [(q40, .inl (g.2.2.1 0, 7168, .inl (fun _ => 0)))]) ++ [(q48, .inl (g.2.2.1 0, 120, .inl (fun _ => 0)))]) ++ [(q56, .inl (g.2.2.1 3, 7, .inr (.inr (.inr (.inr (va_up (va_up (fun _ => none) 0 (some (g.2.2.2.2.1 0))) 1 (some (g.2.2.2.2.1 1))))))))])) ?_ rfl
  refine a_dup C dX8_init_69 rfl (n := 70) rfl ?_
  refine a_iconst C dX8_init_70 (v := 2) (by decide) (n := 71) rfl ?_
  refine a_ldcS C ki_X8_34 dX8_init_71 (n := 73) rfl ?_
  refine a_sast C 7 3 rfl rfl (by decide) rfl dX8_init_73 (n := 74) rfl ?_
  refine a_ws (ws1 := ((((((([(q, .inr (7, [.ref q7, .ref q15, .ref q23, .int 0, .ref q31, .ref q40, .int 0, .int 0, .int 0, .ref q48, .int 0, .int 0, .int 0, .int 0, .int 0, .int 0, .null, .null, .int 0, .int 0, .null, .null, .null, .null]))] ++ [(q7, .inl (g.2.2.1 0, 117, .inl (fun _ => 0)))]) ++ [(q15, .inl (g.2.2.1 0, 117, .inl (fun _ => 0)))]) ++ [(q23, .inl (g.2.2.1 0, 117, .inl (fun _ => 0)))]) ++ [(q31, .inl (g.2.2.1 0, 8, .inl (fun _ => 0)))]) ++ [(q40, .inl (g.2.2.1 0, 7168, .inl (fun _ => 0)))]) ++ [(q48, .inl (g.2.2.1 0, 120, .inl (fun _ => 0)))]) ++ [(q56, .inl (g.2.2.1 3, 7, .inr (.inr (.inr (.inr (va_up (va_up (va_up (fun _ => none) 0 (some (g.2.2.2.2.1 0))) 1 (some (g.2.2.2.2.1 1))) 2 (some (g.2.2.2.2.1 2))))))))])) ?_ rfl
  refine a_dup C dX8_init_74 rfl (n := 75) rfl ?_
  refine a_iconst C dX8_init_75 (v := 3) (by decide) (n := 76) rfl ?_
  refine a_ldcS C ki_X8_36 dX8_init_76 (n := 78) rfl ?_
  refine a_sast C 7 3 rfl rfl (by decide) rfl dX8_init_78 (n := 79) rfl ?_
  refine a_ws (ws1 := ((((((([(q, .inr (7, [.ref q7, .ref q15, .ref q23, .int 0, .ref q31, .ref q40, .int 0, .int 0, .int 0, .ref q48, .int 0, .int 0, .int 0, .int 0, .int 0, .int 0, .null, .null, .int 0, .int 0, .null, .null, .null, .null]))] ++ [(q7, .inl (g.2.2.1 0, 117, .inl (fun _ => 0)))]) ++ [(q15, .inl (g.2.2.1 0, 117, .inl (fun _ => 0)))]) ++ [(q23, .inl (g.2.2.1 0, 117, .inl (fun _ => 0)))]) ++ [(q31, .inl (g.2.2.1 0, 8, .inl (fun _ => 0)))]) ++ [(q40, .inl (g.2.2.1 0, 7168, .inl (fun _ => 0)))]) ++ [(q48, .inl (g.2.2.1 0, 120, .inl (fun _ => 0)))]) ++ [(q56, .inl (g.2.2.1 3, 7, .inr (.inr (.inr (.inr (va_up (va_up (va_up (va_up (fun _ => none) 0 (some (g.2.2.2.2.1 0))) 1 (some (g.2.2.2.2.1 1))) 2 (some (g.2.2.2.2.1 2))) 3 (some (g.2.2.2.2.1 3))))))))])) ?_ rfl
  refine a_dup C dX8_init_79 rfl (n := 80) rfl ?_
  refine a_iconst C dX8_init_80 (v := 4) (by decide) (n := 81) rfl ?_
  refine a_ldcS C ki_X8_38 dX8_init_81 (n := 83) rfl ?_
  refine a_sast C 7 3 rfl rfl (by decide) rfl dX8_init_83 (n := 84) rfl ?_
  refine a_ws (ws1 := ((((((([(q, .inr (7, [.ref q7, .ref q15, .ref q23, .int 0, .ref q31, .ref q40, .int 0, .int 0, .int 0, .ref q48, .int 0, .int 0, .int 0, .int 0, .int 0, .int 0, .null, .null, .int 0, .int 0, .null, .null, .null, .null]))] ++ [(q7, .inl (g.2.2.1 0, 117, .inl (fun _ => 0)))]) ++ [(q15, .inl (g.2.2.1 0, 117, .inl (fun _ => 0)))]) ++ [(q23, .inl (g.2.2.1 0, 117, .inl (fun _ => 0)))]) ++ [(q31, .inl (g.2.2.1 0, 8, .inl (fun _ => 0)))]) ++ [(q40, .inl (g.2.2.1 0, 7168, .inl (fun _ => 0)))]) ++ [(q48, .inl (g.2.2.1 0, 120, .inl (fun _ => 0)))]) ++ [(q56, .inl (g.2.2.1 3, 7, .inr (.inr (.inr (.inr (va_up (va_up (va_up (va_up (va_up (fun _ => none) 0 (some (g.2.2.2.2.1 0))) 1 (some (g.2.2.2.2.1 1))) 2 (some (g.2.2.2.2.1 2))) 3 (some (g.2.2.2.2.1 3))) 4 (some (g.2.2.2.2.1 4))))))))])) ?_ rfl
  refine a_dup C dX8_init_84 rfl (n := 85) rfl ?_
  refine a_iconst C dX8_init_85 (v := 5) (by decide) (n := 86) rfl ?_
  refine a_ldcS C ki_X8_40 dX8_init_86 (n := 88) rfl ?_
  refine a_sast C 7 3 rfl rfl (by decide) rfl dX8_init_88 (n := 89) rfl ?_
  refine a_ws (ws1 := ((((((([(q, .inr (7, [.ref q7, .ref q15, .ref q23, .int 0, .ref q31, .ref q40, .int 0, .int 0, .int 0, .ref q48, .int 0, .int 0, .int 0, .int 0, .int 0, .int 0, .null, .null, .int 0, .int 0, .null, .null, .null, .null]))] ++ [(q7, .inl (g.2.2.1 0, 117, .inl (fun _ => 0)))]) ++ [(q15, .inl (g.2.2.1 0, 117, .inl (fun _ => 0)))]) ++ [(q23, .inl (g.2.2.1 0, 117, .inl (fun _ => 0)))]) ++ [(q31, .inl (g.2.2.1 0, 8, .inl (fun _ => 0)))]) ++ [(q40, .inl (g.2.2.1 0, 7168, .inl (fun _ => 0)))]) ++ [(q48, .inl (g.2.2.1 0, 120, .inl (fun _ => 0)))]) ++ [(q56, .inl (g.2.2.1 3, 7, .inr (.inr (.inr (.inr (va_up (va_up (va_up (va_up (va_up (va_up (fun _ => none) 0 (some (g.2.2.2.2.1 0))) 1 (some (g.2.2.2.2.1 1))) 2 (some (g.2.2.2.2.1 2))) 3 (some (g.2.2.2.2.1 3))) 4 (some (g.2.2.2.2.1 4))) 5 (some (g.2.2.2.2.1 5))))))))])) ?_ rfl
  refine a_dup C dX8_init_89 rfl (n := 90) rfl ?_
  refine a_bipush C dX8_init_90 (v := 6) (by decide) (n := 92) rfl ?_
  refine a_ldcS C ki_X8_42 dX8_init_92 (n := 94) rfl ?_
  refine a_sast C 7 3 rfl rfl (by decide) rfl dX8_init_94 (n := 95) rfl ?_
  refine a_ws (ws1 := ((((((([(q, .inr (7, [.ref q7, .ref q15, .ref q23, .int 0, .ref q31, .ref q40, .int 0, .int 0, .int 0, .ref q48, .int 0, .int 0, .int 0, .int 0, .int 0, .int 0, .null, .null, .int 0, .int 0, .null, .null, .null, .null]))] ++ [(q7, .inl (g.2.2.1 0, 117, .inl (fun _ => 0)))]) ++ [(q15, .inl (g.2.2.1 0, 117, .inl (fun _ => 0)))]) ++ [(q23, .inl (g.2.2.1 0, 117, .inl (fun _ => 0)))]) ++ [(q31, .inl (g.2.2.1 0, 8, .inl (fun _ => 0)))]) ++ [(q40, .inl (g.2.2.1 0, 7168, .inl (fun _ => 0)))]) ++ [(q48, .inl (g.2.2.1 0, 120, .inl (fun _ => 0)))]) ++ [(q56, .inl (g.2.2.1 3, 7, .inr (.inr (.inr (.inr (va_up (va_up (va_up (va_up (va_up (va_up (va_up (fun _ => none) 0 (some (g.2.2.2.2.1 0))) 1 (some (g.2.2.2.2.1 1))) 2 (some (g.2.2.2.2.1 2))) 3 (some (g.2.2.2.2.1 3))) 4 (some (g.2.2.2.2.1 4))) 5 (some (g.2.2.2.2.1 5))) 6 (some (g.2.2.2.2.1 6))))))))])) ?_ rfl
  refine a_putF C o 0 rfl rfl vi_7 tyX8 tyX8_ok nmX8 16 (by decide) (gT_in (tb4 (List.mem_of_getElem? (i := 193) rfl)) rfl) rfl rfl (tyX8_ok 16 (by decide)) ⟨rfl, rfl⟩ (Nat.le_of_ble_eq_true rfl) dX8_init_95 (n := 98) rfl ?_
  refine a_ws (ws1 := ((((((([(q, .inr (7, [.ref q7, .ref q15, .ref q23, .int 0, .ref q31, .ref q40, .int 0, .int 0, .int 0, .ref q48, .int 0, .int 0, .int 0, .int 0, .int 0, .int 0, .ref q56, .null, .int 0, .int 0, .null, .null, .null, .null]))] ++ [(q7, .inl (g.2.2.1 0, 117, .inl (fun _ => 0)))]) ++ [(q15, .inl (g.2.2.1 0, 117, .inl (fun _ => 0)))]) ++ [(q23, .inl (g.2.2.1 0, 117, .inl (fun _ => 0)))]) ++ [(q31, .inl (g.2.2.1 0, 8, .inl (fun _ => 0)))]) ++ [(q40, .inl (g.2.2.1 0, 7168, .inl (fun _ => 0)))]) ++ [(q48, .inl (g.2.2.1 0, 120, .inl (fun _ => 0)))]) ++ [(q56, .inl (g.2.2.1 3, 7, .inr (.inr (.inr (.inr (va_up (va_up (va_up (va_up (va_up (va_up (va_up (fun _ => none) 0 (some (g.2.2.2.2.1 0))) 1 (some (g.2.2.2.2.1 1))) 2 (some (g.2.2.2.2.1 2))) 3 (some (g.2.2.2.2.1 3))) 4 (some (g.2.2.2.2.1 4))) 5 (some (g.2.2.2.2.1 5))) 6 (some (g.2.2.2.2.1 6))))))))])) ?_ rfl
  refine a_aload_n C dX8_init_98 rfl (n := 99) rfl ?_
  refine a_sipush C dX8_init_99 (v := 480) (by decide) (n := 102) rfl ?_
  refine a_newa C acI (N := 480) ⟨by decide, by decide, by decide⟩ ⟨(Nat.le_of_ble_eq_true rfl), (Nat.le_of_ble_eq_true rfl)⟩ dX8_init_102 (n := 104) rfl (fun q102 => ?_)
  refine a_putF C o 0 rfl rfl vi_7 tyX8 tyX8_ok nmX8 17 (by decide) (gT_in (tb4 (List.mem_of_getElem? (i := 194) rfl)) rfl) rfl rfl (tyX8_ok 17 (by decide)) ⟨rfl, rfl⟩ (Nat.le_of_ble_eq_true rfl) dX8_init_104 (n := 107) rfl ?_
  refine a_ws (ws1 := (((((((([(q, .inr (7, [.ref q7, .ref q15, .ref q23, .int 0, .ref q31, .ref q40, .int 0, .int 0, .int 0, .ref q48, .int 0, .int 0, .int 0, .int 0, .int 0, .int 0, .ref q56, .ref q102, .int 0, .int 0, .null, .null, .null, .null]))] ++ [(q7, .inl (g.2.2.1 0, 117, .inl (fun _ => 0)))]) ++ [(q15, .inl (g.2.2.1 0, 117, .inl (fun _ => 0)))]) ++ [(q23, .inl (g.2.2.1 0, 117, .inl (fun _ => 0)))]) ++ [(q31, .inl (g.2.2.1 0, 8, .inl (fun _ => 0)))]) ++ [(q40, .inl (g.2.2.1 0, 7168, .inl (fun _ => 0)))]) ++ [(q48, .inl (g.2.2.1 0, 120, .inl (fun _ => 0)))]) ++ [(q56, .inl (g.2.2.1 3, 7, .inr (.inr (.inr (.inr (va_up (va_up (va_up (va_up (va_up (va_up (va_up (fun _ => none) 0 (some (g.2.2.2.2.1 0))) 1 (some (g.2.2.2.2.1 1))) 2 (some (g.2.2.2.2.1 2))) 3 (some (g.2.2.2.2.1 3))) 4 (some (g.2.2.2.2.1 4))) 5 (some (g.2.2.2.2.1 5))) 6 (some (g.2.2.2.2.1 6))))))))]) ++ [(q102, .inl (g.2.2.1 0, 480, .inl (fun _ => 0)))])) ?_ rfl
  refine a_aload_n C dX8_init_107 rfl (n := 108) rfl ?_
  refine a_iconst C dX8_init_108 (v := 4) (by decide) (n := 109) rfl ?_
  refine a_newa C acI (N := 4) ⟨by decide, by decide, by decide⟩ ⟨(Nat.le_of_ble_eq_true rfl), (Nat.le_of_ble_eq_true rfl)⟩ dX8_init_109 (n := 111) rfl (fun q109 => ?_)
  refine a_putF C o 0 rfl rfl vi_7 tyX8 tyX8_ok nmX8 20 (by decide) (gT_in (tb4 (List.mem_of_getElem? (i := 197) rfl)) rfl) rfl rfl (tyX8_ok 20 (by decide)) ⟨rfl, rfl⟩ (Nat.le_of_ble_eq_true rfl) dX8_init_111 (n := 114) rfl ?_
  refine a_ws (ws1 := ((((((((([(q, .inr (7, [.ref q7, .ref q15, .ref q23, .int 0, .ref q31, .ref q40, .int 0, .int 0, .int 0, .ref q48, .int 0, .int 0, .int 0, .int 0, .int 0, .int 0, .ref q56, .ref q102, .int 0, .int 0, .ref q109, .null, .null, .null]))] ++ [(q7, .inl (g.2.2.1 0, 117, .inl (fun _ => 0)))]) ++ [(q15, .inl (g.2.2.1 0, 117, .inl (fun _ => 0)))]) ++ [(q23, .inl (g.2.2.1 0, 117, .inl (fun _ => 0)))]) ++ [(q31, .inl (g.2.2.1 0, 8, .inl (fun _ => 0)))]) ++ [(q40, .inl (g.2.2.1 0, 7168, .inl (fun _ => 0)))]) ++ [(q48, .inl (g.2.2.1 0, 120, .inl (fun _ => 0)))]) ++ [(q56, .inl (g.2.2.1 3, 7, .inr (.inr (.inr (.inr (va_up (va_up (va_up (va_up (va_up (va_up (va_up (fun _ => none) 0 (some (g.2.2.2.2.1 0))) 1 (some (g.2.2.2.2.1 1))) 2 (some (g.2.2.2.2.1 2))) 3 (some (g.2.2.2.2.1 3))) 4 (some (g.2.2.2.2.1 4))) 5 (some (g.2.2.2.2.1 5))) 6 (some (g.2.2.2.2.1 6))))))))]) ++ [(q102, .inl (g.2.2.1 0, 480, .inl (fun _ => 0)))]) ++ [(q109, .inl (g.2.2.1 0, 4, .inl (fun _ => 0)))])) ?_ rfl
  refine a_aload_n C dX8_init_114 rfl (n := 115) rfl ?_
  refine a_iconst C dX8_init_115 (v := 4) (by decide) (n := 116) rfl ?_
  refine a_newa C acI (N := 4) ⟨by decide, by decide, by decide⟩ ⟨(Nat.le_of_ble_eq_true rfl), (Nat.le_of_ble_eq_true rfl)⟩ dX8_init_116 (n := 118) rfl (fun q116 => ?_)
  refine a_putF C o 0 rfl rfl vi_7 tyX8 tyX8_ok nmX8 21 (by decide) (gT_in (tb4 (List.mem_of_getElem? (i := 198) rfl)) rfl) rfl rfl (tyX8_ok 21 (by decide)) ⟨rfl, rfl⟩ (Nat.le_of_ble_eq_true rfl) dX8_init_118 (n := 121) rfl ?_
  refine a_ws (ws1 := (((((((((([(q, .inr (7, [.ref q7, .ref q15, .ref q23, .int 0, .ref q31, .ref q40, .int 0, .int 0, .int 0, .ref q48, .int 0, .int 0, .int 0, .int 0, .int 0, .int 0, .ref q56, .ref q102, .int 0, .int 0, .ref q109, .ref q116, .null, .null]))] ++ [(q7, .inl (g.2.2.1 0, 117, .inl (fun _ => 0)))]) ++ [(q15, .inl (g.2.2.1 0, 117, .inl (fun _ => 0)))]) ++ [(q23, .inl (g.2.2.1 0, 117, .inl (fun _ => 0)))]) ++ [(q31, .inl (g.2.2.1 0, 8, .inl (fun _ => 0)))]) ++ [(q40, .inl (g.2.2.1 0, 7168, .inl (fun _ => 0)))]) ++ [(q48, .inl (g.2.2.1 0, 120, .inl (fun _ => 0)))]) ++ [(q56, .inl (g.2.2.1 3, 7, .inr (.inr (.inr (.inr (va_up (va_up (va_up (va_up (va_up (va_up (va_up (fun _ => none) 0 (some (g.2.2.2.2.1 0))) 1 (some (g.2.2.2.2.1 1))) 2 (some (g.2.2.2.2.1 2))) 3 (some (g.2.2.2.2.1 3))) 4 (some (g.2.2.2.2.1 4))) 5 (some (g.2.2.2.2.1 5))) 6 (some (g.2.2.2.2.1 6))))))))]) ++ [(q102, .inl (g.2.2.1 0, 480, .inl (fun _ => 0)))]) ++ [(q109, .inl (g.2.2.1 0, 4, .inl (fun _ => 0)))]) ++ [(q116, .inl (g.2.2.1 0, 4, .inl (fun _ => 0)))])) ?_ rfl
  refine a_aload_n C dX8_init_121 rfl (n := 122) rfl ?_
  refine a_sipush C dX8_init_122 (v := 160) (by decide) (n := 125) rfl ?_
  refine a_newa C acI (N := 160) ⟨by decide, by decide, by decide⟩ ⟨(Nat.le_of_ble_eq_true rfl), (Nat.le_of_ble_eq_true rfl)⟩ dX8_init_125 (n := 127) rfl (fun q125 => ?_)
  refine a_putF C o 0 rfl rfl vi_7 tyX8 tyX8_ok nmX8 22 (by decide) (gT_in (tb4 (List.mem_of_getElem? (i := 199) rfl)) rfl) rfl rfl (tyX8_ok 22 (by decide)) ⟨rfl, rfl⟩ (Nat.le_of_ble_eq_true rfl) dX8_init_127 (n := 130) rfl ?_
  refine a_ws (ws1 := ((((((((((([(q, .inr (7, [.ref q7, .ref q15, .ref q23, .int 0, .ref q31, .ref q40, .int 0, .int 0, .int 0, .ref q48, .int 0, .int 0, .int 0, .int 0, .int 0, .int 0, .ref q56, .ref q102, .int 0, .int 0, .ref q109, .ref q116, .ref q125, .null]))] ++ [(q7, .inl (g.2.2.1 0, 117, .inl (fun _ => 0)))]) ++ [(q15, .inl (g.2.2.1 0, 117, .inl (fun _ => 0)))]) ++ [(q23, .inl (g.2.2.1 0, 117, .inl (fun _ => 0)))]) ++ [(q31, .inl (g.2.2.1 0, 8, .inl (fun _ => 0)))]) ++ [(q40, .inl (g.2.2.1 0, 7168, .inl (fun _ => 0)))]) ++ [(q48, .inl (g.2.2.1 0, 120, .inl (fun _ => 0)))]) ++ [(q56, .inl (g.2.2.1 3, 7, .inr (.inr (.inr (.inr (va_up (va_up (va_up (va_up (va_up (va_up (va_up (fun _ => none) 0 (some (g.2.2.2.2.1 0))) 1 (some (g.2.2.2.2.1 1))) 2 (some (g.2.2.2.2.1 2))) 3 (some (g.2.2.2.2.1 3))) 4 (some (g.2.2.2.2.1 4))) 5 (some (g.2.2.2.2.1 5))) 6 (some (g.2.2.2.2.1 6))))))))]) ++ [(q102, .inl (g.2.2.1 0, 480, .inl (fun _ => 0)))]) ++ [(q109, .inl (g.2.2.1 0, 4, .inl (fun _ => 0)))]) ++ [(q116, .inl (g.2.2.1 0, 4, .inl (fun _ => 0)))]) ++ [(q125, .inl (g.2.2.1 0, 160, .inl (fun _ => 0)))])) ?_ rfl
  refine a_aload_n C dX8_init_130 rfl (n := 131) rfl ?_
  refine a_bipush C dX8_init_131 (v := 40) (by decide) (n := 133) rfl ?_
  refine a_newa C acI (N := 40) ⟨by decide, by decide, by decide⟩ ⟨(Nat.le_of_ble_eq_true rfl), (Nat.le_of_ble_eq_true rfl)⟩ dX8_init_133 (n := 135) rfl (fun q133 => ?_)
  refine a_putF C o 0 rfl rfl vi_7 tyX8 tyX8_ok nmX8 23 (by decide) (gT_in (tb4 (List.mem_of_getElem? (i := 200) rfl)) rfl) rfl rfl (tyX8_ok 23 (by decide)) ⟨rfl, rfl⟩ (Nat.le_of_ble_eq_true rfl) dX8_init_135 (n := 138) rfl ?_
  refine a_ws (ws1 := (((((((((((([(q, .inr (7, [.ref q7, .ref q15, .ref q23, .int 0, .ref q31, .ref q40, .int 0, .int 0, .int 0, .ref q48, .int 0, .int 0, .int 0, .int 0, .int 0, .int 0, .ref q56, .ref q102, .int 0, .int 0, .ref q109, .ref q116, .ref q125, .ref q133]))] ++ [(q7, .inl (g.2.2.1 0, 117, .inl (fun _ => 0)))]) ++ [(q15, .inl (g.2.2.1 0, 117, .inl (fun _ => 0)))]) ++ [(q23, .inl (g.2.2.1 0, 117, .inl (fun _ => 0)))]) ++ [(q31, .inl (g.2.2.1 0, 8, .inl (fun _ => 0)))]) ++ [(q40, .inl (g.2.2.1 0, 7168, .inl (fun _ => 0)))]) ++ [(q48, .inl (g.2.2.1 0, 120, .inl (fun _ => 0)))]) ++ [(q56, .inl (g.2.2.1 3, 7, .inr (.inr (.inr (.inr (va_up (va_up (va_up (va_up (va_up (va_up (va_up (fun _ => none) 0 (some (g.2.2.2.2.1 0))) 1 (some (g.2.2.2.2.1 1))) 2 (some (g.2.2.2.2.1 2))) 3 (some (g.2.2.2.2.1 3))) 4 (some (g.2.2.2.2.1 4))) 5 (some (g.2.2.2.2.1 5))) 6 (some (g.2.2.2.2.1 6))))))))]) ++ [(q102, .inl (g.2.2.1 0, 480, .inl (fun _ => 0)))]) ++ [(q109, .inl (g.2.2.1 0, 4, .inl (fun _ => 0)))]) ++ [(q116, .inl (g.2.2.1 0, 4, .inl (fun _ => 0)))]) ++ [(q125, .inl (g.2.2.1 0, 160, .inl (fun _ => 0)))]) ++ [(q133, .inl (g.2.2.1 0, 40, .inl (fun _ => 0)))])) ?_ rfl
  refine a_ws (ws1 := [(q, .inr (7, [.ref q7, .ref q15, .ref q23, .int 0, .ref q31, .ref q40, .int 0, .int 0, .int 0, .ref q48, .int 0, .int 0, .int 0, .int 0, .int 0, .int 0, .ref q56, .ref q102, .int 0, .int 0, .ref q109, .ref q116, .ref q125, .ref q133])), (q7, .inl (g.2.2.1 0, 117, .inl (fun _ => 0))), (q15, .inl (g.2.2.1 0, 117, .inl (fun _ => 0))), (q23, .inl (g.2.2.1 0, 117, .inl (fun _ => 0))), (q31, .inl (g.2.2.1 0, 8, .inl (fun _ => 0))), (q40, .inl (g.2.2.1 0, 7168, .inl (fun _ => 0))), (q48, .inl (g.2.2.1 0, 120, .inl (fun _ => 0))), (q56, .inl (g.2.2.1 3, 7, .inr (.inr (.inr (.inr (va_up (va_up (va_up (va_up (va_up (va_up (va_up (fun _ => none) 0 (some (g.2.2.2.2.1 0))) 1 (some (g.2.2.2.2.1 1))) 2 (some (g.2.2.2.2.1 2))) 3 (some (g.2.2.2.2.1 3))) 4 (some (g.2.2.2.2.1 4))) 5 (some (g.2.2.2.2.1 5))) 6 (some (g.2.2.2.2.1 6)))))))), (q102, .inl (g.2.2.1 0, 480, .inl (fun _ => 0))), (q109, .inl (g.2.2.1 0, 4, .inl (fun _ => 0))), (q116, .inl (g.2.2.1 0, 4, .inl (fun _ => 0))), (q125, .inl (g.2.2.1 0, 160, .inl (fun _ => 0))), (q133, .inl (g.2.2.1 0, 40, .inl (fun _ => 0)))]) ?_ (by simp only [List.cons_append, List.append_assoc, List.nil_append])
  refine l_X8 C rfl ?_
  refine a_cell 1 (y1 := (117, .inl (fun i => tbN.getD i 0))) rfl ?_ ?_
  · rw [vp_cell_i, vp_cell_i]
    exact arrV_cg (fun j hj => by rw [nwF_ok j hj])
  refine a_ws (ws1 := [(q, .inr (7, [.ref q7, .ref q15, .ref q23, .int 0, .ref q31, .ref q40, .int 0, .int 0, .int 0, .ref q48, .int 0, .int 0, .int 0, .int 0, .int 0, .int 0, .ref q56, .ref q102, .int 0, .int 0, .ref q109, .ref q116, .ref q125, .ref q133])), (q7, .inl (g.2.2.1 0, 117, .inl (fun i => tbN.getD i 0))), (q15, .inl (g.2.2.1 0, 117, .inl (fun _ => 0))), (q23, .inl (g.2.2.1 0, 117, .inl (fun _ => 0))), (q31, .inl (g.2.2.1 0, 8, .inl (fun _ => 0))), (q40, .inl (g.2.2.1 0, 7168, .inl (fun _ => 0))), (q48, .inl (g.2.2.1 0, 120, .inl (fun _ => 0))), (q56, .inl (g.2.2.1 3, 7, .inr (.inr (.inr (.inr (va_up (va_up (va_up (va_up (va_up (va_up (va_up (fun _ => none) 0 (some (g.2.2.2.2.1 0))) 1 (some (g.2.2.2.2.1 1))) 2 (some (g.2.2.2.2.1 2))) 3 (some (g.2.2.2.2.1 3))) 4 (some (g.2.2.2.2.1 4))) 5 (some (g.2.2.2.2.1 5))) 6 (some (g.2.2.2.2.1 6)))))))), (q102, .inl (g.2.2.1 0, 480, .inl (fun _ => 0))), (q109, .inl (g.2.2.1 0, 4, .inl (fun _ => 0))), (q116, .inl (g.2.2.1 0, 4, .inl (fun _ => 0))), (q125, .inl (g.2.2.1 0, 160, .inl (fun _ => 0))), (q133, .inl (g.2.2.1 0, 40, .inl (fun _ => 0)))]) ?_ rfl
  refine a_cell 7 (y1 := (7, .inr (.inr (.inr (.inr (stA g)))))) rfl ?_ ?_
  · rw [vp_cell_q, vp_cell_q]
    refine arrV_cg (fun j hj => ?_)
    rcases (show j = 0 ∨ j = 1 ∨ j = 2 ∨ j = 3 ∨ j = 4 ∨ j = 5 ∨ j = 6 by omega) with rfl | rfl | rfl | rfl | rfl | rfl | rfl <;> rfl
  refine a_ws (ws1 := [(q, .inr (7, [.ref q7, .ref q15, .ref q23, .int 0, .ref q31, .ref q40, .int 0, .int 0, .int 0, .ref q48, .int 0, .int 0, .int 0, .int 0, .int 0, .int 0, .ref q56, .ref q102, .int 0, .int 0, .ref q109, .ref q116, .ref q125, .ref q133])), (q7, .inl (g.2.2.1 0, 117, .inl (fun i => tbN.getD i 0))), (q15, .inl (g.2.2.1 0, 117, .inl (fun _ => 0))), (q23, .inl (g.2.2.1 0, 117, .inl (fun _ => 0))), (q31, .inl (g.2.2.1 0, 8, .inl (fun _ => 0))), (q40, .inl (g.2.2.1 0, 7168, .inl (fun _ => 0))), (q48, .inl (g.2.2.1 0, 120, .inl (fun _ => 0))), (q56, .inl (g.2.2.1 3, 7, .inr (.inr (.inr (.inr (stA g)))))), (q102, .inl (g.2.2.1 0, 480, .inl (fun _ => 0))), (q109, .inl (g.2.2.1 0, 4, .inl (fun _ => 0))), (q116, .inl (g.2.2.1 0, 4, .inl (fun _ => 0))), (q125, .inl (g.2.2.1 0, 160, .inl (fun _ => 0))), (q133, .inl (g.2.2.1 0, 40, .inl (fun _ => 0)))]) ?_ rfl
  exact a_retC C (fun k => ([q7, q15, q23, q31, q40, q48, q56, q102, q109, q116, q125, q133] : List Nat).getD k 0) dX8_init_209 rfl
