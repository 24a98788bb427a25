theorem mi_J0_length_8abf5 : MI yJ0_length_8abf5 cJ0_length_8abf5 1 (some .int) 0 := ⟨gT_in (tb4 (List.mem_of_getElem? (i := 2) rfl)) rfl, gT_in (tb1 (List.mem_of_getElem? (i := 14) rfl)) rfl, by decide +kernel⟩
theorem iv_J0_length_8abf5 : Cond.instanceMethod yJ0_length_8abf5 ∈ gT ∧ Cond.selects RJ0 yJ0_length_8abf5 yJ0_length_8abf5 ∈ gT := ⟨gT_in (tb4 (List.mem_of_getElem? (i := 0) rfl)) rfl, gT_in (tb4 (List.mem_of_getElem? (i := 1) rfl)) rfl⟩
theorem mi_J0_charAt_5068e : MI yJ0_charAt_5068e cJ0_charAt_5068e 2 (some .char) 1 := ⟨gT_in (tb4 (List.mem_of_getElem? (i := 12) rfl)) rfl, gT_in (tb1 (List.mem_of_getElem? (i := 14) rfl)) rfl, by decide +kernel⟩
theorem iv_J0_charAt_5068e : Cond.instanceMethod yJ0_charAt_5068e ∈ gT ∧ Cond.selects RJ0 yJ0_charAt_5068e yJ0_charAt_5068e ∈ gT := ⟨gT_in (tb4 (List.mem_of_getElem? (i := 10) rfl)) rfl, gT_in (tb4 (List.mem_of_getElem? (i := 11) rfl)) rfl⟩
theorem mi_J0_coder_7d493 : MI yJ0_coder_7d493 cJ0_coder_7d493 1 (some .byte) 0 := ⟨gT_in (tb4 (List.mem_of_getElem? (i := 6) rfl)) rfl, gT_in (tb1 (List.mem_of_getElem? (i := 14) rfl)) rfl, by decide +kernel⟩
theorem iv_J0_coder_7d493 : Cond.instanceMethod yJ0_coder_7d493 ∈ gT ∧ Cond.selects RJ0 yJ0_coder_7d493 yJ0_coder_7d493 ∈ gT := ⟨gT_in (tb4 (List.mem_of_getElem? (i := 4) rfl)) rfl, gT_in (tb4 (List.mem_of_getElem? (i := 5) rfl)) rfl⟩
theorem mi_J0_isLatin1_aae02 : MI yJ0_isLatin1_aae02 cJ0_isLatin1_aae02 1 (some .boolean) 0 := ⟨gT_in (tb4 (List.mem_of_getElem? (i := 16) rfl)) rfl, gT_in (tb1 (List.mem_of_getElem? (i := 14) rfl)) rfl, by decide +kernel⟩
theorem iv_J0_isLatin1_aae02 : Cond.instanceMethod yJ0_isLatin1_aae02 ∈ gT ∧ Cond.selects RJ0 yJ0_isLatin1_aae02 yJ0_isLatin1_aae02 ∈ gT := ⟨gT_in (tb4 (List.mem_of_getElem? (i := 14) rfl)) rfl, gT_in (tb4 (List.mem_of_getElem? (i := 15) rfl)) rfl⟩
theorem mi_J0_checkIndex_df160 : MI yJ0_checkIndex_df160 cJ0_checkIndex_df160 2 none 2 := ⟨gT_in (tb4 (List.mem_of_getElem? (i := 22) rfl)) rfl, gT_in (tb1 (List.mem_of_getElem? (i := 14) rfl)) rfl, by decide +kernel⟩
theorem st_J0_checkIndex_df160 : Cond.static yJ0_checkIndex_df160 ∈ gT := gT_in (tb4 (List.mem_of_getElem? (i := 21) rfl)) rfl
theorem mi_J1_charAt_3b067 : MI yJ1_charAt_3b067 cJ1_charAt_3b067 2 (some .char) 2 := ⟨gT_in (tb4 (List.mem_of_getElem? (i := 19) rfl)) rfl, gT_in (tb1 (List.mem_of_getElem? (i := 15) rfl)) rfl, by decide +kernel⟩
theorem st_J1_charAt_3b067 : Cond.static yJ1_charAt_3b067 ∈ gT := gT_in (tb4 (List.mem_of_getElem? (i := 18) rfl)) rfl
theorem mi_J3_checkIndex_8e157 : MI yJ3_checkIndex_8e157 cJ3_checkIndex_8e157 3 (some .int) 3 := ⟨gT_in (tb4 (List.mem_of_getElem? (i := 27) rfl)) rfl, gT_in (tb1 (List.mem_of_getElem? (i := 16) rfl)) rfl, by decide +kernel⟩
theorem st_J3_checkIndex_8e157 : Cond.static yJ3_checkIndex_8e157 ∈ gT := gT_in (tb4 (List.mem_of_getElem? (i := 26) rfl)) rfl
theorem fl_J0_9 : Cond.fieldLink RJ0 9 "java/lang/String" "value" "[B" ∈ gT := gT_in (tb6 (List.mem_of_getElem? (i := 213) rfl)) rfl
theorem fl_J0_15 : Cond.fieldLink RJ0 15 "java/lang/String" "coder" "B" ∈ gT := gT_in (tb6 (List.mem_of_getElem? (i := 214) rfl)) rfl
theorem fl_J0_38 : Cond.fieldLink RJ0 38 "java/lang/String" "COMPACT_STRINGS" "Z" ∈ gT := gT_in (tb4 (List.mem_of_getElem? (i := 7) rfl)) rfl
theorem fl_J0_1053 : Cond.fieldLink RJ0 1053 "jdk/internal/util/Preconditions" "SIOOBE_FORMATTER" "Ljava/util/function/BiFunction;" ∈ gT := gT_in (tb4 (List.mem_of_getElem? (i := 23) rfl)) rfl
theorem lm_J0_335 : Cond.methodLink RJ0 335 yJ0_coder_7d493 ∈ gT := gT_in (tb4 (List.mem_of_getElem? (i := 3) rfl)) rfl
theorem lm_J0_492 : Cond.methodLink RJ0 492 yJ0_isLatin1_aae02 ∈ gT := gT_in (tb4 (List.mem_of_getElem? (i := 13) rfl)) rfl
theorem lm_J0_495 : Cond.methodLink RJ0 495 yJ1_charAt_3b067 ∈ gT := gT_in (tb4 (List.mem_of_getElem? (i := 17) rfl)) rfl
theorem lm_J0_1059 : Cond.methodLink RJ0 1059 yJ3_checkIndex_8e157 ∈ gT := gT_in (tb4 (List.mem_of_getElem? (i := 25) rfl)) rfl
theorem lm_J1_9 : Cond.methodLink RJ1 9 yJ0_checkIndex_df160 ∈ gT := gT_in (tb4 (List.mem_of_getElem? (i := 20) rfl)) rfl
theorem icS_0 : Int32.ofInt 0 = (0 : Int32) := by decide
theorem icS_1 : Int32.ofInt 1 = (1 : Int32) := by decide
theorem spS_255 : (Int16.ofInt 255).toInt32 = (255 : Int32) := by decide
section JStr
variable {ρ : Type} {x : Fx} {g : Gl} {cw : Gl → Hp → va_W} {nL dR : Nat} {QR : ρ → QT} {own : String} {cc : ByteArray} {ret : Option FieldType} {pc n i : Nat} {L : List (Option Value)} {stk st : List Value} {h : Hp} {E : Option ρ}
theorem j_ldcS (C : Ok x g own cc nL ret) {tx : String} {sid : Nat} (hm : (own, i, tx, sid) ∈ stR) (d : decode cc pc = .ok (.ldc i, 2)) (hn : pc + 2 = n) (k : J x g cw nL dR QR n L (.ref (g.2.2.2.2.1 sid) :: st) h E) : J x g cw nL dR QR pc L st h E := by
  obtain ⟨p, l, e, s, m, args, below, meth, c, A⟩ := x
  subst hn
  intro r hE H locs ls hP hD hS hL
  exact va_ldcS C.1 C.2.1 C.2.2.2.2.1 ((C.2.2.2.2.2.2.2.2.2 : SX _ _ _ _).2.2.2.2.2.2.1 _ hm) d (k r hE H locs ls hP hD hS hL)
theorem j_ldcwS (C : Ok x g own cc nL ret) {tx : String} {sid : Nat} (hm : (own, i, tx, sid) ∈ stR) (d : decode cc pc = .ok (.ldc_w i, 3)) (hn : pc + 3 = n) (k : J x g cw nL dR QR n L (.ref (g.2.2.2.2.1 sid) :: st) h E) : J x g cw nL dR QR pc L st h E := by
  obtain ⟨p, l, e, s, m, args, below, meth, c, A⟩ := x
  subst hn
  intro r hE H locs ls hP hD hS hL
  have hZ := (C.2.2.2.2.2.2.2.2.2 : SX _ _ _ _).2.2.2.2.2.2.1 _ hm
  intro T hT X
  obtain ⟨t, a1, b1⟩ := k r hE H locs ls hP hD hS hL T hT X
  exact ⟨t, X.ldcStringW C.1 C.2.2.2.2.1 (text := tx) (a := g.2.2.2.2.1 sid) hZ.1 hZ.2 (g := F0 m pc ls st) rfl (by rw [C.2.1]; exact d) t a1, b1⟩
theorem j_getS (C : Ok x g own cc nL ret) {o nm ds : String} {q : Nat} {v : Value} (hF : ∀ (A : Nat → Prop) (U : State) (H : Heap), SX g A U H → va_OF o nm ds v q A U H) (hl : Cond.fieldLink own i o nm ds ∈ gT) (d : decode cc pc = .ok (.getfield i, 3)) (hn : pc + 3 = n) (k : J x g cw nL dR QR n L (v :: st) h E) : J x g cw nL dR QR pc L (.ref q :: st) h E := by
  obtain ⟨p, l, e, s, m, args, below, meth, c, A⟩ := x
  subst hn
  intro r hE H locs ls hP hD hS hL
  exact vk_getf C.1 C.2.1 (hF _ _ _ C.2.2.2.2.2.2.2.2.2) hS C.2.2.2.2.1 (C.2.2.2.2.2.1 _ hl) (fun _ h9 => h9) d (k r hE H locs ls hP hD hS hL)
theorem j_tlenS (C : Ok x g own cc nL ret) {t N : Nat} {ty : FieldType} {f : Nat → Value} (hT : ∀ (A : Nat → Prop) (U : State) (H : Heap), SX g A U H → va_T ty t N f A U H) {v : Int32} (hv : Int32.ofNat N = v) (d : decode cc pc = .ok (.arraylength, 1)) (hn : pc + 1 = n) (k : J x g cw nL dR QR n L (.int v :: st) h E) : J x g cw nL dR QR pc L (.ref t :: st) h E := by
  obtain ⟨p, l, e, s, m, args, below, meth, c, A⟩ := x
  subst hn
  intro r hE H locs ls hP hD hS hL
  exact va_tlen C.1 C.2.1 (hT _ _ _ C.2.2.2.2.2.2.2.2.2) hS hv d (k r hE H locs ls hP hD hS hL)
theorem j_tb (C : Ok x g own cc nL ret) {t N : Nat} {f : Nat → Value} {i1 : Int32} {v : Value} (hT : ∀ (A : Nat → Prop) (U : State) (H : Heap), SX g A U H → va_T .byte t N f A U H) (hz : inR i1 N = true) (hv : f i1.toNatClampNeg = v) (d : decode cc pc = .ok (.baload, 1)) (hn : pc + 1 = n) (k : J x g cw nL dR QR n L (v :: st) h E) : J x g cw nL dR QR pc L (.int i1 :: .ref t :: st) h E := by
  obtain ⟨p, l, e, s, m, args, below, meth, c, A⟩ := x
  subst hn
  intro r hE H locs ls hP hD hS hL
  exact va_tb C.1 C.2.1 (hT _ _ _ C.2.2.2.2.2.2.2.2.2) hS (inR_vp hz) hv d (k r hE H locs ls hP hD hS hL)
theorem j_i2c (C : Ok x g own cc nL ret) {x1 v : Int32} (d : decode cc pc = .ok (.i2c, 1)) (hv : (x1.toUInt32 % 65536).toInt32 = v) (hn : pc + 1 = n) (k : J x g cw nL dR QR n L (.int v :: st) h E) : J x g cw nL dR QR pc L (.int x1 :: st) h E := by
  obtain ⟨p, l, e, s, m, args, below, meth, c, A⟩ := x
  subst hn
  intro r hE H locs ls hP hD hS hL
  exact lv_i2c C.1 C.2.1 d hv (k r hE H locs ls hP hD hS hL)
/-- the formatter: some value that is a place or null -/
theorem j_getq (C : Ok x g own cc nL ret) {Cn nm ds : String} (hZ : ∀ (A : Nat → Prop) (U : State) (H : Heap), SX g A U H → va_Zq Cn nm ds A U H) (hl : Cond.fieldLink own i Cn nm ds ∈ gT) (d : decode cc pc = .ok (.getstatic i, 3)) (hn : pc + 3 = n) (k : ∀ v : Value, (v = .null ∨ ∃ a, v = .ref a) → J x g cw nL dR QR n L (v :: st) h E) : J x g cw nL dR QR pc L st h E := by
  obtain ⟨p, l, e, s, m, args, below, meth, c, A⟩ := x
  subst hn
  intro r hE H locs ls hP hD hS hL
  rcases hZ _ _ _ C.2.2.2.2.2.2.2.2.2 with q | ⟨t, q⟩
  · exact va_gets C.1 C.2.1 q hS C.2.2.2.2.1 (C.2.2.2.2.2.1 _ hl) (fun _ h9 => h9) d (k .null (Or.inl rfl) r hE H locs ls hP hD hS hL)
  · exact va_gets C.1 C.2.1 q hS C.2.2.2.2.1 (C.2.2.2.2.2.1 _ hl) (fun _ h9 => h9) d (k (.ref t) (Or.inr ⟨t, rfl⟩) r hE H locs ls hP hD hS hL)
theorem j_cS (C : Ok x g own cc nL ret) {b : Nat} {u : Hp} (run : RunA x g cw nL dR pc stk st (qR cw (fun g => some (g.2.2.2.2.1 b)) u) h) (hn : pc + 3 = n) (k : J x g cw nL dR QR n L (.ref (g.2.2.2.2.1 b) :: st) u E) : J x g cw nL dR QR pc L stk h E := by
  obtain ⟨p, l, e, s, m, args, below, meth, c, A⟩ := x
  subst hn
  intro r hE H locs ls hP hD hS hL
  have hFc := A_in hD hS C.2.2.2.2.2.2.2.2.1
  obtain ⟨a, hr⟩ := run H locs ls hP hD hS hL.1
  refine va_callq hr hS (fun q _ h => hFc q h) hFc (fun v1 u1 t H1 locs1 ht hvm hw hB hz1 hk1 hS1 => ?_)
  obtain ⟨rfl, rfl⟩ := hw
  obtain ⟨hP1, hK1, hD1⟩ := hB
  rw [ht] at hP1
  exact k r hE H1 locs1 ls hP1 (hD1.weaken (fun k q _ h => hFc q.1 h)) hS1 hL
theorem j_retS {rt : FieldType} (C : Ok x g own cc nL (some rt)) (hrt : (∃ n, rt = .object n) ∨ ∃ t, rt = .array t) {b : Nat} (d : decode cc pc = .ok (.areturn, 1)) {QR : Unit → QT} (hQ : QR = fun _ => qR cw (fun g => some (g.2.2.2.2.1 b)) h) : J x g cw nL dR QR pc L [.ref (g.2.2.2.2.1 b)] h (some ()) := by
  obtain ⟨p, l, e, s, m, args, below, meth, c, A⟩ := x
  subst hQ
  intro r hE H locs ls hP hD hS hL
  exact W.aret C.1 C.2.1 C.2.2.2.1 hrt (Or.inr ⟨_, rfl⟩) (fun t ht hW => ⟨⟨_, _, rfl, ⟨rfl, rfl⟩, ⟨by rw [ht]; exact hP, va_K.moved hW.alike C.2.2.2.2.2.2.2.1, hD⟩⟩, hS.F ht⟩) hS.2.2 d C.2.2.2.2.2.2.1
theorem j_retT {ty : FieldType} (C : Ok x g own cc nL (some ty)) {v : Int32} (hy : narrow ty (.int v) = .int v) (d : decode cc pc = .ok (.ireturn, 1)) : J x g cw nL dR (fun r : Int32 => qI cw r h) pc L [.int v] h (some v) := by
  obtain ⟨p, l, e, s, m, args, below, meth, c, A⟩ := x
  intro r hE H locs ls hP hD hS hL
  injection hE with hE
  subst hE
  exact W.zret C.1 C.2.1 C.2.2.2.1 hy (fun t ht hW => ⟨⟨_, _, rfl, ⟨rfl, rfl⟩, ⟨by rw [ht]; exact hP, va_K.moved hW.alike C.2.2.2.2.2.2.2.1, hD⟩⟩, hS.F ht⟩) hS.2.2 d C.2.2.2.2.2.2.1
end JStr
section JStr2
variable {x : Fx} {g : Gl} {cw : Gl → Hp → va_W} {nL dR : Nat} {own : String} {cc : ByteArray} {ret : Option FieldType} {pc i : Nat} {stk st : List Value} {h : Hp}
variable {y : MethodName} {c1 : ByteArray} {n1 nA d : Nat} {r1 : Option FieldType} {av : Gl → List Value} {As : List Value} {Q : QT}
/-- a call on a String constant -/
theorem run_VS (C : Ok x g own cc nL ret) (mi : MI y c1 n1 r1 nA) (hl : Cond.methodLink own i y ∈ gT) (hst : Cond.instanceMethod y ∈ gT ∧ Cond.selects RJ0 y y ∈ gT) (hd : d < dR ∧ n1 ≤ 40) (hM : CT x.2.1 y c1 n1 r1 d cw av h Q) {w : Nat} (hw : w < 14) (hav : av g = .ref (g.2.2.2.2.1 w) :: As) (hA : As.length = nA) (hk : stk = revA As (.ref (g.2.2.2.2.1 w) :: st)) (hs : (st.map fun v => v.category).sum ≤ 8) (dd : decode cc pc = .ok (.invokevirtual i, 3)) : RunA x g cw nL dR pc stk st Q h := by
  obtain ⟨p, l, e, s, m, args, below, meth, c, A⟩ := x
  intro H locs ls hP hD hS hL
  have hts := C.2.2.2.2.2.1
  have hFc := A_in hD hS C.2.2.2.2.2.2.2.2.1
  refine ⟨_, va_runV (C := RJ0) (b := g.2.2.2.2.1 w) (As := As) (rest := st) (Ts := gT) (own := own) (nL := nL) ⟨C.1, C.2.1, C.2.2.1, C.2.2.2.2.1, hts⟩ (hM g H.size) ⟨callB_of nA hts (gT_code mi.1) rfl rfl rfl (hts _ mi.2.1) (hts _ hl) mi.2.2 ⟨?_, ?_⟩, hts _ hst.1, hts _ hst.2⟩ ⟨PreX.blind, vk_recv (C.2.2.2.2.2.2.2.2.2 : SX _ _ _ _).2.2.2.2.2.1 hw hS, fun U hU hW => ⟨by rw [hav], by rw [hU], by rw [hU]; exact hP, va_K.moved hW.alike C.2.2.2.2.2.2.2.1, hD.weaken (fun _ _ _ _ => trivial), SX.go C.2.2.2.2.2.2.2.2.2 hS hW hU hFc⟩⟩ rfl hA hL (hk.trans (revA_eq As _)) (lv_room hs) dd ⟨Nat.le_refl 0, Nat.le_refl 0⟩⟩
  · show d + 1 ≤ dR; omega
  · show 8 + (n1 + 11) + 64 * d ≤ 64 * dR; omega
end JStr2
theorem sx_cd (g : Gl) {w : Nat} (hw : w < 14) : ∀ (A : Nat → Prop) (U : State) (H : Heap), SX g A U H → va_OF "java/lang/String" "coder" "B" (.int 0) (g.2.2.2.2.1 w) A U H := fun _ _ _ h => (h.2.2.2.2.2.1.1 w hw).2.1
theorem sx_vl (g : Gl) {w : Nat} (hw : w < 14) : ∀ (A : Nat → Prop) (U : State) (H : Heap), SX g A U H → va_OF "java/lang/String" "value" "[B" (.ref (g.2.2.2.2.2 w)) (g.2.2.2.2.1 w) A U H := fun _ _ _ h => (h.2.2.2.2.2.1.1 w hw).2.2.1
theorem sx_by (g : Gl) {w : Nat} (hw : w < 14) : ∀ (A : Nat → Prop) (U : State) (H : Heap), SX g A U H → va_T .byte (g.2.2.2.2.2 w) (stL.getD w 0) (fun j => .int ((stB.getD w []).getD j 0)) A U H := fun _ _ _ h => (h.2.2.2.2.2.1.1 w hw).2.2.2
theorem sx_cs (g : Gl) : ∀ (A : Nat → Prop) (U : State) (H : Heap), SX g A U H → va_Z "java/lang/String" "COMPACT_STRINGS" "Z" (.int 1) A U H := fun _ _ _ h => h.2.2.2.1
theorem sx_fm (g : Gl) : ∀ (A : Nat → Prop) (U : State) (H : Heap), SX g A U H → va_Zq "jdk/internal/util/Preconditions" "SIOOBE_FORMATTER" "Ljava/util/function/BiFunction;" A U H := fun _ _ _ h => h.2.2.2.2.1
theorem m_coder (cw : Gl → Hp → va_W) (l : Launch) {w : Nat} (hw : w < 14) (h : Hp) : CT l yJ0_coder_7d493 cJ0_coder_7d493 1 (some .byte) 0 cw (fun g => [.ref (g.2.2.2.2.1 w)]) h (qI cw 0 h) := by
  refine ct_of (QR := (fun r : Int32 => qI cw r h)) (E := some (0 : Int32)) (by decide +kernel) (fun g => ⟨rfl, Nat.le_of_ble_eq_true rfl⟩) rfl (fun x g hl C => ?_)
  refine j_gets C (sx_cs g) fl_J0_38 dJ0_coder_7d493_0 rfl ?_
  rw [show (some (0 : Int32)) = (if (1 : Int32) = 0 then none else some 0) from rfl]
  refine j_if_eq C dJ0_coder_7d493_3 (tgt := 13) (by decide) rfl (fun q => ?_) (fun q => ?_)
  · exact absurd q (by decide)
  · refine j_aload_n C dJ0_coder_7d493_6 rfl rfl ?_
    refine j_getS C (sx_cd g hw) fl_J0_15 dJ0_coder_7d493_7 rfl ?_
    refine j_goto C dJ0_coder_7d493_10 (n := 14) (by decide) ?_
    exact j_retT C rfl dJ0_coder_7d493_14
theorem m_isLatin1 (cw : Gl → Hp → va_W) (l : Launch) {w : Nat} (hw : w < 14) (h : Hp) : CT l yJ0_isLatin1_aae02 cJ0_isLatin1_aae02 1 (some .boolean) 0 cw (fun g => [.ref (g.2.2.2.2.1 w)]) h (qI cw 1 h) := by
  refine ct_of (QR := (fun r : Int32 => qI cw r h)) (E := some (1 : Int32)) (by decide +kernel) (fun g => ⟨rfl, Nat.le_of_ble_eq_true rfl⟩) rfl (fun x g hl C => ?_)
  refine j_gets C (sx_cs g) fl_J0_38 dJ0_isLatin1_aae02_0 rfl ?_
  rw [show (some (1 : Int32)) = (if (1 : Int32) = 0 then none else some 1) from rfl]
  refine j_if_eq C dJ0_isLatin1_aae02_3 (tgt := 17) (by decide) rfl (fun q => ?_) (fun q => ?_)
  · exact absurd q (by decide)
  · refine j_aload_n C dJ0_isLatin1_aae02_6 rfl rfl ?_
    refine j_getS C (sx_cd g hw) fl_J0_15 dJ0_isLatin1_aae02_7 rfl ?_
    rw [show (some (1 : Int32)) = (if (0 : Int32) = 0 then some 1 else none) from rfl]
    refine j_if_ne C dJ0_isLatin1_aae02_10 (tgt := 17) (by decide) rfl (fun q => ?_) (fun q => ?_)
    · exact absurd rfl q
    · refine j_iconst C dJ0_isLatin1_aae02_13 icS_1 rfl ?_
      refine j_goto C dJ0_isLatin1_aae02_14 (n := 18) (by decide) ?_
      exact j_retT C rfl dJ0_isLatin1_aae02_18
theorem m_len (cw : Gl → Hp → va_W) (l : Launch) {w : Nat} (hw : w < 14) (h : Hp) : CT l yJ0_length_8abf5 cJ0_length_8abf5 1 (some .int) 1 cw (fun g => [.ref (g.2.2.2.2.1 w)]) h (qI cw (slen w) h) := by
  refine ct_of (QR := (fun r : Int32 => qI cw r h)) (E := some (slen w)) (by decide +kernel) (fun g => ⟨rfl, Nat.le_of_ble_eq_true rfl⟩) rfl (fun x g hl C => ?_)
  refine j_aload_n C dJ0_length_8abf5_0 rfl rfl ?_
  refine j_getS C (sx_vl g hw) fl_J0_9 dJ0_length_8abf5_1 rfl ?_
  refine j_tlenS C (sx_by g hw) (v := slen w) rfl dJ0_length_8abf5_4 rfl ?_
  refine j_aload_n C dJ0_length_8abf5_5 rfl rfl ?_
  refine j_ci C (run_VS C mi_J0_coder_7d493 lm_J0_335 iv_J0_coder_7d493 ⟨Nat.le_of_ble_eq_true rfl, Nat.le_of_ble_eq_true rfl⟩ (m_coder cw _ hw h) hw rfl rfl rfl (Nat.le_of_ble_eq_true rfl) dJ0_length_8abf5_6) rfl ?_
  refine j_ishr C dJ0_length_8abf5_9 rfl ?_
  rw [show slen w >>> ((0 : Int32) &&& 31) = slen w from sb_shr0 _]
  exact j_ret C dJ0_length_8abf5_10
theorem m_pci (cw : Gl → Hp → va_W) (l : Launch) {i N : Int32} (h0 : ¬ i < 0) (h1 : i < N) {v : Value} (hv : v = .null ∨ ∃ a, v = .ref a) (h : Hp) : CT l yJ3_checkIndex_8e157 cJ3_checkIndex_8e157 3 (some .int) 0 cw (fun _ => [.int i, .int N, v]) h (qI cw i h) := by
  have hc : v.category = 1 := by rcases hv with rfl | ⟨a, rfl⟩ <;> rfl
  refine ct_of (QR := (fun r : Int32 => qI cw r h)) (E := some i) (by decide +kernel) (fun g => ⟨by rcases hv with rfl | ⟨a, rfl⟩ <;> rfl, ?_⟩) rfl (fun x g hl C => ?_)
  · rcases hv with rfl | ⟨a, rfl⟩ <;> exact Nat.le_of_ble_eq_true rfl
  · refine j_iload_n C dJ3_checkIndex_8e157_0 rfl rfl ?_
    rw [show (some i) = (if i < 0 then none else some i) from (if_neg h0).symm]
    refine j_if_lt C dJ3_checkIndex_8e157_1 (tgt := 9) (by decide) rfl (fun q => absurd q h0) (fun q => ?_)
    refine j_iload_n C dJ3_checkIndex_8e157_4 rfl rfl ?_
    refine j_iload_n C dJ3_checkIndex_8e157_5 rfl rfl ?_
    rw [show (some i) = (if i < N then some i else none) from (if_pos h1).symm]
    refine j_icmp_lt C dJ3_checkIndex_8e157_6 (tgt := 16) (by decide) rfl (fun q => ?_) (fun q => absurd h1 q)
    refine j_iload_n C dJ3_checkIndex_8e157_16 rfl rfl ?_
    exact j_ret C dJ3_checkIndex_8e157_17
theorem m_sci (cw : Gl → Hp → va_W) (l : Launch) {i N : Int32} (h0 : ¬ i < 0) (h1 : i < N) (h : Hp) : CT l yJ0_checkIndex_df160 cJ0_checkIndex_df160 2 none 1 cw (fun _ => [.int i, .int N]) h (qV cw h) := by
  refine ct_of (QR := (fun r : Hp => qV cw r)) (E := some h) (by decide +kernel) (fun g => ⟨rfl, Nat.le_of_ble_eq_true rfl⟩) rfl (fun x g hl C => ?_)
  refine j_iload_n C dJ0_checkIndex_df160_0 rfl rfl ?_
  refine j_iload_n C dJ0_checkIndex_df160_1 rfl rfl ?_
  refine j_getq C (sx_fm g) fl_J0_1053 dJ0_checkIndex_df160_2 rfl (fun v hv => ?_)
  refine j_ci C (run_S C mi_J3_checkIndex_8e157 lm_J0_1059 st_J3_checkIndex_8e157 ⟨Nat.le_of_ble_eq_true rfl, Nat.le_of_ble_eq_true rfl⟩ (m_pci cw _ h0 h1 hv h) rfl rfl rfl (Nat.le_of_ble_eq_true rfl) dJ0_checkIndex_df160_5) rfl ?_
  refine j_pop C dJ0_checkIndex_df160_8 rfl rfl ?_
  exact j_retV C dJ0_checkIndex_df160_9
theorem st_all : ∀ w, w < 14 → stL.getD w 0 < 20 ∧ ∀ j, j < stL.getD w 0 → (((stB.getD w []).getD j 0 &&& 255).toUInt32 % 65536).toInt32 = (stB.getD w []).getD j 0 ∧ narrow .char (.int ((stB.getD w []).getD j 0)) = .int ((stB.getD w []).getD j 0) := by decide +kernel
theorem inR_le {i : Int32} {N : Nat} (h : inR i N = true) (hN : N < 2 ^ 31) : ¬ i < 0 ∧ i < Int32.ofNat N := by
  obtain ⟨j, hj, rfl⟩ := vp_in_of (inR_vp h) hN
  exact ⟨nI_pos (by omega), nI_lt hj hN⟩
theorem m_lch (cw : Gl → Hp → va_W) (l : Launch) {w : Nat} (hw : w < 14) {i : Int32} (hi : sin w i = true) (h : Hp) : CT l yJ1_charAt_3b067 cJ1_charAt_3b067 2 (some .char) 2 cw (fun g => [.ref (g.2.2.2.2.2 w), .int i]) h (qI cw (schr w i) h) := by
  have hs := st_all w hw
  have hz : inR i (stL.getD w 0) = true := hi
  have hb := inR_le hz (by omega)
  have hj := hs.2 i.toNatClampNeg (by
    unfold inR at hz
    rw [Bool.and_eq_true, decide_eq_true_eq, decide_eq_true_eq] at hz
    exact hz.2)
  refine ct_of (QR := (fun r : Int32 => qI cw r h)) (E := some (schr w i)) (by decide +kernel) (fun g => ⟨rfl, Nat.le_of_ble_eq_true rfl⟩) rfl (fun x g hl C => ?_)
  refine j_iload_n C dJ1_charAt_3b067_0 rfl rfl ?_
  refine j_aload_n C dJ1_charAt_3b067_1 rfl rfl ?_
  refine j_tlenS C (sx_by g hw) (v := slen w) rfl dJ1_charAt_3b067_2 rfl ?_
  refine j_cv C (run_S C mi_J0_checkIndex_df160 lm_J1_9 st_J0_checkIndex_df160 ⟨Nat.le_of_ble_eq_true rfl, Nat.le_of_ble_eq_true rfl⟩ (m_sci cw _ hb.1 hb.2 h) rfl rfl rfl (Nat.le_of_ble_eq_true rfl) dJ1_charAt_3b067_3) rfl ?_
  refine j_aload_n C dJ1_charAt_3b067_6 rfl rfl ?_
  refine j_iload_n C dJ1_charAt_3b067_7 rfl rfl ?_
  refine j_tb C (sx_by g hw) hz (v := .int (schr w i)) rfl dJ1_charAt_3b067_8 rfl ?_
  refine j_sipush C dJ1_charAt_3b067_9 spS_255 rfl ?_
  refine j_iand C dJ1_charAt_3b067_12 rfl ?_
  refine j_i2c C dJ1_charAt_3b067_13 (v := schr w i) hj.1 rfl ?_
  exact j_retT C hj.2 dJ1_charAt_3b067_14
theorem m_chr (cw : Gl → Hp → va_W) (l : Launch) {w : Nat} (hw : w < 14) {i : Int32} (hi : sin w i = true) (h : Hp) : CT l yJ0_charAt_5068e cJ0_charAt_5068e 2 (some .char) 3 cw (fun g => [.ref (g.2.2.2.2.1 w), .int i]) h (qI cw (schr w i) h) := by
  have hs := st_all w hw
  have hz : inR i (stL.getD w 0) = true := hi
  have hj := hs.2 i.toNatClampNeg (by
    unfold inR at hz
    rw [Bool.and_eq_true, decide_eq_true_eq, decide_eq_true_eq] at hz
    exact hz.2)
  refine ct_of (QR := (fun r : Int32 => qI cw r h)) (E := some (schr w i)) (by decide +kernel) (fun g => ⟨rfl, Nat.le_of_ble_eq_true rfl⟩) rfl (fun x g hl C => ?_)
  refine j_aload_n C dJ0_charAt_5068e_0 rfl rfl ?_
  refine j_ci C (run_VS C mi_J0_isLatin1_aae02 lm_J0_492 iv_J0_isLatin1_aae02 ⟨Nat.le_of_ble_eq_true rfl, Nat.le_of_ble_eq_true rfl⟩ (m_isLatin1 cw _ hw h) hw rfl rfl rfl (Nat.le_of_ble_eq_true rfl) dJ0_charAt_5068e_1) rfl ?_
  rw [show (some (schr w i)) = (if (1 : Int32) = 0 then none else some (schr w i)) from rfl]
  refine j_if_eq C dJ0_charAt_5068e_4 (tgt := 16) (by decide) rfl (fun q => absurd q (by decide)) (fun q => ?_)
  refine j_aload_n C dJ0_charAt_5068e_7 rfl rfl ?_
  refine j_getS C (sx_vl g hw) fl_J0_9 dJ0_charAt_5068e_8 rfl ?_
  refine j_iload_n C dJ0_charAt_5068e_11 rfl rfl ?_
  refine j_ci C (run_S C mi_J1_charAt_3b067 lm_J0_495 st_J1_charAt_3b067 ⟨Nat.le_of_ble_eq_true rfl, Nat.le_of_ble_eq_true rfl⟩ (m_lch cw _ hw hi h) rfl rfl rfl (Nat.le_of_ble_eq_true rfl) dJ0_charAt_5068e_12) rfl ?_
  exact j_retT C hj.2 dJ0_charAt_5068e_15
section JStr3
variable {x : Fx} {g : Gl} {cw : Gl → Hp → va_W} {nL dR : Nat} {own : String} {cc : ByteArray} {ret : Option FieldType} {pc i : Nat} {stk st : List Value} {h : Hp}
theorem run_len (C : Ok x g own cc nL ret) (hl : Cond.methodLink own i yJ0_length_8abf5 ∈ gT) (hd : 2 ≤ dR) {w : Nat} (hw : w < 14) (hk : stk = .ref (g.2.2.2.2.1 w) :: st) (hs : (st.map fun v => v.category).sum ≤ 8) (dd : decode cc pc = .ok (.invokevirtual i, 3)) : RunA x g cw nL dR pc stk st (qI cw (slen w) h) h := run_VS C mi_J0_length_8abf5 hl iv_J0_length_8abf5 ⟨hd, Nat.le_of_ble_eq_true rfl⟩ (m_len cw _ hw h) hw rfl rfl hk hs dd
theorem run_chr (C : Ok x g own cc nL ret) (hl : Cond.methodLink own i yJ0_charAt_5068e ∈ gT) (hd : 4 ≤ dR) {w : Nat} (hw : w < 14) {i1 : Int32} (hi : sin w i1 = true) (hk : stk = .int i1 :: .ref (g.2.2.2.2.1 w) :: st) (hs : (st.map fun v => v.category).sum ≤ 8) (dd : decode cc pc = .ok (.invokevirtual i, 3)) : RunA x g cw nL dR pc stk st (qI cw (schr w i1) h) h := run_VS C mi_J0_charAt_5068e hl iv_J0_charAt_5068e ⟨hd, Nat.le_of_ble_eq_true rfl⟩ (m_chr cw _ hw hi h) hw rfl rfl hk hs dd
end JStr3

