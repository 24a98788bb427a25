/-! cells that are made: the cells as a list, how many cells and places were taken -/
def JA (x : Fx) (g : Gl) (R : Room) (nL : Nat) (Q : State → Prop) (pc : Nat) (L : List (Option Value)) (st : List Value) (ws : va_W) (kc ks : Nat) : Prop := match x with
  | (p, l, e, s, m, args, below, meth, c, A) => ∀ (H : Heap) (locs : List Loc) (ls : Array Slot), va_P g.1 vwCl ws H → va_D A ws → va_S A s.heap H locs → hasL ls nL L → W p l e R s m args below meth c H locs kc ks Q (F0 m pc ls st)
def OI (x : Fx) : Prop := match x with
  | (_, _, _, s, _, _, _, meth, _, _) => meth.name = "<init>" ∧ va_AO "SameHeads$Sheet" s ∧ va_AO "java/lang/String" s
section ARows
variable {x : Fx} {g : Gl} {R : Room} {nL : Nat} {Q : State → Prop} {own : String} {cc : ByteArray} {ret : Option FieldType} {pc n kc ks : Nat} {L : List (Option Value)} {st : List Value} {ws : va_W}
theorem a_iconst (C : Ok x g own cc nL ret) {i : Int} {v : Int32} (d : decode cc pc = .ok (.iconst i, 1)) (hv : Int32.ofInt i = v) (hn : pc + 1 = n) (k : JA x g R nL Q n L (.int v :: st) ws kc ks) : JA x g R nL Q pc L (st) ws kc ks := by
  obtain ⟨p, l, e, s, m, args, below, meth, c, A⟩ := x
  subst hn
  intro H locs ls hP hD hS hL
  exact lv_iconst C.1 C.2.1 d hv (k H locs ls hP hD hS hL)
theorem a_bipush (C : Ok x g own cc nL ret) {i : Int} {v : Int32} (d : decode cc pc = .ok (.bipush i, 2)) (hv : (Int8.ofInt i).toInt32 = v) (hn : pc + 2 = n) (k : JA x g R nL Q n L (.int v :: st) ws kc ks) : JA x g R nL Q pc L (st) ws kc ks := by
  obtain ⟨p, l, e, s, m, args, below, meth, c, A⟩ := x
  subst hn
  intro H locs ls hP hD hS hL
  exact lv_bipush C.1 C.2.1 d hv (k H locs ls hP hD hS hL)
theorem a_sipush (C : Ok x g own cc nL ret) {i : Int} {v : Int32} (d : decode cc pc = .ok (.sipush i, 3)) (hv : (Int16.ofInt i).toInt32 = v) (hn : pc + 3 = n) (k : JA x g R nL Q n L (.int v :: st) ws kc ks) : JA x g R nL Q pc L (st) ws kc ks := by
  obtain ⟨p, l, e, s, m, args, below, meth, c, A⟩ := x
  subst hn
  intro H locs ls hP hD hS hL
  exact lv_sipush C.1 C.2.1 d hv (k H locs ls hP hD hS hL)
theorem a_iload_n (C : Ok x g own cc nL ret) {i : Fin 4} {v : Int32} (d : decode cc pc = .ok (.iload_n i, 1)) (hl : nth L i.val = some (some (.int v))) (hn : pc + 1 = n) (k : JA x g R nL Q n L (.int v :: st) ws kc ks) : JA x g R nL Q pc L (st) ws kc ks := by
  obtain ⟨p, l, e, s, m, args, below, meth, c, A⟩ := x
  subst hn
  intro H locs ls hP hD hS hL
  exact lv_iload_n C.1 C.2.1 d rfl (hL.2.2 _ _ hl).1 (k H locs ls hP hD hS hL)
theorem a_aload_n (C : Ok x g own cc nL ret) {i : Fin 4} {a : Nat} (d : decode cc pc = .ok (.aload_n i, 1)) (hl : nth L i.val = some (some (.ref a))) (hn : pc + 1 = n) (k : JA x g R nL Q n L (.ref a :: st) ws kc ks) : JA x g R nL Q pc L (st) ws kc ks := by
  obtain ⟨p, l, e, s, m, args, below, meth, c, A⟩ := x
  subst hn
  intro H locs ls hP hD hS hL
  exact lv_aload_n C.1 C.2.1 d rfl (hL.2.2 _ _ hl).1 (k H locs ls hP hD hS hL)
theorem a_istore_n (C : Ok x g own cc nL ret) {i : Fin 4} {v : Int32} (d : decode cc pc = .ok (.istore_n i, 1)) (hi : i.val < nL) (hn : pc + 1 = n) (k : JA x g R nL Q n (setN L i.val (.int v)) (st) ws kc ks) : JA x g R nL Q pc L (.int v :: st) ws kc ks := by
  obtain ⟨p, l, e, s, m, args, below, meth, c, A⟩ := x
  subst hn
  intro H locs ls hP hD hS hL
  exact lv_istore_n C.1 C.2.1 d rfl hL.lv hi rfl (fun ls1 hl1 => k H locs ls1 hP hD hS (hL.set rfl hl1))
theorem a_astore_n (C : Ok x g own cc nL ret) {i : Fin 4} {v : Nat} (d : decode cc pc = .ok (.astore_n i, 1)) (hi : i.val < nL) (hn : pc + 1 = n) (k : JA x g R nL Q n (setN L i.val (.ref v)) (st) ws kc ks) : JA x g R nL Q pc L (.ref v :: st) ws kc ks := by
  obtain ⟨p, l, e, s, m, args, below, meth, c, A⟩ := x
  subst hn
  intro H locs ls hP hD hS hL
  exact lv_astore_n C.1 C.2.1 d rfl hL.lv hi rfl (fun ls1 hl1 => k H locs ls1 hP hD hS (hL.set rfl hl1))
theorem a_iinc (C : Ok x g own cc nL ret) {i : Nat} {z : Int} {v c1 : Int32} (d : decode cc pc = .ok (.iinc i z, 3)) (hl : nth L i = some (some (.int v))) (hv : Int32.ofInt z = c1) (hi : i < nL) (hn : pc + 3 = n) (k : JA x g R nL Q n (setN L i (.int (v + c1))) st ws kc ks) : JA x g R nL Q pc L st ws kc ks := by
  obtain ⟨p, l, e, s, m, args, below, meth, c, A⟩ := x
  subst hn
  intro H locs ls hP hD hS hL
  obtain ⟨kk, hk⟩ := List.getElem?_of_mem ((toLv_in L 0 (i, .int v)).mpr ⟨i, by simp, hl⟩)
  exact lv_iinc C.1 C.2.1 d hL.lv hk (by rw [hv]) hi rfl (fun ls1 hl1 => k H locs ls1 hP hD hS (hL.set rfl hl1))
theorem a_iadd (C : Ok x g own cc nL ret) {x1 y1 : Int32} (d : decode cc pc = .ok (.iadd, 1)) (hn : pc + 1 = n) (k : JA x g R nL Q n L (.int (x1 + y1) :: st) ws kc ks) : JA x g R nL Q pc L (.int y1 :: .int x1 :: st) ws kc ks := by
  obtain ⟨p, l, e, s, m, args, below, meth, c, A⟩ := x
  subst hn
  intro H locs ls hP hD hS hL
  exact lv_iadd C.1 C.2.1 d (k H locs ls hP hD hS hL)
theorem a_isub (C : Ok x g own cc nL ret) {x1 y1 : Int32} (d : decode cc pc = .ok (.isub, 1)) (hn : pc + 1 = n) (k : JA x g R nL Q n L (.int (x1 - y1) :: st) ws kc ks) : JA x g R nL Q pc L (.int y1 :: .int x1 :: st) ws kc ks := by
  obtain ⟨p, l, e, s, m, args, below, meth, c, A⟩ := x
  subst hn
  intro H locs ls hP hD hS hL
  exact lv_isub C.1 C.2.1 d (k H locs ls hP hD hS hL)
theorem a_iand (C : Ok x g own cc nL ret) {x1 y1 : Int32} (d : decode cc pc = .ok (.iand, 1)) (hn : pc + 1 = n) (k : JA x g R nL Q n L (.int (x1 &&& y1) :: st) ws kc ks) : JA x g R nL Q pc L (.int y1 :: .int x1 :: st) ws kc ks := by
  obtain ⟨p, l, e, s, m, args, below, meth, c, A⟩ := x
  subst hn
  intro H locs ls hP hD hS hL
  exact lv_iand C.1 C.2.1 d (k H locs ls hP hD hS hL)
theorem a_dup (C : Ok x g own cc nL ret) {v : Value} (d : decode cc pc = .ok (.dup, 1)) (hc : v.category = 1) (hn : pc + 1 = n) (k : JA x g R nL Q n L (v :: v :: st) ws kc ks) : JA x g R nL Q pc L (v :: st) ws kc ks := by
  obtain ⟨p, l, e, s, m, args, below, meth, c, A⟩ := x
  subst hn
  intro H locs ls hP hD hS hL
  exact lv_dup C.1 C.2.1 d hc (k H locs ls hP hD hS hL)
theorem a_goto (C : Ok x g own cc nL ret) {off : Int} (d : decode cc pc = .ok (.goto off, 3)) (hn : (pc : Int) + off = (n : Int)) (k : JA x g R nL Q n L st ws kc ks) : JA x g R nL Q pc L st ws kc ks := by
  obtain ⟨p, l, e, s, m, args, below, meth, c, A⟩ := x
  intro H locs ls hP hD hS hL
  exact lv_goto C.1 C.2.1 d hn (k H locs ls hP hD hS hL)
theorem a_icmp_ge (C : Ok x g own cc nL ret) {x1 y1 : Int32} {off : Int} {tgt : Nat} (d : decode cc pc = .ok (.if_icmp .ge off, 3)) (ht : (pc : Int) + off = (tgt : Int)) (hn : pc + 3 = n) (kt : y1 ≤ x1 → JA x g R nL Q tgt L st ws kc ks) (kf : ¬ y1 ≤ x1 → JA x g R nL Q n L st ws kc ks) : JA x g R nL Q pc L (.int y1 :: .int x1 :: st) ws kc ks := by
  obtain ⟨p, l, e, s, m, args, below, meth, c, A⟩ := x
  subst hn
  intro H locs ls hP hD hS hL
  exact lv_icmp_ge C.1 C.2.1 d ht (fun q => kt q H locs ls hP hD hS hL) (fun q => kf q H locs ls hP hD hS hL)
theorem a_icmp_gt (C : Ok x g own cc nL ret) {x1 y1 : Int32} {off : Int} {tgt : Nat} (d : decode cc pc = .ok (.if_icmp .gt off, 3)) (ht : (pc : Int) + off = (tgt : Int)) (hn : pc + 3 = n) (kt : y1 < x1 → JA x g R nL Q tgt L st ws kc ks) (kf : ¬ y1 < x1 → JA x g R nL Q n L st ws kc ks) : JA x g R nL Q pc L (.int y1 :: .int x1 :: st) ws kc ks := by
  obtain ⟨p, l, e, s, m, args, below, meth, c, A⟩ := x
  subst hn
  intro H locs ls hP hD hS hL
  exact lv_icmp_gt C.1 C.2.1 d ht (fun q => kt q H locs ls hP hD hS hL) (fun q => kf q H locs ls hP hD hS hL)
theorem a_icmp_eqT (C : Ok x g own cc nL ret) {x1 : Int32} {off : Int} {tgt : Nat} (d : decode cc pc = .ok (.if_icmp .eq off, 3)) (ht : (pc : Int) + off = (tgt : Int)) (kt : JA x g R nL Q tgt L st ws kc ks) : JA x g R nL Q pc L (.int x1 :: .int x1 :: st) ws kc ks := by
  obtain ⟨p, l, e, s, m, args, below, meth, c, A⟩ := x
  intro H locs ls hP hD hS hL
  exact lv_icmp_eq C.1 C.2.1 d ht (fun _ => kt H locs ls hP hD hS hL) (fun q => absurd rfl q)
theorem a_tabIn (C : Ok x g own cc nL ret) {dflt lo hi : Int} {offs : Array Int} {len : Nat} {x1 v : Int32} {off : Int} (d : decode cc pc = .ok (.tableswitch dflt lo hi offs, len)) (e : x1 = v) (h1 : ¬ v.toInt < lo ∧ ¬ hi < v.toInt ∧ offs[(v.toInt - lo).toNat]? = some off) (ht : (pc : Int) + off = (n : Int)) (k : JA x g R nL Q n L st ws kc ks) : JA x g R nL Q pc L (.int x1 :: st) ws kc ks := by
  subst e
  obtain ⟨p, l, e, s, m, args, below, meth, c, A⟩ := x
  intro H locs ls hP hD hS hL
  exact lv_tableIn C.1 C.2.1 d h1.1 h1.2.1 h1.2.2 ht (k H locs ls hP hD hS hL)
theorem a_tabOut (C : Ok x g own cc nL ret) {dflt lo hi : Int} {offs : Array Int} {len : Nat} {x1 : Int32} (d : decode cc pc = .ok (.tableswitch dflt lo hi offs, len)) (h1 : x1.toInt < lo ∨ hi < x1.toInt) (ht : (pc : Int) + dflt = (n : Int)) (k : JA x g R nL Q n L st ws kc ks) : JA x g R nL Q pc L (.int x1 :: st) ws kc ks := by
  obtain ⟨p, l, e, s, m, args, below, meth, c, A⟩ := x
  intro H locs ls hP hD hS hL
  exact lv_tableOut C.1 C.2.1 d h1 ht (k H locs ls hP hD hS hL)
theorem a_to {L1 : List (Option Value)} (k : JA x g R nL Q pc L1 st ws kc ks) (hs : subL L1 L) : JA x g R nL Q pc L st ws kc ks := by
  obtain ⟨p, l, e, s, m, args, below, meth, c, A⟩ := x
  intro H locs ls hP hD hS hL
  exact k H locs ls hP hD hS (hL.sub hs)
theorem a_ws {ws1 : va_W} (k : JA x g R nL Q pc L st ws1 kc ks) (e : ws = ws1) : JA x g R nL Q pc L st ws kc ks := by rw [e]; exact k
theorem a_obj (C : Ok x g own cc nL ret) {i a : Nat} (hl : Cond.methodLink own i Lib.objectInit ∈ gT) (hi : Cond.instanceMethod Lib.objectInit ∈ gT) (hc : Cond.code Lib.objectInit ⟨#[0xb1]⟩ 1 none ∈ gT) (hR : 1 ≤ R.frames ∧ 20 ≤ R.locals) (hw : (st.map fun v => v.category).sum ≤ 8) (d : decode cc pc = .ok (.invokespecial i, 3)) (hn : pc + 3 = n) (k : JA x g R nL Q n L st ws kc ks) : JA x g R nL Q pc L (.ref a :: st) ws kc ks := by
  obtain ⟨p, l, e, s, m, args, below, meth, c, A⟩ := x
  subst hn
  intro H locs ls hP hD hS hL
  have hts := C.2.2.2.2.2.1
  refine W.objInit C.1 C.2.1 C.2.2.2.2.1 (hts _ hl) (hts _ hi) (hts _ hc) rfl (hL.1.trans C.2.2.1.symm) rfl d hR.1 ?_ (k H locs ls hP hD hS hL)
  have := lv_room (m := m) (pc := pc) (ls := ls) (rest := .ref a :: st) hw
  have h2 := hR.2
  omega
theorem a_new (C : Ok x g own cc nL ret) {ci N i : Nat} {Cn : String} {T : u_T} (hc : vwCl[ci]? = some (Cn, T, N)) (hin : ∀ w ∈ u_ws Cn T N, w ∈ gT) (ty : Nat → FieldType) (hty : ∀ k, k < N → parseFieldDescriptor (T k).2.2.1 = some (ty k)) (hcl : Cond.classLink own i Cn ∈ gT) (hi : Cond.instantiable Cn N ∈ gT) (hini : Cond.initialized Cn ∈ gT) {fs : List Value} (hfs : ∀ j, j < N → defaultValue (ty j) = vp_V fs j) (hR : kc + 1 ≤ R.cells ∧ ks + N ≤ R.slots) (d : decode cc pc = .ok (.new i, 3)) (hn : pc + 3 = n) (k : ∀ q : Nat, JA x g R nL Q n L (.ref q :: st) (ws ++ [(q, .inr (ci, fs))]) (kc + 1) (ks + N)) : JA x g R nL Q pc L st ws kc ks := by
  obtain ⟨p, l, e, s, m, args, below, meth, c, A⟩ := x
  subst hn
  intro H locs ls hP hD hS hL
  have hts := C.2.2.2.2.2.1
  exact va_new C.1 C.2.1 hts hin ty hty C.2.2.2.2.1 (hts _ hcl) (hts _ hi) (hts _ hini) C.2.2.2.2.2.2.2.1 hP hD hS C.2.2.2.2.2.2.2.2.1 hc hfs hR.1 hR.2 d (fun q H1 hP1 hD1 hS1 => k q H1 locs ls hP1 hD1 hS1 hL)
theorem a_newa (C : Ok x g own cc nL ret) {v : Int32} {N : Nat} (ha : Cond.arrayClass .int ∈ gT) (hv : ¬ v < 0 ∧ v.toNatClampNeg = N ∧ N * 4 ≤ 536870912) (hR : kc + 1 ≤ R.cells ∧ ks + N ≤ R.slots) (d : decode cc pc = .ok (.newarray .int, 2)) (hn : pc + 2 = n) (k : ∀ q : Nat, JA x g R nL Q n L (.ref q :: st) (ws ++ [(q, .inl (g.2.2.1 0, N, .inl (fun _ => 0)))]) (kc + 1) (ks + N)) : JA x g R nL Q pc L (.int v :: st) ws kc ks := by
  obtain ⟨p, l, e, s, m, args, below, meth, c, A⟩ := x
  subst hn
  intro H locs ls hP hD hS hL
  have hts := C.2.2.2.2.2.1
  have hK := C.2.2.2.2.2.2.2.1
  refine va_newa (atype := .int) (ty := .int) (a0 := (N, .inl (fun _ => 0))) C.1 C.2.1 (hts _ ha) rfl hK hP hD hS C.2.2.2.2.2.2.2.2.1 (fun cA => rfl) hv.1 hv.2.1 hv.2.2 hR.1 hR.2 d (fun q cA H1 hK1 hP1 hD1 hS1 => ?_)
  have e1 : s.vm.findClass ("[" ++ FieldType.int.toString) = some cA := (hK1.2 4 (cA, .int) rfl).2
  have e2 : s.vm.findClass ("[" ++ FieldType.int.toString) = some (g.2.2.1 0) := (hK.2 0 (g.2.2.1 0, .int) rfl).2
  have e3 : cA = g.2.2.1 0 := Option.some.inj (e1.symm.trans e2)
  rw [e3] at hP1 hD1
  exact k q H1 locs ls hP1 hD1 hS1 hL
theorem a_newb (C : Ok x g own cc nL ret) {v : Int32} {N : Nat} (ha : Cond.arrayClass .byte ∈ gT) (hv : ¬ v < 0 ∧ v.toNatClampNeg = N ∧ N * 4 ≤ 536870912) (hR : kc + 1 ≤ R.cells ∧ ks + N ≤ R.slots) (d : decode cc pc = .ok (.newarray .byte, 2)) (hn : pc + 2 = n) (k : ∀ q : Nat, JA x g R nL Q n L (.ref q :: st) (ws ++ [(q, .inl (g.2.2.1 1, N, .inl (fun _ => 0)))]) (kc + 1) (ks + N)) : JA x g R nL Q pc L (.int v :: st) ws kc ks := by
  obtain ⟨p, l, e, s, m, args, below, meth, c, A⟩ := x
  subst hn
  intro H locs ls hP hD hS hL
  have hts := C.2.2.2.2.2.1
  have hK := C.2.2.2.2.2.2.2.1
  refine va_newa (atype := .byte) (ty := .byte) (a0 := (N, .inl (fun _ => 0))) C.1 C.2.1 (hts _ ha) rfl hK hP hD hS C.2.2.2.2.2.2.2.2.1 (fun cA => rfl) hv.1 hv.2.1 (by show N * 1 ≤ _; omega) hR.1 hR.2 d (fun q cA H1 hK1 hP1 hD1 hS1 => ?_)
  have e1 : s.vm.findClass ("[" ++ FieldType.byte.toString) = some cA := (hK1.2 4 (cA, .byte) rfl).2
  have e2 : s.vm.findClass ("[" ++ FieldType.byte.toString) = some (g.2.2.1 1) := (hK.2 1 (g.2.2.1 1, .byte) rfl).2
  have e3 : cA = g.2.2.1 1 := Option.some.inj (e1.symm.trans e2)
  rw [e3] at hP1 hD1
  exact k q H1 locs ls hP1 hD1 hS1 hL
theorem a_newq (C : Ok x g own cc nL ret) {v : Int32} {N t0 i : Nat} {cA0 : ClassId} {Cn : String} (hao : ∀ s, x.2.2.2.1 = s → va_AO Cn s) (ht : (tyG g)[t0]? = some (cA0, .object Cn)) (hcl : Cond.classLink own i Cn ∈ gT) (hv : ¬ v < 0 ∧ v.toNatClampNeg = N ∧ N * 4 ≤ 536870912) (hR : kc + 1 ≤ R.cells ∧ ks + N ≤ R.slots) (d : decode cc pc = .ok (.anewarray i, 3)) (hn : pc + 3 = n) (k : ∀ q : Nat, JA x g R nL Q n L (.ref q :: st) (ws ++ [(q, .inl (cA0, N, .inr (.inr (.inr (.inr (fun _ => none))))))]) (kc + 1) (ks + N)) : JA x g R nL Q pc L (.int v :: st) ws kc ks := by
  obtain ⟨p, l, e, s, m, args, below, meth, c, A⟩ := x
  subst hn
  intro H locs ls hP hD hS hL
  have hts := C.2.2.2.2.2.1
  have hK := C.2.2.2.2.2.2.2.1
  refine va_newq C.1 C.2.1 C.2.2.2.2.1 (hts _ hcl) (hao s rfl) hK hP hD hS C.2.2.2.2.2.2.2.2.1 hv.1 hv.2.1 hv.2.2 hR.1 hR.2 d (fun q cA H1 hK1 hP1 hD1 hS1 => ?_)
  obtain ⟨-, -, -, -, -, e1⟩ := (hK1.2 4 (cA, .object Cn) rfl).2
  obtain ⟨-, -, -, -, -, e2⟩ := (hK.2 t0 (cA0, .object Cn) ht).2
  have e3 : cA = cA0 := Option.some.inj (e1.symm.trans e2)
  rw [e3] at hP1 hD1
  exact k q H1 locs ls hP1 hD1 hS1 hL
theorem a_put (C : Ok x g own cc nL ret) (q0 : Nat) {a ci i : Nat} {fs : List Value} {v : Value} (he : ws[q0]? = some (a, .inr (ci, fs))) {Cn : String} {T : u_T} {N : Nat} (hc : vwCl[ci]? = some (Cn, T, N)) (hin : ∀ w ∈ u_ws Cn T N, w ∈ gT) (ty0 : Nat → FieldType) (hty : ∀ k, k < N → parseFieldDescriptor (T k).2.2.1 = some (ty0 k)) (hnm : ∀ a, a < N → ∀ b, b < N → a ≠ b → (T a).2.1 ≠ (T b).2.1) (j : Nat) (hj : j < N) (hl : Cond.fieldLink own i (T j).1 (T j).2.1 (T j).2.2.1 ∈ gT) (hfin : (T j).2.2.2 = false) {ty : FieldType} (hd : parseFieldDescriptor (T j).2.2.1 = some ty) (hw : narrow ty v = v ∧ fits ty v = true) (hlt : j < fs.length) (d : decode cc pc = .ok (.putfield i, 3)) (hn : pc + 3 = n) (k : JA x g R nL Q n L st (ws.set q0 (a, .inr (ci, fs.set j v))) kc ks) : JA x g R nL Q pc L (v :: .ref a :: st) ws kc ks := by
  obtain ⟨p, l, e, s, m, args, below, meth, c, A⟩ := x
  subst hn
  intro H locs ls hP hD hS hL
  exact va_put C.1 C.2.1 C.2.2.2.2.2.1 hin ty0 hty hnm C.2.2.2.2.1 C.2.2.2.2.2.2.2.1 hP hD hS q0 he hc j hj (C.2.2.2.2.2.1 _ hl) (fun _ h9 => h9) hfin hd hw.1 hw.2 hlt d (fun H1 locs1 hP1 hD1 hS1 => k H1 locs1 ls hP1 hD1 hS1 hL)
theorem a_putF (C : Ok x g own cc nL ret) (o : OI x) (q0 : Nat) {a ci i : Nat} {fs : List Value} {v : Value} (he : ws[q0]? = some (a, .inr (ci, fs))) {Cn : String} {T : u_T} {N : Nat} (hc : vwCl[ci]? = some (Cn, T, N)) (hin : ∀ w ∈ u_ws Cn T N, w ∈ gT) (ty0 : Nat → FieldType) (hty : ∀ k, k < N → parseFieldDescriptor (T k).2.2.1 = some (ty0 k)) (hnm : ∀ a, a < N → ∀ b, b < N → a ≠ b → (T a).2.1 ≠ (T b).2.1) (j : Nat) (hj : j < N) (hl : Cond.fieldLink own i (T j).1 (T j).2.1 (T j).2.2.1 ∈ gT) (hfin : (T j).2.2.2 = true) (hdc : (T j).1 = own) {ty : FieldType} (hd : parseFieldDescriptor (T j).2.2.1 = some ty) (hw : narrow ty v = v ∧ fits ty v = true) (hlt : j < fs.length) (d : decode cc pc = .ok (.putfield i, 3)) (hn : pc + 3 = n) (k : JA x g R nL Q n L st (ws.set q0 (a, .inr (ci, fs.set j v))) kc ks) : JA x g R nL Q pc L (v :: .ref a :: st) ws kc ks := by
  obtain ⟨p, l, e, s, m, args, below, meth, c, A⟩ := x
  subst hn
  intro H locs ls hP hD hS hL
  exact va_putF C.1 C.2.1 C.2.2.2.2.2.1 hin ty0 hty hnm C.2.2.2.2.1 C.2.2.2.2.2.2.2.1 hP hD hS q0 he hc j hj (C.2.2.2.2.2.1 _ hl) (fun _ h9 => h9) hfin o.1 hdc hd hw.1 hw.2 hlt d (fun H1 locs1 hP1 hD1 hS1 => k H1 locs1 ls hP1 hD1 hS1 hL)
theorem a_get (C : Ok x g own cc nL ret) (q0 : Nat) {a ci i : Nat} {fs : List Value} (he : ws[q0]? = some (a, .inr (ci, fs))) {Cn : String} {T : u_T} {N : Nat} (hc : vwCl[ci]? = some (Cn, T, N)) (hin : ∀ w ∈ u_ws Cn T N, w ∈ gT) (j : Nat) (hj : j < N) (hl : Cond.fieldLink own i (T j).1 (T j).2.1 (T j).2.2.1 ∈ gT) {v : Value} (hv : fs[j]? = some v) (d : decode cc pc = .ok (.getfield i, 3)) (hn : pc + 3 = n) (k : JA x g R nL Q n L (v :: st) ws kc ks) : JA x g R nL Q pc L (.ref a :: st) ws kc ks := by
  obtain ⟨p, l, e, s, m, args, below, meth, c, A⟩ := x
  subst hn
  intro H locs ls hP hD hS hL
  exact va_get C.1 C.2.1 C.2.2.2.2.2.1 hin C.2.2.2.2.1 C.2.2.2.2.2.2.2.1 hP q0 he hc j hj (C.2.2.2.2.2.1 _ hl) (fun _ h9 => h9) hv d (k H locs ls hP hD hS hL)
theorem a_iast (C : Ok x g own cc nL ret) (q0 : Nat) {a N : Nat} {f : Nat → Int32} {i v : Int32} (ha : ws[q0]? = some (a, .inl (g.2.2.1 0, N, .inl f))) (hz : inR i N = true) (d : decode cc pc = .ok (.iastore, 1)) (hn : pc + 1 = n) (k : JA x g R nL Q n L st (ws.set q0 (a, .inl (g.2.2.1 0, N, .inl (upd f i.toNatClampNeg v)))) kc ks) : JA x g R nL Q pc L (.int v :: .int i :: .ref a :: st) ws kc ks := by
  obtain ⟨p, l, e, s, m, args, below, meth, c, A⟩ := x
  subst hn
  intro H locs ls hP hD hS hL
  exact va_iast C.1 C.2.1 C.2.2.2.2.2.2.2.1 hP hD hS q0 0 ha rfl (inR_vp hz) d (fun H1 locs1 hP1 hD1 hS1 => k H1 locs1 ls hP1 hD1 hS1 hL)
theorem a_aast (C : Ok x g own cc nL ret) (q0 t0 qk ci : Nat) {a N v : Nat} {cA : ClassId} {r : vw_C} {vs : List Value} {f : Nat → Option Nat} {i : Int32} (ha : ws[q0]? = some (a, .inl (cA, N, .inr (.inr (.inr (.inr f)))))) (ht : (tyG g)[t0]? = some (cA, .object r.1)) (hv : ws[qk]? = some (v, .inr (ci, vs))) (hc : vwCl[ci]? = some r) (hz : inR i N = true) (d : decode cc pc = .ok (.aastore, 1)) (hn : pc + 1 = n) (k : JA x g R nL Q n L st (ws.set q0 (a, .inl (cA, N, .inr (.inr (.inr (.inr (va_up f i.toNatClampNeg (some v)))))))) kc ks) : JA x g R nL Q pc L (.ref v :: .int i :: .ref a :: st) ws kc ks := by
  obtain ⟨p, l, e, s, m, args, below, meth, c, A⟩ := x
  subst hn
  intro H locs ls hP hD hS hL
  exact va_astq C.1 C.2.1 C.2.2.2.2.2.2.2.1 hP hD hS q0 t0 qk ci ha ht hv hc (inR_vp hz) d (fun H1 locs1 hP1 hD1 hS1 => k H1 locs1 ls hP1 hD1 hS1 hL)
theorem a_sast (C : Ok x g own cc nL ret) (q0 t0 : Nat) {a N sid : Nat} {cA : ClassId} {f : Nat → Option Nat} {i : Int32} (ha : ws[q0]? = some (a, .inl (cA, N, .inr (.inr (.inr (.inr f)))))) (ht : (tyG g)[t0]? = some (cA, .object "java/lang/String")) (hs : sid < 14) (hz : inR i N = true) (d : decode cc pc = .ok (.aastore, 1)) (hn : pc + 1 = n) (k : JA x g R nL Q n L st (ws.set q0 (a, .inl (cA, N, .inr (.inr (.inr (.inr (va_up f i.toNatClampNeg (some (g.2.2.2.2.1 sid))))))))) kc ks) : JA x g R nL Q pc L (.ref (g.2.2.2.2.1 sid) :: .int i :: .ref a :: st) ws kc ks := by
  obtain ⟨p, l, e, s, m, args, below, meth, c, A⟩ := x
  subst hn
  intro H locs ls hP hD hS hL
  have hE := (C.2.2.2.2.2.2.2.2.2 : SX _ _ _ _).2.2.2.2.2.1
  exact vb_astq (C := "java/lang/String") C.1 C.2.1 C.2.2.2.2.2.2.2.1 hP hD hS q0 t0 ha ht (vk_recv hE hs hS) (fun c1 c2 h1 h2 => by rw [Option.some.inj (h2.symm.trans h1)]; exact va_asg _ _) (inR_vp hz) d (fun H1 locs1 hP1 hD1 hS1 => k H1 locs1 ls hP1 hD1 hS1 hL)
theorem a_ldcS (C : Ok x g own cc nL ret) {i sid : Nat} {tx : String} (hm : (own, i, tx, sid) ∈ stR) (d : decode cc pc = .ok (.ldc i, 2)) (hn : pc + 2 = n) (k : JA x g R nL Q n L (.ref (g.2.2.2.2.1 sid) :: st) ws kc ks) : JA x g R nL Q pc L st ws kc ks := by
  obtain ⟨p, l, e, s, m, args, below, meth, c, A⟩ := x
  subst hn
  intro H locs ls hP hD hS hL
  exact va_ldcS C.1 C.2.1 C.2.2.2.2.1 ((C.2.2.2.2.2.2.2.2.2 : SX _ _ _ _).2.2.2.2.2.2.1 _ hm) d (k H locs ls hP hD hS hL)
end ARows
