def revA : List Value → List Value → List Value
  | [], s => s
  | a :: t, s => revA t (a :: s)
theorem revA_eq : ∀ (a s : List Value), revA a s = a.reverse ++ s := by
  intro a
  induction a with
  | nil => intro s; rfl
  | cons b t ih => intro s; show revA t (b :: s) = _; rw [ih]; simp
theorem ct_of {ρ : Type} {l : Launch} {y : MethodName} {cc : ByteArray} {nL d : Nat} {ret : Option FieldType} {cw : Gl → Hp → va_W} {av : Gl → List Value} {h : Hp} {QR : ρ → QT} {E : Option ρ} {r : ρ} (hy : plainName y.cls = true) (hav : ∀ g, (av g).all (fun v => v.category == 1) = true ∧ (lg_sl (av g)).length ≤ nL) (hE : E = some r)
    (hJ : ∀ (x : Fx) (g : Gl), x.2.1 = l → Ok x g y.cls cc nL ret → J x g cw nL d QR 0 ((av g).map some) [] h E) : CT l y cc nL ret d cw av h (QR r) := by
  intro g sz
  refine Met.ofW (cc := cc) (maxL := nL) (ret := ret) hy rfl ?_
  intro p e s m args below meth c s₁ B hml hv
  obtain ⟨rfl, hsz, hP, hK, hD0, hX⟩ := hv
  have hts := atoms_spec (ws := Cond.code y cc nL ret :: gT) B.pre
  have hown : s.vm.findClass y.cls = some m.cls := findClass_of_methodNamed B.named
  subst hsz
  have hD := hD0.self (sz := s.heap.size)
  rw [lg_entry_eq]
  exact hJ (p, l, e, s, m, (av g).toArray, below, meth, c, va_A (cw g h) s.heap.size) g rfl ⟨B.exec, B.bytes, hml, B.returns, hown, fun w hw => hts w (List.mem_cons_of_mem _ hw), B.notSynchronized, hK, fun q hq => Or.inr hq, hX⟩ r hE s.heap [] _ hP hD va_S.rf (hasL_entry (av g) (fun v hv => by simpa using List.all_eq_true.mp (hav g).1 v hv) (hav g).2)
def RunX (x : Fx) (g : Gl) (cw : Gl → Hp → va_W) (dR pc : Nat) (stk st : List Value) (Q : QT) (h : Hp) (H : Heap) (locs : List Loc) (ls : Array Slot) : Prop := match x with
  | (p, l, e, s, m, args, below, meth, c, _) => ∃ a, va_Run p l e (rmd dR) s m args below meth c H locs 0 0 0 0 (F0 m pc ls stk) st (Q g (va_A (cw g h) H.size) a) (va_A (cw g h) H.size)
def RunA (x : Fx) (g : Gl) (cw : Gl → Hp → va_W) (nL dR pc : Nat) (stk st : List Value) (Q : QT) (h : Hp) : Prop := ∀ (H : Heap) (locs : List Loc) (ls : Array Slot), va_P g.1 vwCl (cw g h) H → va_D x.2.2.2.2.2.2.2.2.2 (cw g h) → va_S x.2.2.2.2.2.2.2.2.2 x.2.2.2.1.heap H locs → ls.size = nL → RunX x g cw dR pc stk st Q h H locs ls
section JCalls
variable {ρ : Type} {x : Fx} {g : Gl} {cw : Gl → Hp → va_W} {nL dR : Nat} {QR : ρ → QT} {own : String} {cc : ByteArray} {ret : Option FieldType} {pc n : Nat} {L : List (Option Value)} {stk st : List Value} {h : Hp} {E : Option ρ}
variable {y : MethodName} {c1 : ByteArray} {n1 nA d i : Nat} {r1 : Option FieldType} {av : Gl → List Value} {As : List Value} {Q : QT}
theorem run_S (C : Ok x g own cc nL ret) (mi : MI y c1 n1 r1 nA) (hl : Cond.methodLink own i y ∈ gT) (hst : Cond.static y ∈ gT) (hd : d < dR ∧ n1 ≤ 40) (hM : CT x.2.1 y c1 n1 r1 d cw av h Q) (hav : av g = As) (hA : As.length = nA) (hk : stk = revA As st) (hw : (st.map fun v => v.category).sum ≤ 8) (dd : decode cc pc = .ok (.invokestatic i, 3)) : RunA x g cw nL dR pc stk st Q h := by
  obtain ⟨p, l, e, s, m, args, below, meth, c, A⟩ := x
  intro H locs ls hP hD hS hL
  have hts := C.2.2.2.2.2.1
  have hFc := A_in hD hS C.2.2.2.2.2.2.2.2.1
  refine ⟨_, va_runS (As := As) (rest := st) (Ts := gT) (own := own) (nL := nL) ⟨C.1, C.2.1, C.2.2.1, C.2.2.2.2.1, hts⟩ (hM g H.size) ⟨callB_of nA hts (gT_code mi.1) rfl rfl rfl (hts _ mi.2.1) (hts _ hl) mi.2.2 ⟨?_, ?_⟩, hts _ hst⟩ ⟨PreX.blind, fun U hU hW => ⟨by rw [hav], by rw [hU], by rw [hU]; exact hP, va_K.moved hW.alike C.2.2.2.2.2.2.2.1, hD.weaken (fun _ _ _ _ => trivial), SX.go C.2.2.2.2.2.2.2.2.2 hS hW hU hFc⟩⟩ rfl hA hL (hk.trans (revA_eq As st)) (lv_room hw) dd ⟨Nat.le_refl 0, Nat.le_refl 0⟩⟩
  · show d + 1 ≤ dR; omega
  · show 8 + (n1 + 11) + 64 * d ≤ 64 * dR; omega
theorem run_SN (C : Ok x g own cc nL ret) (mi : MI y c1 n1 r1 nA) {host : String} (hl : (own, i, y, host) ∈ neR) (hst : Cond.static y ∈ gT) (hd : d < dR ∧ n1 ≤ 40) (hM : CT x.2.1 y c1 n1 r1 d cw av h Q) (hav : av g = As) (hA : As.length = nA) (hk : stk = revA As st) (hw : (st.map fun v => v.category).sum ≤ 8) (dd : decode cc pc = .ok (.invokestatic i, 3)) : RunA x g cw nL dR pc stk st Q h := by
  obtain ⟨p, l, e, s, m, args, below, meth, c, A⟩ := x
  intro H locs ls hP hD hS hL
  have hts := C.2.2.2.2.2.1
  have hFc := A_in hD hS C.2.2.2.2.2.2.2.2.1
  have hne := (C.2.2.2.2.2.2.2.2.2 : SX _ _ _ _).2.2.2.2.2.2.2 _ hl
  refine ⟨_, va_runSN (As := As) (rest := st) (Ts := gT) (own := own) (nL := nL) (host := host) ⟨C.1, C.2.1, C.2.2.1, C.2.2.2.2.1, hts⟩ (hM g H.size) ⟨va_cnB nA hts (gT_code mi.1) rfl rfl rfl hne (hts _ mi.2.1) mi.2.2 ⟨?_, ?_⟩, hts _ hst, trivial⟩ ⟨PreX.blind, fun U hU hW => ⟨by rw [hav], by rw [hU], by rw [hU]; exact hP, va_K.moved hW.alike C.2.2.2.2.2.2.2.1, hD.weaken (fun _ _ _ _ => trivial), SX.go C.2.2.2.2.2.2.2.2.2 hS hW hU hFc⟩⟩ rfl hA hL (hk.trans (revA_eq As st)) (lv_room hw) dd ⟨Nat.le_refl 0, Nat.le_refl 0⟩⟩
  · show d + 1 ≤ dR; omega
  · show 8 + (n1 + 11) + 64 * d ≤ 64 * dR; omega
theorem run_V (C : Ok x g own cc nL ret) (mi : MI y c1 n1 r1 nA) (hl : Cond.methodLink own i y ∈ gT) {Cn : String} (hst : Cond.instanceMethod y ∈ gT ∧ Cond.selects Cn y y ∈ gT) (hd : d < dR ∧ n1 ≤ 40) (hM : CT x.2.1 y c1 n1 r1 d cw av h Q) {b q0 ci : Nat} {fs : List Value} {T : u_T} {N : Nat} (he : (cw g h)[q0]? = some (b, .inr (ci, fs))) (hc : vwCl[ci]? = some (Cn, T, N)) (hav : av g = .ref b :: As) (hA : As.length = nA) (hk : stk = revA As (.ref b :: st)) (hw : (st.map fun v => v.category).sum ≤ 8) (dd : decode cc pc = .ok (.invokevirtual i, 3)) : RunA x g cw nL dR pc stk st Q h := by
  obtain ⟨p, l, e, s, m, args, below, meth, c, A⟩ := x
  intro H locs ls hP hD hS hL
  have hts := C.2.2.2.2.2.1
  have hFc := A_in hD hS C.2.2.2.2.2.2.2.2.1
  refine ⟨_, va_runV (C := Cn) (b := b) (As := As) (rest := st) (Ts := gT) (own := own) (nL := nL) ⟨C.1, C.2.1, C.2.2.1, C.2.2.2.2.1, hts⟩ (hM g H.size) ⟨callB_of nA hts (gT_code mi.1) rfl rfl rfl (hts _ mi.2.1) (hts _ hl) mi.2.2 ⟨?_, ?_⟩, hts _ hst.1, hts _ hst.2⟩ ⟨PreX.blind, va_recv C.2.2.2.2.2.2.2.1 hP hc he, fun U hU hW => ⟨by rw [hav], by rw [hU], by rw [hU]; exact hP, va_K.moved hW.alike C.2.2.2.2.2.2.2.1, hD.weaken (fun _ _ _ _ => trivial), SX.go C.2.2.2.2.2.2.2.2.2 hS hW hU hFc⟩⟩ rfl hA hL (hk.trans (revA_eq As _)) (lv_room hw) dd ⟨Nat.le_refl 0, Nat.le_refl 0⟩⟩
  · show d + 1 ≤ dR; omega
  · show 8 + (n1 + 11) + 64 * d ≤ 64 * dR; omega

theorem j_ci (C : Ok x g own cc nL ret) {v : Int32} {u : Hp} (run : RunA x g cw nL dR pc stk st (qI cw v u) h) (hn : pc + 3 = n) (k : J x g cw nL dR QR n L (.int v :: st) u E) : J x g cw nL dR QR pc L stk h E := by
  obtain ⟨p, l, e, s, m, args, below, meth, c, A⟩ := x
  subst hn
  intro r hE H locs ls hP hD hS hL
  have hFc := A_in hD hS C.2.2.2.2.2.2.2.2.1
  obtain ⟨a, hr⟩ := run H locs ls hP hD hS hL.1
  refine va_calli hr hS (fun q _ h => hFc q h) hFc (fun v1 u1 t H1 locs1 ht hvm hw hB hz1 hk1 hS1 => ?_)
  obtain ⟨rfl, rfl⟩ := hw
  obtain ⟨hP1, hK1, hD1⟩ := hB
  rw [ht] at hP1
  exact k r hE H1 locs1 ls hP1 (hD1.weaken (fun k q _ h => hFc q.1 h)) hS1 hL
theorem j_cz (C : Ok x g own cc nL ret) {v : Int32} {u : Hp} (run : RunA x g cw nL dR pc stk st (qZ cw v u) h) (hn : pc + 3 = n) (k : (v = 0 ∨ v = 1) → J x g cw nL dR QR n L (.int v :: st) u E) : J x g cw nL dR QR pc L stk h E := by
  obtain ⟨p, l, e, s, m, args, below, meth, c, A⟩ := x
  subst hn
  intro r hE H locs ls hP hD hS hL
  have hFc := A_in hD hS C.2.2.2.2.2.2.2.2.1
  obtain ⟨a, hr⟩ := run H locs ls hP hD hS hL.1
  refine va_calli hr hS (fun q _ h => hFc q h) hFc (fun v1 u1 t H1 locs1 ht hvm hw hB hz1 hk1 hS1 => ?_)
  obtain ⟨rfl, rfl, hz⟩ := hw
  obtain ⟨hP1, hK1, hD1⟩ := hB
  rw [ht] at hP1
  exact k hz r hE H1 locs1 ls hP1 (hD1.weaken (fun k q _ h => hFc q.1 h)) hS1 hL
theorem j_cv (C : Ok x g own cc nL ret) {u : Hp} (run : RunA x g cw nL dR pc stk st (qV cw u) h) (hn : pc + 3 = n) (k : J x g cw nL dR QR n L (st) u E) : J x g cw nL dR QR pc L stk h E := by
  obtain ⟨p, l, e, s, m, args, below, meth, c, A⟩ := x
  subst hn
  intro r hE H locs ls hP hD hS hL
  have hFc := A_in hD hS C.2.2.2.2.2.2.2.2.1
  obtain ⟨a, hr⟩ := run H locs ls hP hD hS hL.1
  refine va_callv hr hS (fun q _ h => hFc q h) hFc (fun u1 t H1 locs1 ht hvm hw hB hz1 hk1 hS1 => ?_)
  obtain rfl := hw
  obtain ⟨hP1, hK1, hD1⟩ := hB
  rw [ht] at hP1
  exact k r hE H1 locs1 ls hP1 (hD1.weaken (fun k q _ h => hFc q.1 h)) hS1 hL
theorem j_cq (C : Ok x g own cc nL ret) {b : Nat} {u : Hp} (run : RunA x g cw nL dR pc stk st (qR cw (fun g => some (g.2.1 b)) u) h) (hn : pc + 3 = n) (k : J x g cw nL dR QR n L (rf g b :: st) u E) : J x g cw nL dR QR pc L stk h E := by
  obtain ⟨p, l, e, s, m, args, below, meth, c, A⟩ := x
  subst hn
  intro r hE H locs ls hP hD hS hL
  have hFc := A_in hD hS C.2.2.2.2.2.2.2.2.1
  obtain ⟨a, hr⟩ := run H locs ls hP hD hS hL.1
  refine va_callq hr hS (fun q _ h => hFc q h) hFc (fun v1 u1 t H1 locs1 ht hvm hw hB hz1 hk1 hS1 => ?_)
  obtain ⟨rfl, rfl⟩ := hw
  obtain ⟨hP1, hK1, hD1⟩ := hB
  rw [ht] at hP1
  exact k r hE H1 locs1 ls hP1 (hD1.weaken (fun k q _ h => hFc q.1 h)) hS1 hL
theorem j_cqN (C : Ok x g own cc nL ret) {u : Hp} (run : RunA x g cw nL dR pc stk st (qR cw (fun _ => none) u) h) (hn : pc + 3 = n) (k : J x g cw nL dR QR n L (.null :: st) u E) : J x g cw nL dR QR pc L stk h E := by
  obtain ⟨p, l, e, s, m, args, below, meth, c, A⟩ := x
  subst hn
  intro r hE H locs ls hP hD hS hL
  have hFc := A_in hD hS C.2.2.2.2.2.2.2.2.1
  obtain ⟨a, hr⟩ := run H locs ls hP hD hS hL.1
  refine va_callq hr hS (fun q _ h => hFc q h) hFc (fun v1 u1 t H1 locs1 ht hvm hw hB hz1 hk1 hS1 => ?_)
  obtain ⟨rfl, rfl⟩ := hw
  obtain ⟨hP1, hK1, hD1⟩ := hB
  rw [ht] at hP1
  exact k r hE H1 locs1 ls hP1 (hD1.weaken (fun k q _ h => hFc q.1 h)) hS1 hL
theorem j_bnd {α : Type} {X : Option α} {k : α → Option ρ} (kk : ∀ a, X = some a → J x g cw nL dR QR pc L stk h (k a)) : J x g cw nL dR QR pc L stk h (bnd X k) := by
  cases X with
  | some a => exact kk a rfl
  | none => exact j_none
end JCalls
section JRet
variable {x : Fx} {g : Gl} {cw : Gl → Hp → va_W} {nL dR : Nat} {own : String} {cc : ByteArray} {pc : Nat} {L : List (Option Value)} {h : Hp}

theorem j_ret (C : Ok x g own cc nL (some .int)) {v : Int32} (d : decode cc pc = .ok (.ireturn, 1)) : J x g cw nL dR (fun r : Int32 => qI cw r h) pc L [.int v] h (some v) := by
  obtain ⟨p, l, e, s, m, args, below, meth, c, A⟩ := x
  intro r hE H locs ls hP hD hS hL
  injection hE with hE
  subst hE
  refine W.iret C.1 C.2.1 C.2.2.2.1 (fun t ht hW => ⟨⟨_, _, rfl, ⟨rfl, rfl⟩, ⟨by rw [ht]; exact hP, va_K.moved hW.alike C.2.2.2.2.2.2.2.1, hD⟩⟩, hS.F ht⟩) hS.2.2 d C.2.2.2.2.2.2.1
theorem j_retP (C : Ok x g own cc nL (some .int)) {v : Int32} (d : decode cc pc = .ok (.ireturn, 1)) : J x g cw nL dR (fun r : Int32 × Hp => qI cw r.1 r.2) pc L [.int v] h (some (v, h)) := by
  obtain ⟨p, l, e, s, m, args, below, meth, c, A⟩ := x
  intro r hE H locs ls hP hD hS hL
  injection hE with hE
  subst hE
  refine W.iret C.1 C.2.1 C.2.2.2.1 (fun t ht hW => ⟨⟨_, _, rfl, ⟨rfl, rfl⟩, ⟨by rw [ht]; exact hP, va_K.moved hW.alike C.2.2.2.2.2.2.2.1, hD⟩⟩, hS.F ht⟩) hS.2.2 d C.2.2.2.2.2.2.1
theorem j_retZ (C : Ok x g own cc nL (some .boolean)) {v : Int32} (hz : v = 0 ∨ v = 1) (d : decode cc pc = .ok (.ireturn, 1)) : J x g cw nL dR (fun r : Int32 => qZ cw r h) pc L [.int v] h (some v) := by
  obtain ⟨p, l, e, s, m, args, below, meth, c, A⟩ := x
  intro r hE H locs ls hP hD hS hL
  injection hE with hE
  subst hE
  refine W.zret C.1 C.2.1 C.2.2.2.1 (by rcases hz with q | q <;> subst q <;> rfl) (fun t ht hW => ⟨⟨_, _, rfl, ⟨rfl, rfl, hz⟩, ⟨by rw [ht]; exact hP, va_K.moved hW.alike C.2.2.2.2.2.2.2.1, hD⟩⟩, hS.F ht⟩) hS.2.2 d C.2.2.2.2.2.2.1
theorem j_retZP (C : Ok x g own cc nL (some .boolean)) {v : Int32} (hz : v = 0 ∨ v = 1) (d : decode cc pc = .ok (.ireturn, 1)) : J x g cw nL dR (fun r : Int32 × Hp => qZ cw r.1 r.2) pc L [.int v] h (some (v, h)) := by
  obtain ⟨p, l, e, s, m, args, below, meth, c, A⟩ := x
  intro r hE H locs ls hP hD hS hL
  injection hE with hE
  subst hE
  refine W.zret C.1 C.2.1 C.2.2.2.1 (by rcases hz with q | q <;> subst q <;> rfl) (fun t ht hW => ⟨⟨_, _, rfl, ⟨rfl, rfl, hz⟩, ⟨by rw [ht]; exact hP, va_K.moved hW.alike C.2.2.2.2.2.2.2.1, hD⟩⟩, hS.F ht⟩) hS.2.2 d C.2.2.2.2.2.2.1
theorem j_retV (C : Ok x g own cc nL none) (d : decode cc pc = .ok (.return_, 1)) : J x g cw nL dR (fun r : Hp => qV cw r) pc L [] h (some h) := by
  obtain ⟨p, l, e, s, m, args, below, meth, c, A⟩ := x
  intro r hE H locs ls hP hD hS hL
  injection hE with hE
  subst hE
  exact W.vret C.1 C.2.1 C.2.2.2.1 (fun t ht hW => ⟨⟨_, rfl, rfl, ⟨by rw [ht]; exact hP, va_K.moved hW.alike C.2.2.2.2.2.2.2.1, hD⟩⟩, hS.F ht⟩) hS.2.2 d C.2.2.2.2.2.2.1
theorem j_retA {rt : FieldType} (C : Ok x g own cc nL (some rt)) (hrt : (∃ n, rt = .object n) ∨ ∃ t, rt = .array t) {b : Nat} (d : decode cc pc = .ok (.areturn, 1)) {QR : Unit → QT} (hQ : QR = fun _ => qR cw (fun g => some (g.2.1 b)) h) : J x g cw nL dR QR pc L [rf g b] h (some ()) := by
  obtain ⟨p, l, e, s, m, args, below, meth, c, A⟩ := x
  subst hQ
  intro r hE H locs ls hP hD hS hL
  exact W.aret C.1 C.2.1 C.2.2.2.1 hrt (Or.inr ⟨_, rfl⟩) (fun t ht hW => ⟨⟨_, _, rfl, ⟨rfl, rfl⟩, ⟨by rw [ht]; exact hP, va_K.moved hW.alike C.2.2.2.2.2.2.2.1, hD⟩⟩, hS.F ht⟩) hS.2.2 d C.2.2.2.2.2.2.1
theorem j_retN {rt : FieldType} (C : Ok x g own cc nL (some rt)) (hrt : (∃ n, rt = .object n) ∨ ∃ t, rt = .array t) (d : decode cc pc = .ok (.areturn, 1)) {QR : Unit → QT} (hQ : QR = fun _ => qR cw (fun _ => none) h) : J x g cw nL dR QR pc L [.null] h (some ()) := by
  obtain ⟨p, l, e, s, m, args, below, meth, c, A⟩ := x
  subst hQ
  intro r hE H locs ls hP hD hS hL
  exact W.aret C.1 C.2.1 C.2.2.2.1 hrt (Or.inl rfl) (fun t ht hW => ⟨⟨none, _, rfl, ⟨rfl, rfl⟩, ⟨by rw [ht]; exact hP, va_K.moved hW.alike C.2.2.2.2.2.2.2.1, hD⟩⟩, hS.F ht⟩) hS.2.2 d C.2.2.2.2.2.2.1
end JRet

def jmin (a b : Int32) : Int32 := if b < a then b else a
def jabs (a : Int32) : Int32 := if 0 ≤ a then a else 0 - a
def cpOk (sp dp nn : Int32) (n0 n1 : Nat) : Bool := decide (0 ≤ sp) && (decide (0 ≤ dp) && (decide (0 ≤ nn) && (decide (sp.toNatClampNeg + nn.toNatClampNeg ≤ n0) && decide (dp.toNatClampNeg + nn.toNatClampNeg ≤ n1))))
theorem cpOk_ok {sp dp nn : Int32} {n0 n1 : Nat} (h : cpOk sp dp nn n0 n1 = true) : ¬ sp < 0 ∧ ¬ dp < 0 ∧ ¬ nn < 0 ∧ sp.toNatClampNeg + nn.toNatClampNeg ≤ n0 ∧ dp.toNatClampNeg + nn.toNatClampNeg ≤ n1 := by
  unfold cpOk at h
  simp only [Bool.and_eq_true, decide_eq_true_eq] at h
  exact ⟨Int32.not_lt.mpr h.1, Int32.not_lt.mpr h.2.1, Int32.not_lt.mpr h.2.2.1, h.2.2.2.1, h.2.2.2.2⟩
theorem ms_max : Cond.static Lib.Math.max.name ∈ gT := gT_in (by decide +kernel) rfl
theorem ms_min : Cond.static Lib.Math.min.name ∈ gT := gT_in (by decide +kernel) rfl
theorem ms_abs : Cond.static Lib.Math.abs.name ∈ gT := gT_in (by decide +kernel) rfl
theorem mi_Math : Cond.initialized "java/lang/Math" ∈ gT := gT_in (by decide +kernel) rfl
theorem mc_max : Cond.code Lib.Math.max.name Lib.Math.max.code 2 (some .int) ∈ gT := gT_in (by decide +kernel) rfl
theorem mc_min : Cond.code Lib.Math.min.name Lib.Math.min.code 2 (some .int) ∈ gT := gT_in (by decide +kernel) rfl
theorem mc_abs : Cond.code Lib.Math.abs.name Lib.Math.abs.code 1 (some .int) ∈ gT := gT_in (by decide +kernel) rfl
theorem mc_copyn : Cond.native arraycopyName ∈ gT := gT_in (by decide +kernel) rfl
theorem mc_copys : Cond.static arraycopyName ∈ gT := gT_in (by decide +kernel) rfl
theorem mc_sys : Cond.initialized "java/lang/System" ∈ gT := gT_in (by decide +kernel) rfl
def jmax (a b : Int32) : Int32 := if a < b then b else a
section JMath
variable {ρ : Type} {x : Fx} {g : Gl} {cw : Gl → Hp → va_W} {nL dR : Nat} {QR : ρ → QT} {own : String} {cc : ByteArray} {ret : Option FieldType} {pc n : Nat} {L : List (Option Value)} {stk st : List Value} {h : Hp} {E : Option ρ} {i : Nat}

theorem j_mmax (C : Ok x g own cc nL ret) {x1 y1 : Int32} (hl : Cond.methodLink own i Lib.Math.max.name ∈ gT) (hd : 0 < dR) (hw : (st.map fun v => v.category).sum ≤ 8) (dd : decode cc pc = .ok (.invokestatic i, 3)) (hn : pc + 3 = n) (k : J x g cw nL dR QR n L (.int (jmax x1 y1) :: st) h E) : J x g cw nL dR QR pc L (.int y1 :: .int x1 :: st) h E := by
  obtain ⟨p, l, e, s, m, args, below, meth, c, A⟩ := x
  subst hn
  intro r hE H locs ls hP hD hS hL
  have hts := C.2.2.2.2.2.1
  refine va_mmax C.1 C.2.1 (C.2.2.1.trans hL.1.symm) C.2.2.2.2.1 (hts _ hl) (hts _ ms_max) (hts _ mi_Math) (hts _ mc_max) ?_ ?_ (Nat.zero_le _) (Nat.zero_le _) dd (k r hE H locs ls hP hD hS hL)
  · show 1 ≤ dR; omega
  · show _ + 13 ≤ 64 * dR; omega
theorem j_mmin (C : Ok x g own cc nL ret) {x1 y1 : Int32} (hl : Cond.methodLink own i Lib.Math.min.name ∈ gT) (hd : 0 < dR) (hw : (st.map fun v => v.category).sum ≤ 8) (dd : decode cc pc = .ok (.invokestatic i, 3)) (hn : pc + 3 = n) (k : J x g cw nL dR QR n L (.int (jmin x1 y1) :: st) h E) : J x g cw nL dR QR pc L (.int y1 :: .int x1 :: st) h E := by
  obtain ⟨p, l, e, s, m, args, below, meth, c, A⟩ := x
  subst hn
  intro r hE H locs ls hP hD hS hL
  have hts := C.2.2.2.2.2.1
  refine va_mmin C.1 C.2.1 (C.2.2.1.trans hL.1.symm) C.2.2.2.2.1 (hts _ hl) (hts _ ms_min) (hts _ mi_Math) (hts _ mc_min) ?_ ?_ (Nat.zero_le _) (Nat.zero_le _) dd (k r hE H locs ls hP hD hS hL)
  · show 1 ≤ dR; omega
  · show _ + 13 ≤ 64 * dR; omega
theorem j_mabs (C : Ok x g own cc nL ret) {x1 : Int32} (hl : Cond.methodLink own i Lib.Math.abs.name ∈ gT) (hd : 0 < dR) (hw : (st.map fun v => v.category).sum ≤ 8) (dd : decode cc pc = .ok (.invokestatic i, 3)) (hn : pc + 3 = n) (k : J x g cw nL dR QR n L (.int (jabs x1) :: st) h E) : J x g cw nL dR QR pc L (.int x1 :: st) h E := by
  obtain ⟨p, l, e, s, m, args, below, meth, c, A⟩ := x
  subst hn
  intro r hE H locs ls hP hD hS hL
  have hts := C.2.2.2.2.2.1
  refine va_mabs C.1 C.2.1 (C.2.2.1.trans hL.1.symm) C.2.2.2.2.1 (hts _ hl) (hts _ ms_abs) (hts _ mi_Math) (hts _ mc_abs) ?_ ?_ (Nat.zero_le _) (Nat.zero_le _) dd (k r hE H locs ls hP hD hS hL)
  · show 1 ≤ dR; omega
  · show _ + 13 ≤ 64 * dR; omega
theorem j_copy (C : Ok x g own cc nL ret) (q0 q1 : Nat) {a0 a1 n0 n1 : Nat} {f0 f1 : Nat → Int32} {sp dp nn : Int32} (ha0 : (cw g h)[q0]? = some (a0, .inl (g.2.2.1 0, n0, .inl f0))) (ha1 : (cw g h)[q1]? = some (a1, .inl (g.2.2.1 0, n1, .inl f1))) (hs : (cw g h).set q1 (a1, .inl (g.2.2.1 0, n1, .inl (va_cpy f0 f1 sp.toNatClampNeg dp.toNatClampNeg nn.toNatClampNeg))) = cw g (upA h q1 (va_cpy f0 f1 sp.toNatClampNeg dp.toNatClampNeg nn.toNatClampNeg))) (hl : Cond.methodLink own i arraycopyName ∈ gT) (hd : 0 < dR) (hw : (st.map fun v => v.category).sum ≤ 8) (dd : decode cc pc = .ok (.invokestatic i, 3)) (hn : pc + 3 = n) (k : J x g cw nL dR QR n L st (upA h q1 (va_cpy f0 f1 sp.toNatClampNeg dp.toNatClampNeg nn.toNatClampNeg)) E) : J x g cw nL dR QR pc L (.int nn :: .int dp :: .ref a1 :: .int sp :: .ref a0 :: st) h (chk (cpOk sp dp nn n0 n1) E) := by
  obtain ⟨p, l, e, s, m, args, below, meth, c, A⟩ := x
  subst hn
  intro r hE H locs ls hP hD hS hL
  obtain ⟨hz, hE⟩ := chk_some hE
  obtain ⟨h1, h2, h3, h4, h5⟩ := cpOk_ok hz
  have hts := C.2.2.2.2.2.1
  refine va_copyi C.1 C.2.1 (C.2.2.1.trans hL.1.symm) C.2.2.2.2.1 (hts _ hl) (hts _ mc_copyn) (hts _ mc_copys) (hts _ mc_sys) C.2.2.2.2.2.2.2.1 hP hD hS q0 q1 0 0 ha0 ha1 rfl rfl rfl h1 h2 h3 h4 h5 (fun _ _ => rfl) ?_ ?_ dd (fun H1 locs1 hP1 hD1 hS1 => ?_)
  · show 1 ≤ dR; omega
  · have : nativeFrameWords "java/lang/System" "arraycopy" 5 + 11 ≤ 40 := by decide
    show _ + _ ≤ 64 * dR; omega
  · rw [hs] at hP1 hD1
    exact k r hE H1 locs1 ls hP1 hD1 hS1 hL
end JMath

