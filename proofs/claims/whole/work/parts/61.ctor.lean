theorem pL {D : va_G} {cl : List vw_C} {w1 w2 : va_W} {H : Heap} (h : va_P D cl (w1 ++ w2) H) : va_P D cl w1 H := fun k q hk => h k q (by rw [List.getElem?_append_left (List.getElem?_eq_some_iff.mp hk).1]; exact hk)
theorem pR {D : va_G} {cl : List vw_C} {w1 w2 : va_W} {H : Heap} (h : va_P D cl (w1 ++ w2) H) : va_P D cl w2 H := fun k q hk => h (w1.length + k) q (by rw [List.getElem?_append_right (by omega), Nat.add_sub_cancel_left]; exact hk)
theorem dL {A : Nat → Prop} {w1 w2 : va_W} (h : va_D A (w1 ++ w2)) : va_D A w1 := ⟨fun i j p q hi hj e => h.1 i j p q (by rw [List.getElem?_append_left (List.getElem?_eq_some_iff.mp hi).1]; exact hi) (by rw [List.getElem?_append_left (List.getElem?_eq_some_iff.mp hj).1]; exact hj) e, fun k q hk => h.2 k q (by rw [List.getElem?_append_left (List.getElem?_eq_some_iff.mp hk).1]; exact hk)⟩
theorem dR {A : Nat → Prop} {w1 w2 : va_W} (h : va_D A (w1 ++ w2)) : va_D A w2 := ⟨fun i j p q hi hj e => by
    have := h.1 (w1.length + i) (w1.length + j) p q (by rw [List.getElem?_append_right (by omega), Nat.add_sub_cancel_left]; exact hi) (by rw [List.getElem?_append_right (by omega), Nat.add_sub_cancel_left]; exact hj) e
    omega, fun k q hk => h.2 (w1.length + k) q (by rw [List.getElem?_append_right (by omega), Nat.add_sub_cancel_left]; exact hk)⟩
theorem dX {A : Nat → Prop} {w1 w2 : va_W} (h : va_D A (w1 ++ w2)) : ∀ (i j : Nat) (p q : Nat × va_E), w1[i]? = some p → w2[j]? = some q → p.1 ≠ q.1 := fun i j p q hi hj e => by
  have := h.1 i (w1.length + j) p q (by rw [List.getElem?_append_left (List.getElem?_eq_some_iff.mp hi).1]; exact hi) (by rw [List.getElem?_append_right (by omega), Nat.add_sub_cancel_left]; exact hj) e
  have := (List.getElem?_eq_some_iff.mp hi).1
  omega
/-- behind a call: the other cells, and the callee's -/
theorem jnA {A : Nat → Prop} {D : va_G} {cl : List vw_C} {ws wc w1 : va_W} {H H1 : Heap} (hP : va_P D cl (ws ++ wc) H) (hD : va_D A (ws ++ wc)) (hk : ∀ q : Nat, q < H.size → ¬ va_A wc H.size q → H1[q]? = H[q]?) (hF : ∀ q, va_A wc H.size q → A q) (hP1 : va_P D cl w1 H1) (hD1 : va_D (va_A wc H.size) w1) : va_P D cl (ws ++ w1) H1 ∧ va_D A (ws ++ w1) := by
  have apart : ∀ (k : Nat) (q : Nat × va_E), ws[k]? = some q → q.1 < H.size ∧ ¬ va_A wc H.size q.1 := by
    intro k q hq
    have hl := (pL hP k q hq).lt
    refine ⟨hl, fun h => ?_⟩
    rcases h with ⟨k2, e, h⟩ | h
    · exact dX hD k k2 q (q.1, e) hq h rfl
    · omega
  refine ⟨va_P.app (fun k q hq => ?_) hP1, va_D.app (dL hD) (hD1.weaken (fun k q _ h => hF q.1 h)) (fun i j x y hx hy hxy => ?_)⟩
  · obtain ⟨g1, g2⟩ := apart k q hq
    exact (pL hP k q hq).kept (hk q.1 g1 g2)
  · exact (apart i x hx).2 (by rw [hxy]; exact hD1.2 j y hy)
/-- behind a call that changes one cell -/
theorem jnS {A : Nat → Prop} {D : va_G} {cl : List vw_C} {ws : va_W} {q0 a : Nat} {e0 e1 : va_E} {H H1 : Heap} (hP : va_P D cl ws H) (hD : va_D A ws) (h0 : ws[q0]? = some (a, e0)) (hk : ∀ q : Nat, q < H.size → ¬ va_A [(a, e0)] H.size q → H1[q]? = H[q]?) (h1 : va_at D cl (a, e1) H1) : va_P D cl (ws.set q0 (a, e1)) H1 := by
  intro k q hq
  by_cases e : q0 = k
  · subst e
    rw [List.getElem?_set_self (List.getElem?_eq_some_iff.mp h0).1] at hq
    cases hq; exact h1
  · rw [List.getElem?_set_ne e] at hq
    have hl := (hP k q hq).lt
    refine (hP k q hq).kept (hk q.1 hl (fun h => ?_))
    rcases h with ⟨k2, e2, h⟩ | h
    · cases k2 with
      | zero =>
        have h3 : some (a, e0) = some (q.1, e2) := h
        injection h3 with h3
        injection h3 with h3 h4
        exact e (hD.1 q0 k (a, e0) q h0 hq h3)
      | succ k2 => cases h
    · omega
def rmc (d mc ms : Nat) : Room := { frames := d, cells := mc, slots := ms, locals := 64 * d }
def PreC (g : Gl) (ws : va_W) (sz : Nat) (U : State) : Prop := U.heap.size = sz ∧ va_P g.1 vwCl ws U.heap ∧ va_K g.1 vwCl (tyG g) U ∧ va_D (fun _ => True) ws ∧ SX g (va_A ws sz) U U.heap ∧ va_AO "SameHeads$Sheet" U ∧ va_AO "java/lang/String" U
theorem PreC.blind {g : Gl} {ws : va_W} {sz : Nat} {av : List Value} : FrameBlind (va_Pc av (PreC g ws sz)) := by
  intro a U gg mk q
  obtain ⟨q0, q1, qP, qK, qD, qS, qA, qB⟩ := q
  exact ⟨q0, q1, qP, va_K.moved (u := U) (U := U.calling gg mk a) (Vm.Alike.refl U.vm) qK, qD, qS.same rfl, va_AO.moved (u := U) (U := U.calling gg mk a) (Vm.Alike.refl U.vm) qA, va_AO.moved (u := U) (U := U.calling gg mk a) (Vm.Alike.refl U.vm) qB⟩
def wC (g : Gl) (out : (Nat → Nat) → va_W) (A : Nat → Prop) (u : Nat → Nat) (t : State) : Prop := va_P g.1 vwCl (out u) t.heap ∧ va_K g.1 vwCl (tyG g) t ∧ va_D A (out u)
/-- a constructor's contract -/
def CCt (l : Launch) (y : MethodName) (cc : ByteArray) (nL d mc ms : Nat) (g : Gl) (av : List Value) (ws : va_W) (out : (Nat → Nat) → va_W) : Prop :=
  ∀ (sz : Nat), Met l y (Cond.code y cc nL none :: gT) (rmc d mc ms) (va_Pc av (PreC g ws sz)) (va_Qv (fun _ : Nat → Nat => True) (wC g out (va_A ws sz)) (va_A ws sz)) mc ms (va_A ws sz)
def QC (x : Fx) (g : Gl) (out : (Nat → Nat) → va_W) (mc ms : Nat) : State → Prop := match x with
  | (_, _, _, s, _, args, below, _, _, A) => MQ below (va_Qv (fun _ : Nat → Nat => True) (wC g out A) A) args s mc ms A
theorem cct_of {l : Launch} {y : MethodName} {cc : ByteArray} {nL d mc ms : Nat} {g : Gl} {av : List Value} {ws : va_W} {out : (Nat → Nat) → va_W} (hy : plainName y.cls = true) (hn : y.name = "<init>") (hav : av.all (fun v => v.category == 1) = true ∧ (lg_sl av).length ≤ nL)
    (hJ : ∀ (x : Fx), x.2.1 = l → Ok x g y.cls cc nL none → OI x → JA x g (rmc d mc ms) nL (QC x g out mc ms) 0 (av.map some) [] ws 0 0) : CCt l y cc nL d mc ms g av ws out := by
  intro sz
  refine Met.ofW (cc := cc) (maxL := nL) (ret := none) hy rfl ?_
  intro p e s m args below meth c s₁ B hml hv
  obtain ⟨rfl, hsz, hP, hK, hD0, hX, hA1, hA2⟩ := hv
  have hts := atoms_spec (ws := Cond.code y cc nL none :: gT) B.pre
  have hown : s.vm.findClass y.cls = some m.cls := findClass_of_methodNamed B.named
  have hin : meth.name = "<init>" := (name_of_methodNamed B.named B.method).1.trans hn
  subst hsz
  have hD := hD0.self (sz := s.heap.size)
  rw [lg_entry_eq]
  exact hJ (p, l, e, s, m, av.toArray, below, meth, c, va_A ws s.heap.size) rfl ⟨B.exec, B.bytes, hml, B.returns, hown, fun w hw => hts w (List.mem_cons_of_mem _ hw), B.notSynchronized, hK, fun q hq => Or.inr hq, hX⟩ ⟨hin, hA1, hA2⟩ s.heap [] _ hP hD va_S.rf (hasL_entry av (fun v hv => by simpa using List.all_eq_true.mp hav.1 v hv) hav.2)
section ACalls
variable {x : Fx} {g : Gl} {R : Room} {nL : Nat} {Q : State → Prop} {own : String} {cc : ByteArray} {ret : Option FieldType} {pc n kc ks : Nat} {L : List (Option Value)} {st stk : List Value} {ws : va_W}
theorem a_retC (C : Ok x g own cc nL none) {out : (Nat → Nat) → va_W} (u : Nat → Nat) (d : decode cc pc = .ok (.return_, 1)) (hw : ws = out u) : JA x g R nL (QC x g out kc ks) pc L [] ws kc ks := by
  obtain ⟨p, l, e, s, m, args, below, meth, c, A⟩ := x
  subst hw
  intro H locs ls hP hD hS hL
  exact W.vret C.1 C.2.1 C.2.2.2.1 (fun t ht hW => ⟨⟨u, rfl, trivial, by rw [ht]; exact hP, va_K.moved hW.alike C.2.2.2.2.2.2.2.1, hD⟩, hS.F ht⟩) hS.2.2 d C.2.2.2.2.2.2.1
theorem a_callI (C : Ok x g own cc nL ret) (o : ∀ s, x.2.2.2.1 = s → va_AO "SameHeads$Sheet" s ∧ va_AO "java/lang/String" s) {y : MethodName} {c1 : ByteArray} {n1 nA i d mc ms b : Nat} {e0 : va_E} {As : List Value} {out : (Nat → Nat) → va_W} (mi : MI y c1 n1 none nA) (hl : Cond.methodLink own i y ∈ gT) (hi : Cond.instanceMethod y ∈ gT) (hy : y.name = "<init>") (hM : CCt x.2.1 y c1 n1 d mc ms g (.ref b :: As) [(b, e0)] out) (hA : As.length = nA) (hk : stk = revA As (.ref b :: st)) (hw : (st.map fun v => v.category).sum ≤ 8) (dd : decode cc pc = .ok (.invokespecial i, 3)) (hR : d + 1 ≤ R.frames ∧ 8 + (n1 + 11) + 64 * d ≤ R.locals ∧ kc + mc ≤ R.cells ∧ ks + ms ≤ R.slots) (hn : pc + 3 = n) (k : ∀ u : Nat → Nat, JA x g R nL Q n L st (ws ++ out u) (kc + mc) (ks + ms)) : JA x g R nL Q pc L stk (ws ++ [(b, e0)]) kc ks := by
  obtain ⟨p, l, e, s, m, args, below, meth, c, A⟩ := x
  subst hn
  intro H locs ls hP hD hS hL
  have hts := C.2.2.2.2.2.1
  have hFc : ∀ q, va_A [(b, e0)] H.size q → A q := A_in (dR hD) hS C.2.2.2.2.2.2.2.2.1
  refine va_callv (va_runI (As := As) (rest := st) (Ts := gT) (own := own) (nL := nL) ⟨C.1, C.2.1, C.2.2.1, C.2.2.2.2.1, hts⟩ (hM H.size) ⟨callB_of nA hts (gT_code mi.1) rfl rfl rfl (hts _ mi.2.1) (hts _ hl) mi.2.2 ⟨hR.1, hR.2.1⟩, hy, hts _ hi⟩ ⟨PreC.blind, fun U hU hW => ⟨rfl, by rw [hU], by rw [hU]; exact pR hP, va_K.moved hW.alike C.2.2.2.2.2.2.2.1, (dR hD).weaken (fun _ _ _ _ => trivial), SX.go C.2.2.2.2.2.2.2.2.2 hS hW hU hFc, (o s rfl).1.moved hW.alike, (o s rfl).2.moved hW.alike⟩⟩ rfl hA hL.1 (hk.trans (revA_eq As _)) (lv_room hw) dd hR.2.2) hS (fun q _ h => hFc q h) hFc (fun u t H1 locs1 ht hvm hw1 hB hz1 hk1 hS1 => ?_)
  obtain ⟨hP1, hK1, hD1⟩ := hB
  rw [ht] at hP1
  obtain ⟨hP2, hD2⟩ := jnA hP hD hk1 hFc hP1 hD1
  exact k u H1 locs1 ls hP2 hD2 hS1 hL
theorem a_callIN (C : Ok x g own cc nL ret) (o : ∀ s, x.2.2.2.1 = s → va_AO "SameHeads$Sheet" s ∧ va_AO "java/lang/String" s) {y : MethodName} {host : String} {c1 : ByteArray} {n1 nA i d mc ms b : Nat} {e0 : va_E} {As : List Value} {out : (Nat → Nat) → va_W} (mi : MI y c1 n1 none nA) (hl : (own, i, y, host) ∈ neR) (hi : Cond.instanceMethod y ∈ gT) (hy : y.name = "<init>") (hM : CCt x.2.1 y c1 n1 d mc ms g (.ref b :: As) [(b, e0)] out) (hA : As.length = nA) (hk : stk = revA As (.ref b :: st)) (hw : (st.map fun v => v.category).sum ≤ 8) (dd : decode cc pc = .ok (.invokespecial i, 3)) (hR : d + 1 ≤ R.frames ∧ 8 + (n1 + 11) + 64 * d ≤ R.locals ∧ kc + mc ≤ R.cells ∧ ks + ms ≤ R.slots) (hn : pc + 3 = n) (k : ∀ u : Nat → Nat, JA x g R nL Q n L st (ws ++ out u) (kc + mc) (ks + ms)) : JA x g R nL Q pc L stk (ws ++ [(b, e0)]) kc ks := by
  obtain ⟨p, l, e, s, m, args, below, meth, c, A⟩ := x
  subst hn
  intro H locs ls hP hD hS hL
  have hts := C.2.2.2.2.2.1
  have hFc : ∀ q, va_A [(b, e0)] H.size q → A q := A_in (dR hD) hS C.2.2.2.2.2.2.2.2.1
  have hne := (C.2.2.2.2.2.2.2.2.2 : SX _ _ _ _).2.2.2.2.2.2.2 _ hl
  refine va_callv (va_runIN (As := As) (rest := st) (Ts := gT) (own := own) (nL := nL) (host := host) ⟨C.1, C.2.1, C.2.2.1, C.2.2.2.2.1, hts⟩ (hM H.size) ⟨va_cnB nA hts (gT_code mi.1) rfl rfl rfl hne (hts _ mi.2.1) mi.2.2 ⟨hR.1, hR.2.1⟩, hy, hts _ hi⟩ ⟨PreC.blind, fun U hU hW => ⟨rfl, by rw [hU], by rw [hU]; exact pR hP, va_K.moved hW.alike C.2.2.2.2.2.2.2.1, (dR hD).weaken (fun _ _ _ _ => trivial), SX.go C.2.2.2.2.2.2.2.2.2 hS hW hU hFc, (o s rfl).1.moved hW.alike, (o s rfl).2.moved hW.alike⟩⟩ rfl hA hL.1 (hk.trans (revA_eq As _)) (lv_room hw) dd hR.2.2) hS (fun q _ h => hFc q h) hFc (fun u t H1 locs1 ht hvm hw1 hB hz1 hk1 hS1 => ?_)
  obtain ⟨hP1, hK1, hD1⟩ := hB
  rw [ht] at hP1
  obtain ⟨hP2, hD2⟩ := jnA hP hD hk1 hFc hP1 hD1
  exact k u H1 locs1 ls hP2 hD2 hS1 hL
end ACalls
/-! Arrays.fill of one array -/
def cwF (N : Nat) (g : Gl) (h : Hp) : va_W := [(g.2.1 0, .inl (g.2.2.1 0, N, .inl (h 0)))]
def flF (v : Int32) : Nat → Nat → Hp → Hp
  | 0, _, h => h
  | r + 1, i, h => flF v r (i + 1) (up h 0 i v)
theorem flF_at {v : Int32} : ∀ r i h j, flF v r i h 0 j = if i ≤ j ∧ j < i + r then v else h 0 j := by
  intro r
  induction r with
  | zero =>
    intro i h j
    rw [if_neg (by omega)]; rfl
  | succ r ih =>
    intro i h j
    show flF v r (i + 1) (up h 0 i v) 0 j = _
    rw [ih]
    by_cases e : j = i
    · subst e
      rw [if_neg (by omega), if_pos (by omega), up_eq]
    · rw [up_nj e]
      by_cases z : i ≤ j ∧ j < i + (r + 1)
      · rw [if_pos z, if_pos (by omega)]
      · rw [if_neg z, if_neg (by omega)]
theorem j_flN {x : Fx} {g : Gl} (C : Ok x g RJ7 cJ7_fill_53178 4 none) {N : Nat} (hN : N < 2147483648) (v : Int32) : ∀ (r i : Nat) (h : Hp), i + r = N → J x g (cwF N) 4 0 (fun r : Hp => qV (cwF N) r) 5 [some (rf g 0), some (.int v), some (.int (nI i)), some (.int (nI N))] [] h (some (flF v r i h)) := by
  intro r
  induction r with
  | zero =>
    intro i h hi
    have e : (some (flF v 0 i h)) = if nI N ≤ nI i then some (flF v 0 i h) else none := by rw [if_pos (nI_le (by omega) (by omega))]
    rw [e]
    refine j_iload_n C dJ7_fill_53178_5 rfl (n := 6) rfl ?_
    refine j_iload_n C dJ7_fill_53178_6 rfl (n := 7) rfl ?_
    refine j_icmp_ge C dJ7_fill_53178_7 (tgt := 20) (n := 10) (by decide) rfl (fun q1 => ?_) (fun q1 => j_none)
    exact j_retV C dJ7_fill_53178_20
  | succ r ih =>
    intro i h hi
    have e : (some (flF v (r + 1) i h)) = if nI N ≤ nI i then none else chk (inR (nI i) N) (some (flF v r (i + 1) (up h 0 i v))) := by
      rw [if_neg (nI_ge (by omega) (by omega)), ck_nI (by omega) hN]; rfl
    rw [e]
    refine j_iload_n C dJ7_fill_53178_5 rfl (n := 6) rfl ?_
    refine j_iload_n C dJ7_fill_53178_6 rfl (n := 7) rfl ?_
    refine j_icmp_ge C dJ7_fill_53178_7 (tgt := 20) (n := 10) (by decide) rfl (fun q1 => j_none) (fun q1 => ?_)
    refine j_aload_n C dJ7_fill_53178_10 rfl (n := 11) rfl ?_
    refine j_iload_n C dJ7_fill_53178_11 rfl (n := 12) rfl ?_
    refine j_iload_n C dJ7_fill_53178_12 rfl (n := 13) rfl ?_
    refine j_iast C 0 rfl rfl dJ7_fill_53178_13 (n := 14) rfl ?_
    rw [cl_nI (by omega)]
    refine j_iinc C dJ7_fill_53178_14 rfl ic_1 (Nat.le_of_ble_eq_true rfl) (n := 17) rfl ?_
    refine j_goto C dJ7_fill_53178_17 (n := 5) (by decide) ?_
    rw [nI_1]
    exact j_to (ih (i + 1) _ (by omega)) ⟨rfl, ⟨rfl, ⟨rfl, ⟨rfl, trivial⟩⟩⟩⟩
theorem m_flN (l : Launch) {N : Nat} (hN : N < 2147483648) (v : Int32) (h : Hp) : CT l yJ7_fill_53178 cJ7_fill_53178 4 none 0 (cwF N) (fun g => [rf g 0, .int v]) h (qV (cwF N) (flF v N 0 h)) := by
  refine ct_of (QR := (fun r : Hp => qV (cwF N) r)) (E := some (flF v N 0 h)) (by decide +kernel) (fun g => ⟨rfl, Nat.le_of_ble_eq_true rfl⟩) rfl (fun x g hl C => ?_)
  refine j_iconst C dJ7_fill_53178_0 ic_0 (n := 1) rfl ?_
  refine j_istore_n C dJ7_fill_53178_1 (Nat.le_of_ble_eq_true rfl) (n := 2) rfl ?_
  refine j_aload_n C dJ7_fill_53178_2 rfl (n := 3) rfl ?_
  refine j_alen C 0 0 (y := (N, .inl (h 0))) rfl rfl rfl dJ7_fill_53178_3 (n := 4) rfl ?_
  refine j_istore_n C dJ7_fill_53178_4 (Nat.le_of_ble_eq_true rfl) (n := 5) rfl ?_
  exact j_to (j_flN C hN v N 0 h (by omega)) ⟨rfl, ⟨rfl, ⟨rfl, ⟨rfl, trivial⟩⟩⟩⟩
theorem a_fill {x : Fx} {g : Gl} {R : Room} {nL : Nat} {Q : State → Prop} {own : String} {cc : ByteArray} {ret : Option FieldType} {pc n kc ks : Nat} {L : List (Option Value)} {st : List Value} {ws : va_W} (C : Ok x g own cc nL ret) (q0 : Nat) {a N i : Nat} {f : Nat → Int32} {v : Int32} (ha : ws[q0]? = some (a, .inl (g.2.2.1 0, N, .inl f))) (hN : N < 2147483648) (hl : Cond.methodLink own i yJ7_fill_53178 ∈ gT) (hR : 1 ≤ R.frames ∧ 23 ≤ R.locals ∧ kc ≤ R.cells ∧ ks ≤ R.slots) (hw : (st.map fun v => v.category).sum ≤ 8) (dd : decode cc pc = .ok (.invokestatic i, 3)) (hn : pc + 3 = n) (k : JA x g R nL Q n L st (ws.set q0 (a, .inl (g.2.2.1 0, N, .inl (flF v N 0 (fun _ => f) 0)))) kc ks) : JA x g R nL Q pc L (.int v :: .ref a :: st) ws kc ks := by
  obtain ⟨p, l, e, s, m, args, below, meth, c, A⟩ := x
  subst hn
  intro H locs ls hP hD hS hL
  have hts := C.2.2.2.2.2.1
  have mi := mi_J7_fill_53178
  have hFc : ∀ q, va_A [(a, (.inl (g.2.2.1 0, N, .inl f) : va_E))] H.size q → A q := by
    rintro q (⟨k, e, hk⟩ | hq)
    · cases k with
      | zero =>
        have h3 : some (a, (.inl (g.2.2.1 0, N, .inl f) : va_E)) = some (q, e) := hk
        injection h3 with h3
        injection h3 with h3 h4
        rw [← h3]; exact hD.2 q0 _ ha
      | succ k => cases hk
    · exact C.2.2.2.2.2.2.2.2.1 q (Nat.le_trans hS.1 hq)
  have hP0 : va_P g.1 vwCl [(a, (.inl (g.2.2.1 0, N, .inl f) : va_E))] H := by
    intro k q hk
    cases k with
    | zero => have h3 : some (a, (.inl (g.2.2.1 0, N, .inl f) : va_E)) = some q := hk; injection h3 with h3; rw [← h3]; exact hP q0 _ ha
    | succ k => cases hk
  have hD0 : va_D (fun _ => True) [(a, (.inl (g.2.2.1 0, N, .inl f) : va_E))] := by
    refine ⟨fun i j p q hi hj _ => ?_, fun _ _ _ => trivial⟩
    cases i with
    | zero =>
      cases j with
      | zero => rfl
      | succ j => cases hj
    | succ i => cases hi
  refine va_callv (va_runS (As := [.ref a, .int v]) (rest := st) (Ts := gT) (own := own) (nL := nL) (mc := 0) (ms := 0) ⟨C.1, C.2.1, C.2.2.1, C.2.2.2.2.1, hts⟩ (m_flN l hN v (fun _ => f) (g.1, (fun _ => a), g.2.2) H.size) ⟨callB_of 2 hts (gT_code mi.1) rfl rfl rfl (hts _ mi.2.1) (hts _ hl) mi.2.2 ⟨hR.1, hR.2.1⟩, hts _ st_J7_fill_53178⟩ ⟨PreX.blind, fun U hU hW => ⟨rfl, by rw [hU], by rw [hU]; exact hP0, va_K.moved hW.alike C.2.2.2.2.2.2.2.1, hD0, SX.go C.2.2.2.2.2.2.2.2.2 hS hW hU hFc⟩⟩ rfl rfl hL.1 rfl (lv_room hw) dd hR.2.2) hS (fun q _ h => hFc q h) hFc (fun u t H1 locs1 ht hvm hw1 hB hz1 hk1 hS1 => ?_)
  obtain rfl := hw1
  obtain ⟨hP1, hK1, hD1⟩ := hB
  rw [ht] at hP1
  exact k H1 locs1 ls (jnS hP hD ha hk1 (hP1 0 _ rfl)) (hD.set ha) hS1 hL
