/-! the law: its script, its calls -/
def LX (x : Fx) (b Ln : Nat) (xs : Nat → Int32) : Prop := match x with
  | (_, _, _, s, _, _, _, _, _, A) => va_X b Ln xs s s.heap ∧ b < s.heap.size ∧ ¬ A b
theorem jnB {A : Nat → Prop} {D : va_G} {cl : List vw_C} {ws wc w1 : va_W} {H H1 : Heap} (hP : va_P D cl (wc ++ ws) H) (hD : va_D A (wc ++ ws)) (hk : ∀ q : Nat, q < H.size → ¬ va_A wc H.size q → H1[q]? = H[q]?) (hF : ∀ q, va_A wc H.size q → A q) (hP1 : va_P D cl w1 H1) (hD1 : va_D (va_A wc H.size) w1) : va_P D cl (w1 ++ ws) H1 ∧ va_D A (w1 ++ ws) := by
  have h := jnA (ws := ws) (wc := wc) (w1 := w1) ((pR hP).app (pL hP)) ((dR hD).app (dL hD) (fun i j p q hi hj e => dX hD j i q p hj hi e.symm)) hk hF hP1 hD1
  exact ⟨(pR h.1).app (pL h.1), (dR h.2).app (dL h.2) (fun i j p q hi hj e => dX h.2 j i q p hj hi e.symm)⟩
section LRows
variable {x : Fx} {R : Room} {nL : Nat} {Q : State → Prop} {own : String} {cc : ByteArray} {ret : Option FieldType} {pc n kc ks : Nat} {L : List (Option Value)} {st stk : List Value}
variable {D : va_G} {ax am : Nat → Nat} {rs : (Nat → ClassId) × (Nat → Nat) × (Nat → Nat) × (Nat → Nat)}
theorem a_slen {g : Gl} {ws : va_W} (C : Ok x g own cc nL ret) {b Ln : Nat} {xs : Nat → Int32} (X : LX x b Ln xs) (d : decode cc pc = .ok (.arraylength, 1)) (hn : pc + 1 = n) (k : JA x g R nL Q n L (.int (nI Ln) :: st) ws kc ks) : JA x g R nL Q pc L (.ref b :: st) ws kc ks := by
  obtain ⟨p, l, e, s, m, args, below, meth, c, A⟩ := x
  subst hn
  intro H locs ls hP hD hS hL
  exact va_slen C.1 C.2.1 X.1 X.2.1 X.2.2 hS d (k H locs ls hP hD hS hL)
theorem a_sld {g : Gl} {ws : va_W} (C : Ok x g own cc nL ret) {b Ln : Nat} {xs : Nat → Int32} (X : LX x b Ln xs) {i : Int32} {j : Nat} (hi : i = nI j) (hj : j < Ln) (hl : Ln < 2147483648) (d : decode cc pc = .ok (.iaload, 1)) (hn : pc + 1 = n) (k : JA x g R nL Q n L (.int (xs j) :: st) ws kc ks) : JA x g R nL Q pc L (.int i :: .ref b :: st) ws kc ks := by
  subst hi
  obtain ⟨p, l, e, s, m, args, below, meth, c, A⟩ := x
  subst hn
  intro H locs ls hP hD hS hL
  have k1 := k H locs ls hP hD hS hL
  refine va_sld C.1 C.2.1 X.1 X.2.1 X.2.2 hS (inR_vp (inR_nI hj hl)) d ?_
  rw [cl_nI (by omega)]; exact k1
theorem a_arg {g : Gl} {ws : va_W} (C : Ok x g own cc nL ret) {b Ln : Nat} {xs : Nat → Int32} (X : LX x b Ln xs) (hl : Ln < 2147483648) {jz : Int} {jn t : Nat} (d0 : decode cc pc = .ok (.aload_n 0, 1)) (d1 : decode cc (pc + 1) = .ok (.iload_n 3, 1)) (d2 : decode cc (pc + 2) = .ok (.iconst jz, 1)) (d3 : decode cc (pc + 3) = .ok (.iadd, 1)) (d4 : decode cc (pc + 4) = .ok (.iaload, 1)) (hj : Int32.ofInt jz = nI jn) (hk : t + jn < Ln) (h0 : nth L 0 = some (some (.ref b))) (h3 : nth L 3 = some (some (.int (nI t)))) (hn : pc + 5 = n) (k : JA x g R nL Q n L (.int (xs (t + jn)) :: st) ws kc ks) : JA x g R nL Q pc L st ws kc ks := by
  refine a_aload_n C d0 h0 (n := pc + 1) rfl ?_
  refine a_iload_n C d1 h3 (n := pc + 2) rfl ?_
  refine a_iconst C d2 hj (n := pc + 3) rfl ?_
  refine a_iadd C d3 (n := pc + 4) rfl ?_
  exact a_sld C X (nI_add t jn) hk hl d4 hn k
theorem a_callX (C : Ok x (D, ax, rs) own cc nL ret) {hx u hm : Hp} {v : Int32} {y : MethodName} {c1 : ByteArray} {n1 nA i d : Nat} {av : Gl → List Value} {As : List Value} (mi : MI y c1 n1 (some .int) nA) (hl : Cond.methodLink own i y ∈ gT) (hst : Cond.instanceMethod y ∈ gT ∧ Cond.selects RX7 y y ∈ gT) (hM : CT x.2.1 y c1 n1 (some .int) d cwX av hx (qI cwX v u)) (hav : av (D, ax, rs) = .ref (ax 0) :: As) (hA : As.length = nA) (hk : stk = revA As (.ref (ax 0) :: st)) (hw : (st.map fun v => v.category).sum ≤ 8) (dd : decode cc pc = .ok (.invokevirtual i, 3)) (hR : d + 1 ≤ R.frames ∧ 8 + (n1 + 11) + 64 * d ≤ R.locals ∧ kc ≤ R.cells ∧ ks ≤ R.slots) (hn : pc + 3 = n) (k : JA x (D, ax, rs) R nL Q n L (.int v :: st) (cwX (D, ax, rs) u ++ cwM (D, am, rs) hm) kc ks) : JA x (D, ax, rs) R nL Q pc L stk (cwX (D, ax, rs) hx ++ cwM (D, am, rs) hm) kc ks := by
  obtain ⟨p, l, e, s, m, args, below, meth, c, A⟩ := x
  subst hn
  intro H locs ls hP hD hS hL
  have hts := C.2.2.2.2.2.1
  have hFc := A_in (dL hD) hS C.2.2.2.2.2.2.2.2.1
  refine va_calli (va_runV (C := RX7) (b := ax 0) (As := As) (rest := st) (Ts := gT) (own := own) (nL := nL) (mc := 0) (ms := 0) ⟨C.1, C.2.1, C.2.2.1, C.2.2.2.2.1, hts⟩ (hM (D, ax, rs) H.size) ⟨callB_of nA hts (gT_code mi.1) rfl rfl rfl (hts _ mi.2.1) (hts _ hl) mi.2.2 ⟨hR.1, hR.2.1⟩, hts _ hst.1, hts _ hst.2⟩ ⟨PreX.blind, va_recv C.2.2.2.2.2.2.2.1 (pL hP) (show vwCl[6]? = some (RX7, TX7, 10) from rfl) (cX_0 (D, ax, rs) hx), fun U hU hW => ⟨by rw [hav], by rw [hU], by rw [hU]; exact pL hP, va_K.moved hW.alike C.2.2.2.2.2.2.2.1, (dL hD).weaken (fun _ _ _ _ => trivial), SX.go C.2.2.2.2.2.2.2.2.2 hS hW hU hFc⟩⟩ rfl hA hL.1 (hk.trans (revA_eq As _)) (lv_room hw) dd hR.2.2) hS (fun q _ h => hFc q h) hFc (fun v1 u1 t H1 locs1 ht hvm hw1 hB hz1 hk1 hS1 => ?_)
  obtain ⟨rfl, rfl⟩ := hw1
  obtain ⟨hP1, hK1, hD1⟩ := hB
  rw [ht] at hP1
  obtain ⟨hP2, hD2⟩ := jnB hP hD hk1 hFc hP1 hD1
  exact k H1 locs1 ls hP2 hD2 hS1 hL
theorem a_callM (C : Ok x (D, ax, rs) own cc nL ret) {hx u hm : Hp} {v : Int32} {y : MethodName} {c1 : ByteArray} {n1 nA i d : Nat} {av : Gl → List Value} {As : List Value} (mi : MI y c1 n1 (some .int) nA) (hl : Cond.methodLink own i y ∈ gT) (hst : Cond.instanceMethod y ∈ gT ∧ Cond.selects RX8 y y ∈ gT) (hM : CT x.2.1 y c1 n1 (some .int) d cwM av hm (qI cwM v u)) (hav : av (D, am, rs) = .ref (am 0) :: As) (hA : As.length = nA) (hk : stk = revA As (.ref (am 0) :: st)) (hw : (st.map fun v => v.category).sum ≤ 8) (dd : decode cc pc = .ok (.invokevirtual i, 3)) (hR : d + 1 ≤ R.frames ∧ 8 + (n1 + 11) + 64 * d ≤ R.locals ∧ kc ≤ R.cells ∧ ks ≤ R.slots) (hn : pc + 3 = n) (k : JA x (D, ax, rs) R nL Q n L (.int v :: st) (cwX (D, ax, rs) hx ++ cwM (D, am, rs) u) kc ks) : JA x (D, ax, rs) R nL Q pc L stk (cwX (D, ax, rs) hx ++ cwM (D, am, rs) hm) kc ks := by
  obtain ⟨p, l, e, s, m, args, below, meth, c, A⟩ := x
  subst hn
  intro H locs ls hP hD hS hL
  have hts := C.2.2.2.2.2.1
  have hFc := A_in (dR hD) hS C.2.2.2.2.2.2.2.2.1
  have hKm : va_K D vwCl (tyG (D, am, rs)) s := C.2.2.2.2.2.2.2.1
  have hSm : SX (D, am, rs) A s s.heap := C.2.2.2.2.2.2.2.2.2
  refine va_calli (va_runV (C := RX8) (b := am 0) (As := As) (rest := st) (Ts := gT) (own := own) (nL := nL) (mc := 0) (ms := 0) ⟨C.1, C.2.1, C.2.2.1, C.2.2.2.2.1, hts⟩ (hM (D, am, rs) H.size) ⟨callB_of nA hts (gT_code mi.1) rfl rfl rfl (hts _ mi.2.1) (hts _ hl) mi.2.2 ⟨hR.1, hR.2.1⟩, hts _ hst.1, hts _ hst.2⟩ ⟨PreX.blind, va_recv hKm (pR hP) (show vwCl[7]? = some (RX8, TX8, 24) from rfl) (cM_0 (D, am, rs) hm), fun U hU hW => ⟨by rw [hav], by rw [hU], by rw [hU]; exact pR hP, va_K.moved hW.alike hKm, (dR hD).weaken (fun _ _ _ _ => trivial), SX.go hSm hS hW hU hFc⟩⟩ rfl hA hL.1 (hk.trans (revA_eq As _)) (lv_room hw) dd hR.2.2) hS (fun q _ h => hFc q h) hFc (fun v1 u1 t H1 locs1 ht hvm hw1 hB hz1 hk1 hS1 => ?_)
  obtain ⟨rfl, rfl⟩ := hw1
  obtain ⟨hP1, hK1, hD1⟩ := hB
  rw [ht] at hP1
  obtain ⟨hP2, hD2⟩ := jnA hP hD hk1 hFc hP1 hD1
  exact k H1 locs1 ls hP2 hD2 hS1 hL
end LRows
