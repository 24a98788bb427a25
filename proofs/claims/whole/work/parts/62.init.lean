theorem acI : Cond.arrayClass .int ∈ gT := gT_in (tb1 (List.mem_of_getElem? (i := 107) rfl)) rfl
theorem acB : Cond.arrayClass .byte ∈ gT := gT_in (tb1 (List.mem_of_getElem? (i := 156) rfl)) rfl
theorem obI : Cond.instanceMethod Lib.objectInit ∈ gT := gT_in (tb1 (List.mem_of_getElem? (i := 24) rfl)) rfl
theorem obC : Cond.code Lib.objectInit ⟨#[0xb1]⟩ 1 none ∈ gT := gT_in (tb1 (List.mem_of_getElem? (i := 25) rfl)) rfl
theorem OI.ao {x : Fx} (o : OI x) : ∀ s, x.2.2.2.1 = s → va_AO "SameHeads$Sheet" s ∧ va_AO "java/lang/String" s := by
  obtain ⟨p, l, e, s, m, args, below, meth, c, A⟩ := x
  intro s1 h
  have h : s = s1 := h
  subst h
  exact o.2
theorem arrV_cg {cA : ClassId} {N : Nat} {f f1 : Nat → Value} (h : ∀ j, j < N → f j = f1 j) : arrV cA N f = arrV cA N f1 := by
  unfold arrV
  have e : (fun j : Fin N => f j.val) = (fun j : Fin N => f1 j.val) := by funext j; exact h j.val j.isLt
  rw [e]
theorem a_cell {x : Fx} {g : Gl} {R : Room} {nL : Nat} {Q : State → Prop} {pc kc ks : Nat} {L : List (Option Value)} {st : List Value} {ws : va_W} (q0 : Nat) {a : Nat} {cA : ClassId} {y0 y1 : vp_A} (h0 : ws[q0]? = some (a, .inl (cA, y0))) (he : vp_cell cA y0 = vp_cell cA y1) (k : JA x g R nL Q pc L st (ws.set q0 (a, .inl (cA, y1))) kc ks) : JA x g R nL Q pc L st ws kc ks := by
  obtain ⟨p, l, e, s, m, args, below, meth, c, A⟩ := x
  intro H locs ls hP hD hS hL
  refine k H locs ls (hP.set hD h0 ?_ (fun q _ => rfl)) (hD.set h0) hS hL
  show H[a]? = some (vp_cell cA y1)
  rw [← he]; exact hP q0 _ h0
theorem a_sub {x : Fx} {g : Gl} {R : Room} {nL : Nat} {Q : State → Prop} {pc kc ks : Nat} {L : List (Option Value)} {st : List Value} {ws : va_W} {ws1 : va_W} (is : List Nat) (hn : va_nd is = true) (hs : is.map (fun i => ws[i]?) = ws1.map some) (k : JA x g R nL Q pc L st ws1 kc ks) : JA x g R nL Q pc L st ws kc ks := by
  obtain ⟨p, l, e, s, m, args, below, meth, c, A⟩ := x
  intro H locs ls hP hD hS hL
  refine k H locs ls (fun k q hk => ?_) (hD.sub is hn hs) hS hL
  have h1 : (is.map (fun i => ws[i]?))[k]? = some (some q) := by rw [hs, List.getElem?_map, hk]; rfl
  rw [List.getElem?_map] at h1
  cases hi : is[k]? with
  | none => rw [hi] at h1; cases h1
  | some i => rw [hi] at h1; exact hP i q (Option.some.inj h1)
def adr (q : Nat) (u : Nat → Nat) : Nat → Nat
  | 0 => q
  | k + 1 => u k
theorem dfX0 : ∀ j, j < 4 → defaultValue (tyX0 j) = vp_V [.null, .null, .int 0, .int 0] j := by
  intro j hj
  rcases (show j = 0 ∨ j = 1 ∨ j = 2 ∨ j = 3 by omega) with rfl | rfl | rfl | rfl <;> rfl
theorem dfX1 : ∀ j, j < 15 → defaultValue (tyX1 j) = vp_V [.null, .null, .null, .null, .null, .null, .null, .null, .null, .null, .int 0, .int 0, .int 0, .int 0, .int 0] j := by
  intro j hj
  rcases (show j = 0 ∨ j = 1 ∨ j = 2 ∨ j = 3 ∨ j = 4 ∨ j = 5 ∨ j = 6 ∨ j = 7 ∨ j = 8 ∨ j = 9 ∨ j = 10 ∨ j = 11 ∨ j = 12 ∨ j = 13 ∨ j = 14 by omega) with rfl | rfl | rfl | rfl | rfl | rfl | rfl | rfl | rfl | rfl | rfl | rfl | rfl | rfl | rfl <;> rfl
theorem dfX3 : ∀ j, j < 7 → defaultValue (tyX3 j) = vp_V [.null, .null, .null, .null, .null, .int 0, .int 0] j := by
  intro j hj
  rcases (show j = 0 ∨ j = 1 ∨ j = 2 ∨ j = 3 ∨ j = 4 ∨ j = 5 ∨ j = 6 by omega) with rfl | rfl | rfl | rfl | rfl | rfl | rfl <;> rfl
theorem dfX4 : ∀ j, j < 3 → defaultValue (tyX4 j) = vp_V [.null, .int 0, .int 0] j := by
  intro j hj
  rcases (show j = 0 ∨ j = 1 ∨ j = 2 by omega) with rfl | rfl | rfl <;> rfl
theorem dfX5 : ∀ j, j < 2 → defaultValue (tyX5 j) = vp_V [.null, .int 0] j := by
  intro j hj
  rcases (show j = 0 ∨ j = 1 by omega) with rfl | rfl <;> rfl
theorem dfX6 : ∀ j, j < 2 → defaultValue (tyX6 j) = vp_V [.null, .null] j := by
  intro j hj
  rcases (show j = 0 ∨ j = 1 by omega) with rfl | rfl <;> rfl
theorem dfX7 : ∀ j, j < 10 → defaultValue (tyX7 j) = vp_V [.null, .null, .null, .null, .null, .null, .null, .null, .null, .int 0] j := by
  intro j hj
  rcases (show j = 0 ∨ j = 1 ∨ j = 2 ∨ j = 3 ∨ j = 4 ∨ j = 5 ∨ j = 6 ∨ j = 7 ∨ j = 8 ∨ j = 9 by omega) with rfl | rfl | rfl | rfl | rfl | rfl | rfl | rfl | rfl | rfl <;> rfl
theorem dfX8 : ∀ j, j < 24 → defaultValue (tyX8 j) = vp_V [.null, .null, .null, .int 0, .null, .null, .int 0, .int 0, .int 0, .null, .int 0, .int 0, .int 0, .int 0, .int 0, .int 0, .null, .null, .int 0, .int 0, .null, .null, .null, .null] j := by
  intro j hj
  rcases (show j = 0 ∨ j = 1 ∨ j = 2 ∨ j = 3 ∨ j = 4 ∨ j = 5 ∨ j = 6 ∨ j = 7 ∨ j = 8 ∨ j = 9 ∨ j = 10 ∨ j = 11 ∨ j = 12 ∨ j = 13 ∨ j = 14 ∨ j = 15 ∨ j = 16 ∨ j = 17 ∨ j = 18 ∨ j = 19 ∨ j = 20 ∨ j = 21 ∨ j = 22 ∨ j = 23 by omega) with rfl | rfl | rfl | rfl | rfl | rfl | rfl | rfl | rfl | rfl | rfl | rfl | rfl | rfl | rfl | rfl | rfl | rfl | rfl | rfl | rfl | rfl | rfl | rfl <;> rfl
theorem mi_X0_init : MI yX0_init cX0_init 1 none 0 := ⟨(gT_in (tb1 (List.mem_of_getElem? (i := 112) rfl)) rfl), (gT_in (tb1 (List.mem_of_getElem? (i := 4) rfl)) rfl), by decide +kernel⟩
theorem im_X0_init : Cond.instanceMethod yX0_init ∈ gT := (gT_in (tb1 (List.mem_of_getElem? (i := 111) rfl)) rfl)
def oX0 (g : Gl) (q : Nat) (u : Nat → Nat) : va_W := [(q, .inr (0, [.ref (u 0), .ref (u 1), .int 0, .int 0])), ((u 0), .inl (g.2.2.1 0, 60, .inl (fun _ => 0))), ((u 1), .inl (g.2.2.1 0, 64, .inl (fun _ => 0)))]
set_option maxHeartbeats 4000000 in
set_option maxRecDepth 100000 in
theorem c_X0 (l : Launch) (g : Gl) (q : Nat) : CCt l yX0_init cX0_init 1 1 2 124 g [.ref q] [(q, .inr (0, [.null, .null, .int 0, .int 0]))] (oX0 g q) := by
  refine cct_of (by decide +kernel) rfl ⟨rfl, (Nat.le_of_ble_eq_true rfl)⟩ (fun x hl C o => ?_)
  obtain rfl := hl
  refine a_aload_n C dX0_init_0 rfl (n := 1) rfl ?_
  refine a_obj C (gT_in (tb1 (List.mem_of_getElem? (i := 113) rfl)) rfl) obI obC ⟨(Nat.le_of_ble_eq_true rfl), (Nat.le_of_ble_eq_true rfl)⟩ (Nat.le_of_ble_eq_true rfl) dX0_init_1 (n := 4) rfl ?_
  refine a_aload_n C dX0_init_4 rfl (n := 5) rfl ?_
  refine a_bipush C dX0_init_5 (v := 60) (by decide) (n := 7) rfl ?_
  refine a_newa C acI (N := 60) ⟨by decide, by decide, by decide⟩ ⟨(Nat.le_of_ble_eq_true rfl), (Nat.le_of_ble_eq_true rfl)⟩ dX0_init_7 (n := 9) rfl (fun q7 => ?_)
  refine a_putF C o 0 rfl rfl vi_0 tyX0 tyX0_ok nmX0 0 (by decide) (gT_in (tb1 (List.mem_of_getElem? (i := 114) rfl)) rfl) rfl rfl (tyX0_ok 0 (by decide)) ⟨rfl, rfl⟩ (Nat.le_of_ble_eq_true rfl) dX0_init_9 (n := 12) rfl ?_
  refine a_ws (ws1 := ([(q, .inr (0, [.ref q7, .null, .int 0, .int 0]))] ++ [(q7, .inl (g.2.2.1 0, 60, .inl (fun _ => 0)))])) ?_ rfl
  refine a_aload_n C dX0_init_12 rfl (n := 13) rfl ?_
  refine a_bipush C dX0_init_13 (v := 64) (by decide) (n := 15) rfl ?_
  refine a_newa C acI (N := 64) ⟨by decide, by decide, by decide⟩ ⟨(Nat.le_of_ble_eq_true rfl), (Nat.le_of_ble_eq_true rfl)⟩ dX0_init_15 (n := 17) rfl (fun q15 => ?_)
  refine a_putF C o 0 rfl rfl vi_0 tyX0 tyX0_ok nmX0 1 (by decide) (gT_in (tb1 (List.mem_of_getElem? (i := 115) rfl)) rfl) rfl rfl (tyX0_ok 1 (by decide)) ⟨rfl, rfl⟩ (Nat.le_of_ble_eq_true rfl) dX0_init_17 (n := 20) rfl ?_
  refine a_ws (ws1 := (([(q, .inr (0, [.ref q7, .ref q15, .int 0, .int 0]))] ++ [(q7, .inl (g.2.2.1 0, 60, .inl (fun _ => 0)))]) ++ [(q15, .inl (g.2.2.1 0, 64, .inl (fun _ => 0)))])) ?_ rfl
  exact a_retC C (fun k => ([q7, q15] : List Nat).getD k 0) dX0_init_20 rfl
theorem mi_X6_init : MI yX6_init cX6_init 1 none 0 := ⟨(gT_in (tb1 (List.mem_of_getElem? (i := 131) rfl)) rfl), (gT_in (tb1 (List.mem_of_getElem? (i := 5) rfl)) rfl), by decide +kernel⟩
theorem im_X6_init : Cond.instanceMethod yX6_init ∈ gT := (gT_in (tb1 (List.mem_of_getElem? (i := 130) rfl)) rfl)
def oX6 (g : Gl) (q : Nat) (u : Nat → Nat) : va_W := [(q, .inr (5, [.ref (u 0), .ref (u 1)])), ((u 0), .inl (g.2.2.1 0, 10, .inl (fun _ => 0))), ((u 1), .inl (g.2.2.1 0, 64, .inl (fun _ => 0)))]
set_option maxHeartbeats 4000000 in
set_option maxRecDepth 100000 in
theorem c_X6 (l : Launch) (g : Gl) (q : Nat) : CCt l yX6_init cX6_init 1 1 2 74 g [.ref q] [(q, .inr (5, [.null, .null]))] (oX6 g q) := by
  refine cct_of (by decide +kernel) rfl ⟨rfl, (Nat.le_of_ble_eq_true rfl)⟩ (fun x hl C o => ?_)
  obtain rfl := hl
  refine a_aload_n C dX6_init_0 rfl (n := 1) rfl ?_
  refine a_obj C (gT_in (tb1 (List.mem_of_getElem? (i := 132) rfl)) rfl) obI obC ⟨(Nat.le_of_ble_eq_true rfl), (Nat.le_of_ble_eq_true rfl)⟩ (Nat.le_of_ble_eq_true rfl) dX6_init_1 (n := 4) rfl ?_
  refine a_aload_n C dX6_init_4 rfl (n := 5) rfl ?_
  refine a_bipush C dX6_init_5 (v := 10) (by decide) (n := 7) rfl ?_
  refine a_newa C acI (N := 10) ⟨by decide, by decide, by decide⟩ ⟨(Nat.le_of_ble_eq_true rfl), (Nat.le_of_ble_eq_true rfl)⟩ dX6_init_7 (n := 9) rfl (fun q7 => ?_)
  refine a_putF C o 0 rfl rfl vi_5 tyX6 tyX6_ok nmX6 0 (by decide) (gT_in (tb1 (List.mem_of_getElem? (i := 133) rfl)) rfl) rfl rfl (tyX6_ok 0 (by decide)) ⟨rfl, rfl⟩ (Nat.le_of_ble_eq_true rfl) dX6_init_9 (n := 12) rfl ?_
  refine a_ws (ws1 := ([(q, .inr (5, [.ref q7, .null]))] ++ [(q7, .inl (g.2.2.1 0, 10, .inl (fun _ => 0)))])) ?_ rfl
  refine a_aload_n C dX6_init_12 rfl (n := 13) rfl ?_
  refine a_bipush C dX6_init_13 (v := 64) (by decide) (n := 15) rfl ?_
  refine a_newa C acI (N := 64) ⟨by decide, by decide, by decide⟩ ⟨(Nat.le_of_ble_eq_true rfl), (Nat.le_of_ble_eq_true rfl)⟩ dX6_init_15 (n := 17) rfl (fun q15 => ?_)
  refine a_putF C o 0 rfl rfl vi_5 tyX6 tyX6_ok nmX6 1 (by decide) (gT_in (tb1 (List.mem_of_getElem? (i := 134) rfl)) rfl) rfl rfl (tyX6_ok 1 (by decide)) ⟨rfl, rfl⟩ (Nat.le_of_ble_eq_true rfl) dX6_init_17 (n := 20) rfl ?_
  refine a_ws (ws1 := (([(q, .inr (5, [.ref q7, .ref q15]))] ++ [(q7, .inl (g.2.2.1 0, 10, .inl (fun _ => 0)))]) ++ [(q15, .inl (g.2.2.1 0, 64, .inl (fun _ => 0)))])) ?_ rfl
  exact a_retC C (fun k => ([q7, q15] : List Nat).getD k 0) dX6_init_20 rfl
theorem mi_X5_init : MI yX5_init cX5_init 1 none 0 := ⟨(gT_in (tb1 (List.mem_of_getElem? (i := 144) rfl)) rfl), (gT_in (tb1 (List.mem_of_getElem? (i := 6) rfl)) rfl), by decide +kernel⟩
theorem im_X5_init : Cond.instanceMethod yX5_init ∈ gT := (gT_in (tb1 (List.mem_of_getElem? (i := 143) rfl)) rfl)
def oX5 (g : Gl) (q : Nat) (u : Nat → Nat) : va_W := [(q, .inr (4, [.ref (u 0), .int 0])), ((u 0), .inl (g.2.2.1 1, 120, .inl (fun _ => 0)))]
set_option maxHeartbeats 4000000 in
set_option maxRecDepth 100000 in
theorem c_X5 (l : Launch) (g : Gl) (q : Nat) : CCt l yX5_init cX5_init 1 1 1 120 g [.ref q] [(q, .inr (4, [.null, .int 0]))] (oX5 g q) := by
  refine cct_of (by decide +kernel) rfl ⟨rfl, (Nat.le_of_ble_eq_true rfl)⟩ (fun x hl C o => ?_)
  obtain rfl := hl
  refine a_aload_n C dX5_init_0 rfl (n := 1) rfl ?_
  refine a_obj C (gT_in (tb1 (List.mem_of_getElem? (i := 145) rfl)) rfl) obI obC ⟨(Nat.le_of_ble_eq_true rfl), (Nat.le_of_ble_eq_true rfl)⟩ (Nat.le_of_ble_eq_true rfl) dX5_init_1 (n := 4) rfl ?_
  refine a_aload_n C dX5_init_4 rfl (n := 5) rfl ?_
  refine a_bipush C dX5_init_5 (v := 120) (by decide) (n := 7) rfl ?_
  refine a_newb C acB (N := 120) ⟨by decide, by decide, by decide⟩ ⟨(Nat.le_of_ble_eq_true rfl), (Nat.le_of_ble_eq_true rfl)⟩ dX5_init_7 (n := 9) rfl (fun q7 => ?_)
  refine a_putF C o 0 rfl rfl vi_4 tyX5 tyX5_ok nmX5 0 (by decide) (gT_in (tb1 (List.mem_of_getElem? (i := 146) rfl)) rfl) rfl rfl (tyX5_ok 0 (by decide)) ⟨rfl, rfl⟩ (Nat.le_of_ble_eq_true rfl) dX5_init_9 (n := 12) rfl ?_
  refine a_ws (ws1 := ([(q, .inr (4, [.ref q7, .int 0]))] ++ [(q7, .inl (g.2.2.1 1, 120, .inl (fun _ => 0)))])) ?_ rfl
  exact a_retC C (fun k => ([q7] : List Nat).getD k 0) dX5_init_12 rfl
theorem mi_X4_init : MI yX4_init cX4_init 1 none 0 := ⟨(gT_in (tb1 (List.mem_of_getElem? (i := 190) rfl)) rfl), (gT_in (tb1 (List.mem_of_getElem? (i := 8) rfl)) rfl), by decide +kernel⟩
theorem im_X4_init : Cond.instanceMethod yX4_init ∈ gT := (gT_in (tb1 (List.mem_of_getElem? (i := 189) rfl)) rfl)
def oX4 (g : Gl) (q : Nat) (u : Nat → Nat) : va_W := [(q, .inr (3, [.ref (u 0), .int 0, .int 0])), ((u 0), .inl (g.2.2.1 0, 40, .inl (fun _ => 0)))]
set_option maxHeartbeats 4000000 in
set_option maxRecDepth 100000 in
theorem c_X4 (l : Launch) (g : Gl) (q : Nat) : CCt l yX4_init cX4_init 1 1 1 40 g [.ref q] [(q, .inr (3, [.null, .int 0, .int 0]))] (oX4 g q) := by
  refine cct_of (by decide +kernel) rfl ⟨rfl, (Nat.le_of_ble_eq_true rfl)⟩ (fun x hl C o => ?_)
  obtain rfl := hl
  refine a_aload_n C dX4_init_0 rfl (n := 1) rfl ?_
  refine a_obj C (gT_in (tb1 (List.mem_of_getElem? (i := 191) rfl)) rfl) obI obC ⟨(Nat.le_of_ble_eq_true rfl), (Nat.le_of_ble_eq_true rfl)⟩ (Nat.le_of_ble_eq_true rfl) dX4_init_1 (n := 4) rfl ?_
  refine a_aload_n C dX4_init_4 rfl (n := 5) rfl ?_
  refine a_bipush C dX4_init_5 (v := 40) (by decide) (n := 7) rfl ?_
  refine a_newa C acI (N := 40) ⟨by decide, by decide, by decide⟩ ⟨(Nat.le_of_ble_eq_true rfl), (Nat.le_of_ble_eq_true rfl)⟩ dX4_init_7 (n := 9) rfl (fun q7 => ?_)
  refine a_putF C o 0 rfl rfl vi_3 tyX4 tyX4_ok nmX4 0 (by decide) (gT_in (tb1 (List.mem_of_getElem? (i := 192) rfl)) rfl) rfl rfl (tyX4_ok 0 (by decide)) ⟨rfl, rfl⟩ (Nat.le_of_ble_eq_true rfl) dX4_init_9 (n := 12) rfl ?_
  refine a_ws (ws1 := ([(q, .inr (3, [.ref q7, .int 0, .int 0]))] ++ [(q7, .inl (g.2.2.1 0, 40, .inl (fun _ => 0)))])) ?_ rfl
  exact a_retC C (fun k => ([q7] : List Nat).getD k 0) dX4_init_12 rfl
theorem mi_X3_init : MI yX3_init cX3_init 3 none 2 := ⟨(gT_in (tb1 (List.mem_of_getElem? (i := 161) rfl)) rfl), (gT_in (tb1 (List.mem_of_getElem? (i := 7) rfl)) rfl), by decide +kernel⟩
theorem im_X3_init : Cond.instanceMethod yX3_init ∈ gT := (gT_in (tb1 (List.mem_of_getElem? (i := 160) rfl)) rfl)
def oX3 (g : Gl) (q : Nat) (a1 : Nat) (a2 : Nat) (u : Nat → Nat) : va_W := [(q, .inr (2, [.ref a1, .ref a2, .ref (u 0), .ref (u 1), .ref (u 2), .int 0, .int 0])), ((u 0), .inl (g.2.2.1 0, 121, .inl (fun _ => 0))), ((u 1), .inl (g.2.2.1 0, 121, .inl (fun _ => 0))), ((u 2), .inl (g.2.2.1 0, 121, .inl (fun _ => 0)))]
set_option maxHeartbeats 4000000 in
set_option maxRecDepth 100000 in
theorem c_X3 (l : Launch) (g : Gl) (q : Nat) (a1 : Nat) (a2 : Nat) : CCt l yX3_init cX3_init 3 1 3 363 g [.ref q, .ref a1, .ref a2] [(q, .inr (2, [.null, .null, .null, .null, .null, .int 0, .int 0]))] (oX3 g q a1 a2) := by
  refine cct_of (by decide +kernel) rfl ⟨rfl, (Nat.le_of_ble_eq_true rfl)⟩ (fun x hl C o => ?_)
  obtain rfl := hl
  refine a_aload_n C dX3_init_0 rfl (n := 1) rfl ?_
  refine a_obj C (gT_in (tb1 (List.mem_of_getElem? (i := 162) rfl)) rfl) obI obC ⟨(Nat.le_of_ble_eq_true rfl), (Nat.le_of_ble_eq_true rfl)⟩ (Nat.le_of_ble_eq_true rfl) dX3_init_1 (n := 4) rfl ?_
  refine a_aload_n C dX3_init_4 rfl (n := 5) rfl ?_
  refine a_bipush C dX3_init_5 (v := 121) (by decide) (n := 7) rfl ?_
  refine a_newa C acI (N := 121) ⟨by decide, by decide, by decide⟩ ⟨(Nat.le_of_ble_eq_true rfl), (Nat.le_of_ble_eq_true rfl)⟩ dX3_init_7 (n := 9) rfl (fun q7 => ?_)
  refine a_putF C o 0 rfl rfl vi_2 tyX3 tyX3_ok nmX3 2 (by decide) (gT_in (tb1 (List.mem_of_getElem? (i := 165) rfl)) rfl) rfl rfl (tyX3_ok 2 (by decide)) ⟨rfl, rfl⟩ (Nat.le_of_ble_eq_true rfl) dX3_init_9 (n := 12) rfl ?_
  refine a_ws (ws1 := ([(q, .inr (2, [.null, .null, .ref q7, .null, .null, .int 0, .int 0]))] ++ [(q7, .inl (g.2.2.1 0, 121, .inl (fun _ => 0)))])) ?_ rfl
  refine a_aload_n C dX3_init_12 rfl (n := 13) rfl ?_
  refine a_bipush C dX3_init_13 (v := 121) (by decide) (n := 15) rfl ?_
  refine a_newa C acI (N := 121) ⟨by decide, by decide, by decide⟩ ⟨(Nat.le_of_ble_eq_true rfl), (Nat.le_of_ble_eq_true rfl)⟩ dX3_init_15 (n := 17) rfl (fun q15 => ?_)
  refine a_putF C o 0 rfl rfl vi_2 tyX3 tyX3_ok nmX3 3 (by decide) (gT_in (tb1 (List.mem_of_getElem? (i := 166) rfl)) rfl) rfl rfl (tyX3_ok 3 (by decide)) ⟨rfl, rfl⟩ (Nat.le_of_ble_eq_true rfl) dX3_init_17 (n := 20) rfl ?_
  refine a_ws (ws1 := (([(q, .inr (2, [.null, .null, .ref q7, .ref q15, .null, .int 0, .int 0]))] ++ [(q7, .inl (g.2.2.1 0, 121, .inl (fun _ => 0)))]) ++ [(q15, .inl (g.2.2.1 0, 121, .inl (fun _ => 0)))])) ?_ rfl
  refine a_aload_n C dX3_init_20 rfl (n := 21) rfl ?_
  refine a_bipush C dX3_init_21 (v := 121) (by decide) (n := 23) rfl ?_
  refine a_newa C acI (N := 121) ⟨by decide, by decide, by decide⟩ ⟨(Nat.le_of_ble_eq_true rfl), (Nat.le_of_ble_eq_true rfl)⟩ dX3_init_23 (n := 25) rfl (fun q23 => ?_)
  refine a_putF C o 0 rfl rfl vi_2 tyX3 tyX3_ok nmX3 4 (by decide) (gT_in (tb1 (List.mem_of_getElem? (i := 167) rfl)) rfl) rfl rfl (tyX3_ok 4 (by decide)) ⟨rfl, rfl⟩ (Nat.le_of_ble_eq_true rfl) dX3_init_25 (n := 28) rfl ?_
  refine a_ws (ws1 := ((([(q, .inr (2, [.null, .null, .ref q7, .ref q15, .ref q23, .int 0, .int 0]))] ++ [(q7, .inl (g.2.2.1 0, 121, .inl (fun _ => 0)))]) ++ [(q15, .inl (g.2.2.1 0, 121, .inl (fun _ => 0)))]) ++ [(q23, .inl (g.2.2.1 0, 121, .inl (fun _ => 0)))])) ?_ rfl
  refine a_aload_n C dX3_init_28 rfl (n := 29) rfl ?_
  refine a_aload_n C dX3_init_29 rfl (n := 30) rfl ?_
  refine a_putF C o 0 rfl rfl vi_2 tyX3 tyX3_ok nmX3 0 (by decide) (gT_in (tb1 (List.mem_of_getElem? (i := 163) rfl)) rfl) rfl rfl (tyX3_ok 0 (by decide)) ⟨rfl, rfl⟩ (Nat.le_of_ble_eq_true rfl) dX3_init_30 (n := 33) rfl ?_
  refine a_ws (ws1 := ((([(q, .inr (2, [.ref a1, .null, .ref q7, .ref q15, .ref q23, .int 0, .int 0]))] ++ [(q7, .inl (g.2.2.1 0, 121, .inl (fun _ => 0)))]) ++ [(q15, .inl (g.2.2.1 0, 121, .inl (fun _ => 0)))]) ++ [(q23, .inl (g.2.2.1 0, 121, .inl (fun _ => 0)))])) ?_ rfl
  refine a_aload_n C dX3_init_33 rfl (n := 34) rfl ?_
  refine a_aload_n C dX3_init_34 rfl (n := 35) rfl ?_
  refine a_putF C o 0 rfl rfl vi_2 tyX3 tyX3_ok nmX3 1 (by decide) (gT_in (tb1 (List.mem_of_getElem? (i := 164) rfl)) rfl) rfl rfl (tyX3_ok 1 (by decide)) ⟨rfl, rfl⟩ (Nat.le_of_ble_eq_true rfl) dX3_init_35 (n := 38) rfl ?_
  refine a_ws (ws1 := ((([(q, .inr (2, [.ref a1, .ref a2, .ref q7, .ref q15, .ref q23, .int 0, .int 0]))] ++ [(q7, .inl (g.2.2.1 0, 121, .inl (fun _ => 0)))]) ++ [(q15, .inl (g.2.2.1 0, 121, .inl (fun _ => 0)))]) ++ [(q23, .inl (g.2.2.1 0, 121, .inl (fun _ => 0)))])) ?_ rfl
  exact a_retC C (fun k => ([q7, q15, q23] : List Nat).getD k 0) dX3_init_38 rfl
theorem mi_X1_init : MI yX1_init cX1_init 1 none 0 := ⟨(gT_in (tb1 (List.mem_of_getElem? (i := 30) rfl)) rfl), (gT_in (tb1 (List.mem_of_getElem? (i := 2) rfl)) rfl), by decide +kernel⟩
theorem im_X1_init : Cond.instanceMethod yX1_init ∈ gT := (gT_in (tb1 (List.mem_of_getElem? (i := 29) rfl)) rfl)
def oX1 (g : Gl) (q : Nat) (u : Nat → Nat) : va_W := [(q, .inr (1, [.ref (u 0), .ref (u 1), .ref (u 2), .ref (u 3), .ref (u 4), .ref (u 5), .ref (u 6), .ref (u 7), .ref (u 8), .ref (u 9), .int 0, .int 0, .int 0, .int 5, .int 1])), ((u 0), .inl (g.2.2.1 0, 10, .inl (fun _ => 0))), ((u 1), .inl (g.2.2.1 0, 10, .inl (fun _ => 0))), ((u 2), .inl (g.2.2.1 0, 10, .inl (fun _ => 0))), ((u 3), .inl (g.2.2.1 0, 10, .inl (fun _ => 0))), ((u 4), .inl (g.2.2.1 0, 6, .inl (fun _ => 0))), ((u 5), .inl (g.2.2.1 0, 6, .inl (flF (1) 6 0 (fun _ => (fun _ => 0)) 0))), ((u 6), .inl (g.2.2.1 0, 6, .inl (flF (-1) 6 0 (fun _ => (fun _ => 0)) 0))), ((u 7), .inl (g.2.2.1 0, 4, .inl (fun _ => 0))), ((u 8), .inl (g.2.2.1 0, 40, .inl (fun _ => 0))), ((u 9), .inl (g.2.2.1 0, 10, .inl (flF (-1) 10 0 (fun _ => (fun _ => 0)) 0)))]
set_option maxHeartbeats 4000000 in
set_option maxRecDepth 100000 in
theorem c_X1 (l : Launch) (g : Gl) (q : Nat) : CCt l yX1_init cX1_init 1 1 10 112 g [.ref q] [(q, .inr (1, [.null, .null, .null, .null, .null, .null, .null, .null, .null, .null, .int 0, .int 0, .int 0, .int 0, .int 0]))] (oX1 g q) := by
  refine cct_of (by decide +kernel) rfl ⟨rfl, (Nat.le_of_ble_eq_true rfl)⟩ (fun x hl C o => ?_)
  obtain rfl := hl
  refine a_aload_n C dX1_init_0 rfl (n := 1) rfl ?_
  refine a_obj C (gT_in (tb1 (List.mem_of_getElem? (i := 31) rfl)) rfl) obI obC ⟨(Nat.le_of_ble_eq_true rfl), (Nat.le_of_ble_eq_true rfl)⟩ (Nat.le_of_ble_eq_true rfl) dX1_init_1 (n := 4) rfl ?_
  refine a_aload_n C dX1_init_4 rfl (n := 5) rfl ?_
  refine a_bipush C dX1_init_5 (v := 10) (by decide) (n := 7) rfl ?_
  refine a_newa C acI (N := 10) ⟨by decide, by decide, by decide⟩ ⟨(Nat.le_of_ble_eq_true rfl), (Nat.le_of_ble_eq_true rfl)⟩ dX1_init_7 (n := 9) rfl (fun q7 => ?_)
  refine a_putF C o 0 rfl rfl vi_1 tyX1 tyX1_ok nmX1 0 (by decide) (gT_in (tb1 (List.mem_of_getElem? (i := 35) rfl)) rfl) rfl rfl (tyX1_ok 0 (by decide)) ⟨rfl, rfl⟩ (Nat.le_of_ble_eq_true rfl) dX1_init_9 (n := 12) rfl ?_
  refine a_ws (ws1 := ([(q, .inr (1, [.ref q7, .null, .null, .null, .null, .null, .null, .null, .null, .null, .int 0, .int 0, .int 0, .int 0, .int 0]))] ++ [(q7, .inl (g.2.2.1 0, 10, .inl (fun _ => 0)))])) ?_ rfl
  refine a_aload_n C dX1_init_12 rfl (n := 13) rfl ?_
  refine a_bipush C dX1_init_13 (v := 10) (by decide) (n := 15) rfl ?_
  refine a_newa C acI (N := 10) ⟨by decide, by decide, by decide⟩ ⟨(Nat.le_of_ble_eq_true rfl), (Nat.le_of_ble_eq_true rfl)⟩ dX1_init_15 (n := 17) rfl (fun q15 => ?_)
  refine a_putF C o 0 rfl rfl vi_1 tyX1 tyX1_ok nmX1 1 (by decide) (gT_in (tb1 (List.mem_of_getElem? (i := 38) rfl)) rfl) rfl rfl (tyX1_ok 1 (by decide)) ⟨rfl, rfl⟩ (Nat.le_of_ble_eq_true rfl) dX1_init_17 (n := 20) rfl ?_
  refine a_ws (ws1 := (([(q, .inr (1, [.ref q7, .ref q15, .null, .null, .null, .null, .null, .null, .null, .null, .int 0, .int 0, .int 0, .int 0, .int 0]))] ++ [(q7, .inl (g.2.2.1 0, 10, .inl (fun _ => 0)))]) ++ [(q15, .inl (g.2.2.1 0, 10, .inl (fun _ => 0)))])) ?_ rfl
  refine a_aload_n C dX1_init_20 rfl (n := 21) rfl ?_
  refine a_bipush C dX1_init_21 (v := 10) (by decide) (n := 23) rfl ?_
  refine a_newa C acI (N := 10) ⟨by decide, by decide, by decide⟩ ⟨(Nat.le_of_ble_eq_true rfl), (Nat.le_of_ble_eq_true rfl)⟩ dX1_init_23 (n := 25) rfl (fun q23 => ?_)
  refine a_putF C o 0 rfl rfl vi_1 tyX1 tyX1_ok nmX1 2 (by decide) (gT_in (tb1 (List.mem_of_getElem? (i := 41) rfl)) rfl) rfl rfl (tyX1_ok 2 (by decide)) ⟨rfl, rfl⟩ (Nat.le_of_ble_eq_true rfl) dX1_init_25 (n := 28) rfl ?_
  refine a_ws (ws1 := ((([(q, .inr (1, [.ref q7, .ref q15, .ref q23, .null, .null, .null, .null, .null, .null, .null, .int 0, .int 0, .int 0, .int 0, .int 0]))] ++ [(q7, .inl (g.2.2.1 0, 10, .inl (fun _ => 0)))]) ++ [(q15, .inl (g.2.2.1 0, 10, .inl (fun _ => 0)))]) ++ [(q23, .inl (g.2.2.1 0, 10, .inl (fun _ => 0)))])) ?_ rfl
  refine a_aload_n C dX1_init_28 rfl (n := 29) rfl ?_
  refine a_bipush C dX1_init_29 (v := 10) (by decide) (n := 31) rfl ?_
  refine a_newa C acI (N := 10) ⟨by decide, by decide, by decide⟩ ⟨(Nat.le_of_ble_eq_true rfl), (Nat.le_of_ble_eq_true rfl)⟩ dX1_init_31 (n := 33) rfl (fun q31 => ?_)
  refine a_putF C o 0 rfl rfl vi_1 tyX1 tyX1_ok nmX1 3 (by decide) (gT_in (tb1 (List.mem_of_getElem? (i := 44) rfl)) rfl) rfl rfl (tyX1_ok 3 (by decide)) ⟨rfl, rfl⟩ (Nat.le_of_ble_eq_true rfl) dX1_init_33 (n := 36) rfl ?_
  refine a_ws (ws1 := (((([(q, .inr (1, [.ref q7, .ref q15, .ref q23, .ref q31, .null, .null, .null, .null, .null, .null, .int 0, .int 0, .int 0, .int 0, .int 0]))] ++ [(q7, .inl (g.2.2.1 0, 10, .inl (fun _ => 0)))]) ++ [(q15, .inl (g.2.2.1 0, 10, .inl (fun _ => 0)))]) ++ [(q23, .inl (g.2.2.1 0, 10, .inl (fun _ => 0)))]) ++ [(q31, .inl (g.2.2.1 0, 10, .inl (fun _ => 0)))])) ?_ rfl
  refine a_aload_n C dX1_init_36 rfl (n := 37) rfl ?_
  refine a_bipush C dX1_init_37 (v := 6) (by decide) (n := 39) rfl ?_
  refine a_newa C acI (N := 6) ⟨by decide, by decide, by decide⟩ ⟨(Nat.le_of_ble_eq_true rfl), (Nat.le_of_ble_eq_true rfl)⟩ dX1_init_39 (n := 41) rfl (fun q39 => ?_)
  refine a_putF C o 0 rfl rfl vi_1 tyX1 tyX1_ok nmX1 4 (by decide) (gT_in (tb1 (List.mem_of_getElem? (i := 47) rfl)) rfl) rfl rfl (tyX1_ok 4 (by decide)) ⟨rfl, rfl⟩ (Nat.le_of_ble_eq_true rfl) dX1_init_41 (n := 44) rfl ?_
  refine a_ws (ws1 := ((((([(q, .inr (1, [.ref q7, .ref q15, .ref q23, .ref q31, .ref q39, .null, .null, .null, .null, .null, .int 0, .int 0, .int 0, .int 0, .int 0]))] ++ [(q7, .inl (g.2.2.1 0, 10, .inl (fun _ => 0)))]) ++ [(q15, .inl (g.2.2.1 0, 10, .inl (fun _ => 0)))]) ++ [(q23, .inl (g.2.2.1 0, 10, .inl (fun _ => 0)))]) ++ [(q31, .inl (g.2.2.1 0, 10, .inl (fun _ => 0)))]) ++ [(q39, .inl (g.2.2.1 0, 6, .inl (fun _ => 0)))])) ?_ rfl
  refine a_aload_n C dX1_init_44 rfl (n := 45) rfl ?_
  refine a_bipush C dX1_init_45 (v := 6) (by decide) (n := 47) rfl ?_
  refine a_newa C acI (N := 6) ⟨by decide, by decide, by decide⟩ ⟨(Nat.le_of_ble_eq_true rfl), (Nat.le_of_ble_eq_true rfl)⟩ dX1_init_47 (n := 49) rfl (fun q47 => ?_)
  refine a_putF C o 0 rfl rfl vi_1 tyX1 tyX1_ok nmX1 5 (by decide) (gT_in (tb1 (List.mem_of_getElem? (i := 51) rfl)) rfl) rfl rfl (tyX1_ok 5 (by decide)) ⟨rfl, rfl⟩ (Nat.le_of_ble_eq_true rfl) dX1_init_49 (n := 52) rfl ?_
  refine a_ws (ws1 := (((((([(q, .inr (1, [.ref q7, .ref q15, .ref q23, .ref q31, .ref q39, .ref q47, .null, .null, .null, .null, .int 0, .int 0, .int 0, .int 0, .int 0]))] ++ [(q7, .inl (g.2.2.1 0, 10, .inl (fun _ => 0)))]) ++ [(q15, .inl (g.2.2.1 0, 10, .inl (fun _ => 0)))]) ++ [(q23, .inl (g.2.2.1 0, 10, .inl (fun _ => 0)))]) ++ [(q31, .inl (g.2.2.1 0, 10, .inl (fun _ => 0)))]) ++ [(q39, .inl (g.2.2.1 0, 6, .inl (fun _ => 0)))]) ++ [(q47, .inl (g.2.2.1 0, 6, .inl (fun _ => 0)))])) ?_ rfl
  refine a_aload_n C dX1_init_52 rfl (n := 53) rfl ?_
  refine a_bipush C dX1_init_53 (v := 6) (by decide) (n := 55) rfl ?_
  refine a_newa C acI (N := 6) ⟨by decide, by decide, by decide⟩ ⟨(Nat.le_of_ble_eq_true rfl), (Nat.le_of_ble_eq_true rfl)⟩ dX1_init_55 (n := 57) rfl (fun q55 => ?_)
  refine a_putF C o 0 rfl rfl vi_1 tyX1 tyX1_ok nmX1 6 (by decide) (gT_in (tb1 (List.mem_of_getElem? (i := 54) rfl)) rfl) rfl rfl (tyX1_ok 6 (by decide)) ⟨rfl, rfl⟩ (Nat.le_of_ble_eq_true rfl) dX1_init_57 (n := 60) rfl ?_
  refine a_ws (ws1 := ((((((([(q, .inr (1, [.ref q7, .ref q15, .ref q23, .ref q31, .ref q39, .ref q47, .ref q55, .null, .null, .null, .int 0, .int 0, .int 0, .int 0, .int 0]))] ++ [(q7, .inl (g.2.2.1 0, 10, .inl (fun _ => 0)))]) ++ [(q15, .inl (g.2.2.1 0, 10, .inl (fun _ => 0)))]) ++ [(q23, .inl (g.2.2.1 0, 10, .inl (fun _ => 0)))]) ++ [(q31, .inl (g.2.2.1 0, 10, .inl (fun _ => 0)))]) ++ [(q39, .inl (g.2.2.1 0, 6, .inl (fun _ => 0)))]) ++ [(q47, .inl (g.2.2.1 0, 6, .inl (fun _ => 0)))]) ++ [(q55, .inl (g.2.2.1 0, 6, .inl (fun _ => 0)))])) ?_ rfl
  refine a_aload_n C dX1_init_60 rfl (n := 61) rfl ?_
  refine a_iconst C dX1_init_61 (v := 4) (by decide) (n := 62) rfl ?_
  refine a_newa C acI (N := 4) ⟨by decide, by decide, by decide⟩ ⟨(Nat.le_of_ble_eq_true rfl), (Nat.le_of_ble_eq_true rfl)⟩ dX1_init_62 (n := 64) rfl (fun q62 => ?_)
  refine a_putF C o 0 rfl rfl vi_1 tyX1 tyX1_ok nmX1 7 (by decide) (gT_in (tb1 (List.mem_of_getElem? (i := 58) rfl)) rfl) rfl rfl (tyX1_ok 7 (by decide)) ⟨rfl, rfl⟩ (Nat.le_of_ble_eq_true rfl) dX1_init_64 (n := 67) rfl ?_
  refine a_ws (ws1 := (((((((([(q, .inr (1, [.ref q7, .ref q15, .ref q23, .ref q31, .ref q39, .ref q47, .ref q55, .ref q62, .null, .null, .int 0, .int 0, .int 0, .int 0, .int 0]))] ++ [(q7, .inl (g.2.2.1 0, 10, .inl (fun _ => 0)))]) ++ [(q15, .inl (g.2.2.1 0, 10, .inl (fun _ => 0)))]) ++ [(q23, .inl (g.2.2.1 0, 10, .inl (fun _ => 0)))]) ++ [(q31, .inl (g.2.2.1 0, 10, .inl (fun _ => 0)))]) ++ [(q39, .inl (g.2.2.1 0, 6, .inl (fun _ => 0)))]) ++ [(q47, .inl (g.2.2.1 0, 6, .inl (fun _ => 0)))]) ++ [(q55, .inl (g.2.2.1 0, 6, .inl (fun _ => 0)))]) ++ [(q62, .inl (g.2.2.1 0, 4, .inl (fun _ => 0)))])) ?_ rfl
  refine a_aload_n C dX1_init_67 rfl (n := 68) rfl ?_
  refine a_bipush C dX1_init_68 (v := 40) (by decide) (n := 70) rfl ?_
  refine a_newa C acI (N := 40) ⟨by decide, by decide, by decide⟩ ⟨(Nat.le_of_ble_eq_true rfl), (Nat.le_of_ble_eq_true rfl)⟩ dX1_init_70 (n := 72) rfl (fun q70 => ?_)
  refine a_putF C o 0 rfl rfl vi_1 tyX1 tyX1_ok nmX1 8 (by decide) (gT_in (tb1 (List.mem_of_getElem? (i := 59) rfl)) rfl) rfl rfl (tyX1_ok 8 (by decide)) ⟨rfl, rfl⟩ (Nat.le_of_ble_eq_true rfl) dX1_init_72 (n := 75) rfl ?_
  refine a_ws (ws1 := ((((((((([(q, .inr (1, [.ref q7, .ref q15, .ref q23, .ref q31, .ref q39, .ref q47, .ref q55, .ref q62, .ref q70, .null, .int 0, .int 0, .int 0, .int 0, .int 0]))] ++ [(q7, .inl (g.2.2.1 0, 10, .inl (fun _ => 0)))]) ++ [(q15, .inl (g.2.2.1 0, 10, .inl (fun _ => 0)))]) ++ [(q23, .inl (g.2.2.1 0, 10, .inl (fun _ => 0)))]) ++ [(q31, .inl (g.2.2.1 0, 10, .inl (fun _ => 0)))]) ++ [(q39, .inl (g.2.2.1 0, 6, .inl (fun _ => 0)))]) ++ [(q47, .inl (g.2.2.1 0, 6, .inl (fun _ => 0)))]) ++ [(q55, .inl (g.2.2.1 0, 6, .inl (fun _ => 0)))]) ++ [(q62, .inl (g.2.2.1 0, 4, .inl (fun _ => 0)))]) ++ [(q70, .inl (g.2.2.1 0, 40, .inl (fun _ => 0)))])) ?_ rfl
  refine a_aload_n C dX1_init_75 rfl (n := 76) rfl ?_
  refine a_bipush C dX1_init_76 (v := 10) (by decide) (n := 78) rfl ?_
  refine a_newa C acI (N := 10) ⟨by decide, by decide, by decide⟩ ⟨(Nat.le_of_ble_eq_true rfl), (Nat.le_of_ble_eq_true rfl)⟩ dX1_init_78 (n := 80) rfl (fun q78 => ?_)
  refine a_putF C o 0 rfl rfl vi_1 tyX1 tyX1_ok nmX1 9 (by decide) (gT_in (tb1 (List.mem_of_getElem? (i := 60) rfl)) rfl) rfl rfl (tyX1_ok 9 (by decide)) ⟨rfl, rfl⟩ (Nat.le_of_ble_eq_true rfl) dX1_init_80 (n := 83) rfl ?_
  refine a_ws (ws1 := (((((((((([(q, .inr (1, [.ref q7, .ref q15, .ref q23, .ref q31, .ref q39, .ref q47, .ref q55, .ref q62, .ref q70, .ref q78, .int 0, .int 0, .int 0, .int 0, .int 0]))] ++ [(q7, .inl (g.2.2.1 0, 10, .inl (fun _ => 0)))]) ++ [(q15, .inl (g.2.2.1 0, 10, .inl (fun _ => 0)))]) ++ [(q23, .inl (g.2.2.1 0, 10, .inl (fun _ => 0)))]) ++ [(q31, .inl (g.2.2.1 0, 10, .inl (fun _ => 0)))]) ++ [(q39, .inl (g.2.2.1 0, 6, .inl (fun _ => 0)))]) ++ [(q47, .inl (g.2.2.1 0, 6, .inl (fun _ => 0)))]) ++ [(q55, .inl (g.2.2.1 0, 6, .inl (fun _ => 0)))]) ++ [(q62, .inl (g.2.2.1 0, 4, .inl (fun _ => 0)))]) ++ [(q70, .inl (g.2.2.1 0, 40, .inl (fun _ => 0)))]) ++ [(q78, .inl (g.2.2.1 0, 10, .inl (fun _ => 0)))])) ?_ rfl
  refine a_aload_n C dX1_init_83 rfl (n := 84) rfl ?_
  refine a_iconst C dX1_init_84 (v := 5) (by decide) (n := 85) rfl ?_
  refine a_put C 0 rfl rfl vi_1 tyX1 tyX1_ok nmX1 13 (by decide) (gT_in (tb1 (List.mem_of_getElem? (i := 71) rfl)) rfl) rfl (tyX1_ok 13 (by decide)) ⟨rfl, rfl⟩ (Nat.le_of_ble_eq_true rfl) dX1_init_85 (n := 88) rfl ?_
  refine a_ws (ws1 := (((((((((([(q, .inr (1, [.ref q7, .ref q15, .ref q23, .ref q31, .ref q39, .ref q47, .ref q55, .ref q62, .ref q70, .ref q78, .int 0, .int 0, .int 0, .int 5, .int 0]))] ++ [(q7, .inl (g.2.2.1 0, 10, .inl (fun _ => 0)))]) ++ [(q15, .inl (g.2.2.1 0, 10, .inl (fun _ => 0)))]) ++ [(q23, .inl (g.2.2.1 0, 10, .inl (fun _ => 0)))]) ++ [(q31, .inl (g.2.2.1 0, 10, .inl (fun _ => 0)))]) ++ [(q39, .inl (g.2.2.1 0, 6, .inl (fun _ => 0)))]) ++ [(q47, .inl (g.2.2.1 0, 6, .inl (fun _ => 0)))]) ++ [(q55, .inl (g.2.2.1 0, 6, .inl (fun _ => 0)))]) ++ [(q62, .inl (g.2.2.1 0, 4, .inl (fun _ => 0)))]) ++ [(q70, .inl (g.2.2.1 0, 40, .inl (fun _ => 0)))]) ++ [(q78, .inl (g.2.2.1 0, 10, .inl (fun _ => 0)))])) ?_ rfl
  refine a_aload_n C dX1_init_88 rfl (n := 89) rfl ?_
  refine a_iconst C dX1_init_89 (v := 1) (by decide) (n := 90) rfl ?_
  refine a_put C 0 rfl rfl vi_1 tyX1 tyX1_ok nmX1 14 (by decide) (gT_in (tb1 (List.mem_of_getElem? (i := 74) rfl)) rfl) rfl (tyX1_ok 14 (by decide)) ⟨rfl, rfl⟩ (Nat.le_of_ble_eq_true rfl) dX1_init_90 (n := 93) rfl ?_
  refine a_ws (ws1 := (((((((((([(q, .inr (1, [.ref q7, .ref q15, .ref q23, .ref q31, .ref q39, .ref q47, .ref q55, .ref q62, .ref q70, .ref q78, .int 0, .int 0, .int 0, .int 5, .int 1]))] ++ [(q7, .inl (g.2.2.1 0, 10, .inl (fun _ => 0)))]) ++ [(q15, .inl (g.2.2.1 0, 10, .inl (fun _ => 0)))]) ++ [(q23, .inl (g.2.2.1 0, 10, .inl (fun _ => 0)))]) ++ [(q31, .inl (g.2.2.1 0, 10, .inl (fun _ => 0)))]) ++ [(q39, .inl (g.2.2.1 0, 6, .inl (fun _ => 0)))]) ++ [(q47, .inl (g.2.2.1 0, 6, .inl (fun _ => 0)))]) ++ [(q55, .inl (g.2.2.1 0, 6, .inl (fun _ => 0)))]) ++ [(q62, .inl (g.2.2.1 0, 4, .inl (fun _ => 0)))]) ++ [(q70, .inl (g.2.2.1 0, 40, .inl (fun _ => 0)))]) ++ [(q78, .inl (g.2.2.1 0, 10, .inl (fun _ => 0)))])) ?_ rfl
  refine a_aload_n C dX1_init_93 rfl (n := 94) rfl ?_
  refine a_get C 0 rfl rfl vi_1 5 (by decide) (gT_in (tb1 (List.mem_of_getElem? (i := 51) rfl)) rfl) rfl dX1_init_94 (n := 97) rfl ?_
  refine a_iconst C dX1_init_97 (v := 1) (by decide) (n := 98) rfl ?_
  refine a_fill C 6 rfl (by decide) (gT_in (tb1 (List.mem_of_getElem? (i := 32) rfl)) rfl) ⟨(Nat.le_of_ble_eq_true rfl), (Nat.le_of_ble_eq_true rfl), (Nat.le_of_ble_eq_true rfl), (Nat.le_of_ble_eq_true rfl)⟩ (Nat.le_of_ble_eq_true rfl) dX1_init_98 (n := 101) rfl ?_
  refine a_ws (ws1 := (((((((((([(q, .inr (1, [.ref q7, .ref q15, .ref q23, .ref q31, .ref q39, .ref q47, .ref q55, .ref q62, .ref q70, .ref q78, .int 0, .int 0, .int 0, .int 5, .int 1]))] ++ [(q7, .inl (g.2.2.1 0, 10, .inl (fun _ => 0)))]) ++ [(q15, .inl (g.2.2.1 0, 10, .inl (fun _ => 0)))]) ++ [(q23, .inl (g.2.2.1 0, 10, .inl (fun _ => 0)))]) ++ [(q31, .inl (g.2.2.1 0, 10, .inl (fun _ => 0)))]) ++ [(q39, .inl (g.2.2.1 0, 6, .inl (fun _ => 0)))]) ++ [(q47, .inl (g.2.2.1 0, 6, .inl (flF (1) 6 0 (fun _ => (fun _ => 0)) 0)))]) ++ [(q55, .inl (g.2.2.1 0, 6, .inl (fun _ => 0)))]) ++ [(q62, .inl (g.2.2.1 0, 4, .inl (fun _ => 0)))]) ++ [(q70, .inl (g.2.2.1 0, 40, .inl (fun _ => 0)))]) ++ [(q78, .inl (g.2.2.1 0, 10, .inl (fun _ => 0)))])) ?_ rfl
  refine a_aload_n C dX1_init_101 rfl (n := 102) rfl ?_
  refine a_get C 0 rfl rfl vi_1 6 (by decide) (gT_in (tb1 (List.mem_of_getElem? (i := 54) rfl)) rfl) rfl dX1_init_102 (n := 105) rfl ?_
  refine a_iconst C dX1_init_105 (v := -1) (by decide) (n := 106) rfl ?_
  refine a_fill C 7 rfl (by decide) (gT_in (tb1 (List.mem_of_getElem? (i := 32) rfl)) rfl) ⟨(Nat.le_of_ble_eq_true rfl), (Nat.le_of_ble_eq_true rfl), (Nat.le_of_ble_eq_true rfl), (Nat.le_of_ble_eq_true rfl)⟩ (Nat.le_of_ble_eq_true rfl) dX1_init_106 (n := 109) rfl ?_
  refine a_ws (ws1 := (((((((((([(q, .inr (1, [.ref q7, .ref q15, .ref q23, .ref q31, .ref q39, .ref q47, .ref q55, .ref q62, .ref q70, .ref q78, .int 0, .int 0, .int 0, .int 5, .int 1]))] ++ [(q7, .inl (g.2.2.1 0, 10, .inl (fun _ => 0)))]) ++ [(q15, .inl (g.2.2.1 0, 10, .inl (fun _ => 0)))]) ++ [(q23, .inl (g.2.2.1 0, 10, .inl (fun _ => 0)))]) ++ [(q31, .inl (g.2.2.1 0, 10, .inl (fun _ => 0)))]) ++ [(q39, .inl (g.2.2.1 0, 6, .inl (fun _ => 0)))]) ++ [(q47, .inl (g.2.2.1 0, 6, .inl (flF (1) 6 0 (fun _ => (fun _ => 0)) 0)))]) ++ [(q55, .inl (g.2.2.1 0, 6, .inl (flF (-1) 6 0 (fun _ => (fun _ => 0)) 0)))]) ++ [(q62, .inl (g.2.2.1 0, 4, .inl (fun _ => 0)))]) ++ [(q70, .inl (g.2.2.1 0, 40, .inl (fun _ => 0)))]) ++ [(q78, .inl (g.2.2.1 0, 10, .inl (fun _ => 0)))])) ?_ rfl
  refine a_aload_n C dX1_init_109 rfl (n := 110) rfl ?_
  refine a_get C 0 rfl rfl vi_1 9 (by decide) (gT_in (tb1 (List.mem_of_getElem? (i := 60) rfl)) rfl) rfl dX1_init_110 (n := 113) rfl ?_
  refine a_iconst C dX1_init_113 (v := -1) (by decide) (n := 114) rfl ?_
  refine a_fill C 10 rfl (by decide) (gT_in (tb1 (List.mem_of_getElem? (i := 32) rfl)) rfl) ⟨(Nat.le_of_ble_eq_true rfl), (Nat.le_of_ble_eq_true rfl), (Nat.le_of_ble_eq_true rfl), (Nat.le_of_ble_eq_true rfl)⟩ (Nat.le_of_ble_eq_true rfl) dX1_init_114 (n := 117) rfl ?_
  refine a_ws (ws1 := (((((((((([(q, .inr (1, [.ref q7, .ref q15, .ref q23, .ref q31, .ref q39, .ref q47, .ref q55, .ref q62, .ref q70, .ref q78, .int 0, .int 0, .int 0, .int 5, .int 1]))] ++ [(q7, .inl (g.2.2.1 0, 10, .inl (fun _ => 0)))]) ++ [(q15, .inl (g.2.2.1 0, 10, .inl (fun _ => 0)))]) ++ [(q23, .inl (g.2.2.1 0, 10, .inl (fun _ => 0)))]) ++ [(q31, .inl (g.2.2.1 0, 10, .inl (fun _ => 0)))]) ++ [(q39, .inl (g.2.2.1 0, 6, .inl (fun _ => 0)))]) ++ [(q47, .inl (g.2.2.1 0, 6, .inl (flF (1) 6 0 (fun _ => (fun _ => 0)) 0)))]) ++ [(q55, .inl (g.2.2.1 0, 6, .inl (flF (-1) 6 0 (fun _ => (fun _ => 0)) 0)))]) ++ [(q62, .inl (g.2.2.1 0, 4, .inl (fun _ => 0)))]) ++ [(q70, .inl (g.2.2.1 0, 40, .inl (fun _ => 0)))]) ++ [(q78, .inl (g.2.2.1 0, 10, .inl (flF (-1) 10 0 (fun _ => (fun _ => 0)) 0)))])) ?_ rfl
  exact a_retC C (fun k => ([q7, q15, q23, q31, q39, q47, q55, q62, q70, q78] : List Nat).getD k 0) dX1_init_117 rfl
