theorem ns_X7_24 : (RX7, 24, yX0_init, "SameHeads") ∈ neR := List.mem_of_getElem? (i := 0) rfl
theorem ns_X7_31 : (RX7, 31, yX6_init, "SameHeads") ∈ neR := List.mem_of_getElem? (i := 1) rfl
theorem ns_X7_38 : (RX7, 38, yX5_init, "SameHeads") ∈ neR := List.mem_of_getElem? (i := 2) rfl
theorem ns_X7_62 : (RX7, 62, yX4_init, "SameHeads") ∈ neR := List.mem_of_getElem? (i := 3) rfl
theorem mi_X7_init : MI yX7_init cX7_init 2 none 0 := ⟨(gT_in (tb1 (List.mem_of_getElem? (i := 22) rfl)) rfl), (gT_in (tb1 (List.mem_of_getElem? (i := 1) rfl)) rfl), by decide +kernel⟩
theorem im_X7_init : Cond.instanceMethod yX7_init ∈ gT := (gT_in (tb1 (List.mem_of_getElem? (i := 21) rfl)) rfl)
def tbX : List (Nat → Int32) := [(fun _ => 0), (fun i => ([0, 0, 0, 0, 0, 0, 0, 0, 0, 0, 0, 0, 0, 5, 1] : List Int32).getD i 0), (fun _ => 0), (fun _ => 0), (fun _ => 0), (fun _ => 0), (fun _ => 0), (flF (1) 6 0 (fun _ => (fun _ => 0)) 0), (flF (-1) 6 0 (fun _ => (fun _ => 0)) 0), (fun _ => 0), (fun _ => 0), (flF (-1) 10 0 (fun _ => (fun _ => 0)) 0), (fun i => ([0, 0, 0, 0, 0, 0, 0, 0, 0, 0, 0, 0, 0, 5, 1] : List Int32).getD i 0), (fun _ => 0), (fun _ => 0), (fun _ => 0), (fun _ => 0), (fun _ => 0), (flF (1) 6 0 (fun _ => (fun _ => 0)) 0), (flF (-1) 6 0 (fun _ => (fun _ => 0)) 0), (fun _ => 0), (fun _ => 0), (flF (-1) 10 0 (fun _ => (fun _ => 0)) 0), (fun i => ([0, 0, 0, 0, 0, 0, 0, 0, 0, 0, 0, 0, 0, 5, 1] : List Int32).getD i 0), (fun _ => 0), (fun _ => 0), (fun _ => 0), (fun _ => 0), (fun _ => 0), (flF (1) 6 0 (fun _ => (fun _ => 0)) 0), (flF (-1) 6 0 (fun _ => (fun _ => 0)) 0), (fun _ => 0), (fun _ => 0), (flF (-1) 10 0 (fun _ => (fun _ => 0)) 0), (fun _ => 0), (fun _ => 0), (fun _ => 0), (fun _ => 0), (fun _ => 0), (fun _ => 0), (fun _ => 0), (fun _ => 0), (fun _ => 0), (fun _ => 0), (fun _ => 0), (fun _ => 0), (fun _ => 0), (fun _ => 0), (fun _ => 0), (fun _ => 0), (fun _ => 0), (fun _ => 0), (fun _ => 0), (fun _ => 0), (fun _ => 0), (fun _ => 0)]
def hX0 : Hp := fun c => tbX.getD c (fun _ => 0)
def oX7 (g : Gl) (q : Nat) (u : Nat → Nat) : va_W := cwX (g.1, adr q u, g.2.2) hX0
set_option maxHeartbeats 4000000 in
set_option maxRecDepth 100000 in
theorem c_X7 (l : Launch) (g : Gl) (q : Nat) : CCt l yX7_init cX7_init 2 2 55 1260 g [.ref q] [(q, .inr (6, [.null, .null, .null, .null, .null, .null, .null, .null, .null, .int 0]))] (oX7 g q) := by
  refine cct_of (by decide +kernel) rfl ⟨rfl, (Nat.le_of_ble_eq_true rfl)⟩ (fun x hl C o => ?_)
  obtain rfl := hl
  refine a_aload_n C dX7_init_0 rfl (n := 1) rfl ?_
  refine a_obj C (gT_in (tb1 (List.mem_of_getElem? (i := 23) rfl)) rfl) obI obC ⟨(Nat.le_of_ble_eq_true rfl), (Nat.le_of_ble_eq_true rfl)⟩ (Nat.le_of_ble_eq_true rfl) dX7_init_1 (n := 4) rfl ?_
  refine a_aload_n C dX7_init_4 rfl (n := 5) rfl ?_
  refine a_new C (ci := 1) rfl vi_1 tyX1 tyX1_ok (gT_in (tb1 (List.mem_of_getElem? (i := 26) rfl)) rfl) (gT_in (tb1 (List.mem_of_getElem? (i := 27) rfl)) rfl) (gT_in (tb1 (List.mem_of_getElem? (i := 2) rfl)) rfl) (fs := [.null, .null, .null, .null, .null, .null, .null, .null, .null, .null, .int 0, .int 0, .int 0, .int 0, .int 0]) dfX1 ⟨(Nat.le_of_ble_eq_true rfl), (Nat.le_of_ble_eq_true rfl)⟩ dX7_init_5 (n := 8) rfl (fun q5 => ?_)
  refine a_dup C dX7_init_8 rfl (n := 9) rfl ?_
  refine a_callI C o.ao mi_X1_init (gT_in (tb1 (List.mem_of_getElem? (i := 28) rfl)) rfl) im_X1_init rfl (c_X1 x.2.1 g q5) rfl rfl (Nat.le_of_ble_eq_true rfl) dX7_init_9 ⟨(Nat.le_of_ble_eq_true rfl), (Nat.le_of_ble_eq_true rfl), (Nat.le_of_ble_eq_true rfl), (Nat.le_of_ble_eq_true rfl)⟩ (n := 12) rfl (fun u9 => ?_)
  refine a_putF C o 0 rfl rfl vi_6 tyX7 tyX7_ok nmX7 0 (by decide) (gT_in (tb1 (List.mem_of_getElem? (i := 207) rfl)) rfl) rfl rfl (tyX7_ok 0 (by decide)) ⟨rfl, rfl⟩ (Nat.le_of_ble_eq_true rfl) dX7_init_12 (n := 15) rfl ?_
  refine a_ws (ws1 := ([(q, .inr (6, [.ref q5, .null, .null, .null, .null, .null, .null, .null, .null, .int 0]))] ++ (oX1 g q5 u9))) ?_ rfl
  refine a_aload_n C dX7_init_15 rfl (n := 16) rfl ?_
  refine a_new C (ci := 1) rfl vi_1 tyX1 tyX1_ok (gT_in (tb1 (List.mem_of_getElem? (i := 26) rfl)) rfl) (gT_in (tb1 (List.mem_of_getElem? (i := 27) rfl)) rfl) (gT_in (tb1 (List.mem_of_getElem? (i := 2) rfl)) rfl) (fs := [.null, .null, .null, .null, .null, .null, .null, .null, .null, .null, .int 0, .int 0, .int 0, .int 0, .int 0]) dfX1 ⟨(Nat.le_of_ble_eq_true rfl), (Nat.le_of_ble_eq_true rfl)⟩ dX7_init_16 (n := 19) rfl (fun q16 => ?_)
  refine a_dup C dX7_init_19 rfl (n := 20) rfl ?_
  refine a_callI C o.ao mi_X1_init (gT_in (tb1 (List.mem_of_getElem? (i := 28) rfl)) rfl) im_X1_init rfl (c_X1 x.2.1 g q16) rfl rfl (Nat.le_of_ble_eq_true rfl) dX7_init_20 ⟨(Nat.le_of_ble_eq_true rfl), (Nat.le_of_ble_eq_true rfl), (Nat.le_of_ble_eq_true rfl), (Nat.le_of_ble_eq_true rfl)⟩ (n := 23) rfl (fun u20 => ?_)
  refine a_putF C o 0 rfl rfl vi_6 tyX7 tyX7_ok nmX7 1 (by decide) (gT_in (tb1 (List.mem_of_getElem? (i := 208) rfl)) rfl) rfl rfl (tyX7_ok 1 (by decide)) ⟨rfl, rfl⟩ (Nat.le_of_ble_eq_true rfl) dX7_init_23 (n := 26) rfl ?_
  refine a_ws (ws1 := (([(q, .inr (6, [.ref q5, .ref q16, .null, .null, .null, .null, .null, .null, .null, .int 0]))] ++ (oX1 g q5 u9)) ++ (oX1 g q16 u20))) ?_ rfl
  refine a_aload_n C dX7_init_26 rfl (n := 27) rfl ?_
  refine a_new C (ci := 1) rfl vi_1 tyX1 tyX1_ok (gT_in (tb1 (List.mem_of_getElem? (i := 26) rfl)) rfl) (gT_in (tb1 (List.mem_of_getElem? (i := 27) rfl)) rfl) (gT_in (tb1 (List.mem_of_getElem? (i := 2) rfl)) rfl) (fs := [.null, .null, .null, .null, .null, .null, .null, .null, .null, .null, .int 0, .int 0, .int 0, .int 0, .int 0]) dfX1 ⟨(Nat.le_of_ble_eq_true rfl), (Nat.le_of_ble_eq_true rfl)⟩ dX7_init_27 (n := 30) rfl (fun q27 => ?_)
  refine a_dup C dX7_init_30 rfl (n := 31) rfl ?_
  refine a_callI C o.ao mi_X1_init (gT_in (tb1 (List.mem_of_getElem? (i := 28) rfl)) rfl) im_X1_init rfl (c_X1 x.2.1 g q27) rfl rfl (Nat.le_of_ble_eq_true rfl) dX7_init_31 ⟨(Nat.le_of_ble_eq_true rfl), (Nat.le_of_ble_eq_true rfl), (Nat.le_of_ble_eq_true rfl), (Nat.le_of_ble_eq_true rfl)⟩ (n := 34) rfl (fun u31 => ?_)
  refine a_putF C o 0 rfl rfl vi_6 tyX7 tyX7_ok nmX7 2 (by decide) (gT_in (tb1 (List.mem_of_getElem? (i := 209) rfl)) rfl) rfl rfl (tyX7_ok 2 (by decide)) ⟨rfl, rfl⟩ (Nat.le_of_ble_eq_true rfl) dX7_init_34 (n := 37) rfl ?_
  refine a_ws (ws1 := ((([(q, .inr (6, [.ref q5, .ref q16, .ref q27, .null, .null, .null, .null, .null, .null, .int 0]))] ++ (oX1 g q5 u9)) ++ (oX1 g q16 u20)) ++ (oX1 g q27 u31))) ?_ rfl
  refine a_aload_n C dX7_init_37 rfl (n := 38) rfl ?_
  refine a_new C (ci := 0) rfl vi_0 tyX0 tyX0_ok (gT_in (tb1 (List.mem_of_getElem? (i := 108) rfl)) rfl) (gT_in (tb1 (List.mem_of_getElem? (i := 109) rfl)) rfl) (gT_in (tb1 (List.mem_of_getElem? (i := 4) rfl)) rfl) (fs := [.null, .null, .int 0, .int 0]) dfX0 ⟨(Nat.le_of_ble_eq_true rfl), (Nat.le_of_ble_eq_true rfl)⟩ dX7_init_38 (n := 41) rfl (fun q38 => ?_)
  refine a_dup C dX7_init_41 rfl (n := 42) rfl ?_
  refine a_callIN C o.ao mi_X0_init ns_X7_24 im_X0_init rfl (c_X0 x.2.1 g q38) rfl rfl (Nat.le_of_ble_eq_true rfl) dX7_init_42 ⟨(Nat.le_of_ble_eq_true rfl), (Nat.le_of_ble_eq_true rfl), (Nat.le_of_ble_eq_true rfl), (Nat.le_of_ble_eq_true rfl)⟩ (n := 45) rfl (fun u42 => ?_)
  refine a_putF C o 0 rfl rfl vi_6 tyX7 tyX7_ok nmX7 3 (by decide) (gT_in (tb1 (List.mem_of_getElem? (i := 210) rfl)) rfl) rfl rfl (tyX7_ok 3 (by decide)) ⟨rfl, rfl⟩ (Nat.le_of_ble_eq_true rfl) dX7_init_45 (n := 48) rfl ?_
  refine a_ws (ws1 := (((([(q, .inr (6, [.ref q5, .ref q16, .ref q27, .ref q38, .null, .null, .null, .null, .null, .int 0]))] ++ (oX1 g q5 u9)) ++ (oX1 g q16 u20)) ++ (oX1 g q27 u31)) ++ (oX0 g q38 u42))) ?_ rfl
  refine a_aload_n C dX7_init_48 rfl (n := 49) rfl ?_
  refine a_new C (ci := 5) rfl vi_5 tyX6 tyX6_ok (gT_in (tb1 (List.mem_of_getElem? (i := 127) rfl)) rfl) (gT_in (tb1 (List.mem_of_getElem? (i := 128) rfl)) rfl) (gT_in (tb1 (List.mem_of_getElem? (i := 5) rfl)) rfl) (fs := [.null, .null]) dfX6 ⟨(Nat.le_of_ble_eq_true rfl), (Nat.le_of_ble_eq_true rfl)⟩ dX7_init_49 (n := 52) rfl (fun q49 => ?_)
  refine a_dup C dX7_init_52 rfl (n := 53) rfl ?_
  refine a_callIN C o.ao mi_X6_init ns_X7_31 im_X6_init rfl (c_X6 x.2.1 g q49) rfl rfl (Nat.le_of_ble_eq_true rfl) dX7_init_53 ⟨(Nat.le_of_ble_eq_true rfl), (Nat.le_of_ble_eq_true rfl), (Nat.le_of_ble_eq_true rfl), (Nat.le_of_ble_eq_true rfl)⟩ (n := 56) rfl (fun u53 => ?_)
  refine a_putF C o 0 rfl rfl vi_6 tyX7 tyX7_ok nmX7 4 (by decide) (gT_in (tb1 (List.mem_of_getElem? (i := 211) rfl)) rfl) rfl rfl (tyX7_ok 4 (by decide)) ⟨rfl, rfl⟩ (Nat.le_of_ble_eq_true rfl) dX7_init_56 (n := 59) rfl ?_
  refine a_ws (ws1 := ((((([(q, .inr (6, [.ref q5, .ref q16, .ref q27, .ref q38, .ref q49, .null, .null, .null, .null, .int 0]))] ++ (oX1 g q5 u9)) ++ (oX1 g q16 u20)) ++ (oX1 g q27 u31)) ++ (oX0 g q38 u42)) ++ (oX6 g q49 u53))) ?_ rfl
  refine a_aload_n C dX7_init_59 rfl (n := 60) rfl ?_
  refine a_new C (ci := 4) rfl vi_4 tyX5 tyX5_ok (gT_in (tb1 (List.mem_of_getElem? (i := 140) rfl)) rfl) (gT_in (tb1 (List.mem_of_getElem? (i := 141) rfl)) rfl) (gT_in (tb1 (List.mem_of_getElem? (i := 6) rfl)) rfl) (fs := [.null, .int 0]) dfX5 ⟨(Nat.le_of_ble_eq_true rfl), (Nat.le_of_ble_eq_true rfl)⟩ dX7_init_60 (n := 63) rfl (fun q60 => ?_)
  refine a_dup C dX7_init_63 rfl (n := 64) rfl ?_
  refine a_callIN C o.ao mi_X5_init ns_X7_38 im_X5_init rfl (c_X5 x.2.1 g q60) rfl rfl (Nat.le_of_ble_eq_true rfl) dX7_init_64 ⟨(Nat.le_of_ble_eq_true rfl), (Nat.le_of_ble_eq_true rfl), (Nat.le_of_ble_eq_true rfl), (Nat.le_of_ble_eq_true rfl)⟩ (n := 67) rfl (fun u64 => ?_)
  refine a_putF C o 0 rfl rfl vi_6 tyX7 tyX7_ok nmX7 5 (by decide) (gT_in (tb1 (List.mem_of_getElem? (i := 212) rfl)) rfl) rfl rfl (tyX7_ok 5 (by decide)) ⟨rfl, rfl⟩ (Nat.le_of_ble_eq_true rfl) dX7_init_67 (n := 70) rfl ?_
  refine a_ws (ws1 := (((((([(q, .inr (6, [.ref q5, .ref q16, .ref q27, .ref q38, .ref q49, .ref q60, .null, .null, .null, .int 0]))] ++ (oX1 g q5 u9)) ++ (oX1 g q16 u20)) ++ (oX1 g q27 u31)) ++ (oX0 g q38 u42)) ++ (oX6 g q49 u53)) ++ (oX5 g q60 u64))) ?_ rfl
  refine a_aload_n C dX7_init_70 rfl (n := 71) rfl ?_
  refine a_new C (ci := 2) rfl vi_2 tyX3 tyX3_ok (gT_in (tb1 (List.mem_of_getElem? (i := 157) rfl)) rfl) (gT_in (tb1 (List.mem_of_getElem? (i := 158) rfl)) rfl) (gT_in (tb1 (List.mem_of_getElem? (i := 7) rfl)) rfl) (fs := [.null, .null, .null, .null, .null, .int 0, .int 0]) dfX3 ⟨(Nat.le_of_ble_eq_true rfl), (Nat.le_of_ble_eq_true rfl)⟩ dX7_init_71 (n := 74) rfl (fun q71 => ?_)
  refine a_dup C dX7_init_74 rfl (n := 75) rfl ?_
  refine a_aload_n C dX7_init_75 rfl (n := 76) rfl ?_
  refine a_get C 0 rfl rfl vi_6 5 (by decide) (gT_in (tb1 (List.mem_of_getElem? (i := 212) rfl)) rfl) rfl dX7_init_76 (n := 79) rfl ?_
  refine a_aload_n C dX7_init_79 rfl (n := 80) rfl ?_
  refine a_get C 0 rfl rfl vi_6 2 (by decide) (gT_in (tb1 (List.mem_of_getElem? (i := 209) rfl)) rfl) rfl dX7_init_80 (n := 83) rfl ?_
  refine a_callI C o.ao mi_X3_init (gT_in (tb1 (List.mem_of_getElem? (i := 159) rfl)) rfl) im_X3_init rfl (c_X3 x.2.1 g q71 q60 q27) rfl rfl (Nat.le_of_ble_eq_true rfl) dX7_init_83 ⟨(Nat.le_of_ble_eq_true rfl), (Nat.le_of_ble_eq_true rfl), (Nat.le_of_ble_eq_true rfl), (Nat.le_of_ble_eq_true rfl)⟩ (n := 86) rfl (fun u83 => ?_)
  refine a_putF C o 0 rfl rfl vi_6 tyX7 tyX7_ok nmX7 6 (by decide) (gT_in (tb1 (List.mem_of_getElem? (i := 213) rfl)) rfl) rfl rfl (tyX7_ok 6 (by decide)) ⟨rfl, rfl⟩ (Nat.le_of_ble_eq_true rfl) dX7_init_86 (n := 89) rfl ?_
  refine a_ws (ws1 := ((((((([(q, .inr (6, [.ref q5, .ref q16, .ref q27, .ref q38, .ref q49, .ref q60, .ref q71, .null, .null, .int 0]))] ++ (oX1 g q5 u9)) ++ (oX1 g q16 u20)) ++ (oX1 g q27 u31)) ++ (oX0 g q38 u42)) ++ (oX6 g q49 u53)) ++ (oX5 g q60 u64)) ++ (oX3 g q71 q60 q27 u83))) ?_ rfl
  refine a_aload_n C dX7_init_89 rfl (n := 90) rfl ?_
  refine a_iconst C dX7_init_90 (v := 4) (by decide) (n := 91) rfl ?_
  refine a_newq C (t0 := 2) (fun s h => (o.ao s h).1) rfl (gT_in (tb1 (List.mem_of_getElem? (i := 185) rfl)) rfl) (N := 4) ⟨by decide, by decide, by decide⟩ ⟨(Nat.le_of_ble_eq_true rfl), (Nat.le_of_ble_eq_true rfl)⟩ dX7_init_91 (n := 94) rfl (fun q91 => ?_)
  refine a_putF C o 0 rfl rfl vi_6 tyX7 tyX7_ok nmX7 7 (by decide) (gT_in (tb1 (List.mem_of_getElem? (i := 214) rfl)) rfl) rfl rfl (tyX7_ok 7 (by decide)) ⟨rfl, rfl⟩ (Nat.le_of_ble_eq_true rfl) dX7_init_94 (n := 97) rfl ?_
  refine a_ws (ws1 := (((((((([(q, .inr (6, [.ref q5, .ref q16, .ref q27, .ref q38, .ref q49, .ref q60, .ref q71, .ref q91, .null, .int 0]))] ++ (oX1 g q5 u9)) ++ (oX1 g q16 u20)) ++ (oX1 g q27 u31)) ++ (oX0 g q38 u42)) ++ (oX6 g q49 u53)) ++ (oX5 g q60 u64)) ++ (oX3 g q71 q60 q27 u83)) ++ [(q91, .inl (g.2.2.1 2, 4, .inr (.inr (.inr (.inr (fun _ => none))))))])) ?_ rfl
  refine a_aload_n C dX7_init_97 rfl (n := 98) rfl ?_
  refine a_bipush C dX7_init_98 (v := 7) (by decide) (n := 100) rfl ?_
  refine a_newa C acI (N := 7) ⟨by decide, by decide, by decide⟩ ⟨(Nat.le_of_ble_eq_true rfl), (Nat.le_of_ble_eq_true rfl)⟩ dX7_init_100 (n := 102) rfl (fun q100 => ?_)
  refine a_putF C o 0 rfl rfl vi_6 tyX7 tyX7_ok nmX7 8 (by decide) (gT_in (tb1 (List.mem_of_getElem? (i := 215) rfl)) rfl) rfl rfl (tyX7_ok 8 (by decide)) ⟨rfl, rfl⟩ (Nat.le_of_ble_eq_true rfl) dX7_init_102 (n := 105) rfl ?_
  refine a_ws (ws1 := ((((((((([(q, .inr (6, [.ref q5, .ref q16, .ref q27, .ref q38, .ref q49, .ref q60, .ref q71, .ref q91, .ref q100, .int 0]))] ++ (oX1 g q5 u9)) ++ (oX1 g q16 u20)) ++ (oX1 g q27 u31)) ++ (oX0 g q38 u42)) ++ (oX6 g q49 u53)) ++ (oX5 g q60 u64)) ++ (oX3 g q71 q60 q27 u83)) ++ [(q91, .inl (g.2.2.1 2, 4, .inr (.inr (.inr (.inr (fun _ => none))))))]) ++ [(q100, .inl (g.2.2.1 0, 7, .inl (fun _ => 0)))])) ?_ rfl
  refine a_iconst C dX7_init_105 (v := 0) (by decide) (n := 106) rfl ?_
  refine a_istore_n C dX7_init_106 (Nat.le_of_ble_eq_true rfl) (n := 107) rfl ?_
  refine a_iload_n C dX7_init_107 rfl (n := 108) rfl ?_
  refine a_iconst C dX7_init_108 (v := 4) (by decide) (n := 109) rfl ?_
  refine a_icmp_ge C dX7_init_109 (tgt := 131) (by decide) (n := 112) rfl (fun q => absurd q (by decide)) (fun _ => ?_)
  refine a_aload_n C dX7_init_112 rfl (n := 113) rfl ?_
  refine a_get C 0 rfl rfl vi_6 7 (by decide) (gT_in (tb1 (List.mem_of_getElem? (i := 214) rfl)) rfl) rfl dX7_init_113 (n := 116) rfl ?_
  refine a_iload_n C dX7_init_116 rfl (n := 117) rfl ?_
  refine a_new C (ci := 3) rfl vi_3 tyX4 tyX4_ok (gT_in (tb1 (List.mem_of_getElem? (i := 185) rfl)) rfl) (gT_in (tb1 (List.mem_of_getElem? (i := 187) rfl)) rfl) (gT_in (tb1 (List.mem_of_getElem? (i := 8) rfl)) rfl) (fs := [.null, .int 0, .int 0]) dfX4 ⟨(Nat.le_of_ble_eq_true rfl), (Nat.le_of_ble_eq_true rfl)⟩ dX7_init_117 (n := 120) rfl (fun q117 => ?_)
  refine a_dup C dX7_init_120 rfl (n := 121) rfl ?_
  refine a_callIN C o.ao mi_X4_init ns_X7_62 im_X4_init rfl (c_X4 x.2.1 g q117) rfl rfl (Nat.le_of_ble_eq_true rfl) dX7_init_121 ⟨(Nat.le_of_ble_eq_true rfl), (Nat.le_of_ble_eq_true rfl), (Nat.le_of_ble_eq_true rfl), (Nat.le_of_ble_eq_true rfl)⟩ (n := 124) rfl (fun u121 => ?_)
  refine a_aast C 46 2 48 3 rfl rfl rfl rfl rfl dX7_init_124 (n := 125) rfl ?_
  refine a_ws (ws1 := (((((((((([(q, .inr (6, [.ref q5, .ref q16, .ref q27, .ref q38, .ref q49, .ref q60, .ref q71, .ref q91, .ref q100, .int 0]))] ++ (oX1 g q5 u9)) ++ (oX1 g q16 u20)) ++ (oX1 g q27 u31)) ++ (oX0 g q38 u42)) ++ (oX6 g q49 u53)) ++ (oX5 g q60 u64)) ++ (oX3 g q71 q60 q27 u83)) ++ [(q91, .inl (g.2.2.1 2, 4, .inr (.inr (.inr (.inr (va_up (fun _ => none) 0 (some q117)))))))]) ++ [(q100, .inl (g.2.2.1 0, 7, .inl (fun _ => 0)))]) ++ (oX4 g q117 u121))) ?_ rfl
  refine a_iinc C dX7_init_125 rfl (c1 := 1) (by decide) (Nat.le_of_ble_eq_true rfl) (n := 128) rfl ?_
  refine a_to (L1 := [some (.ref q), some (.int 1)]) ?_ ⟨rfl, ⟨rfl, trivial⟩⟩
  refine a_goto C dX7_init_128 (n := 107) (by decide) ?_
  refine a_iload_n C dX7_init_107 rfl (n := 108) rfl ?_
  refine a_iconst C dX7_init_108 (v := 4) (by decide) (n := 109) rfl ?_
  refine a_icmp_ge C dX7_init_109 (tgt := 131) (by decide) (n := 112) rfl (fun q => absurd q (by decide)) (fun _ => ?_)
  refine a_aload_n C dX7_init_112 rfl (n := 113) rfl ?_
  refine a_get C 0 rfl rfl vi_6 7 (by decide) (gT_in (tb1 (List.mem_of_getElem? (i := 214) rfl)) rfl) rfl dX7_init_113 (n := 116) rfl ?_
  refine a_iload_n C dX7_init_116 rfl (n := 117) rfl ?_
  refine a_new C (ci := 3) rfl vi_3 tyX4 tyX4_ok (gT_in (tb1 (List.mem_of_getElem? (i := 185) rfl)) rfl) (gT_in (tb1 (List.mem_of_getElem? (i := 187) rfl)) rfl) (gT_in (tb1 (List.mem_of_getElem? (i := 8) rfl)) rfl) (fs := [.null, .int 0, .int 0]) dfX4 ⟨(Nat.le_of_ble_eq_true rfl), (Nat.le_of_ble_eq_true rfl)⟩ dX7_init_117 (n := 120) rfl (fun q117_1 => ?_)
  refine a_dup C dX7_init_120 rfl (n := 121) rfl ?_
  refine a_callIN C o.ao mi_X4_init ns_X7_62 im_X4_init rfl (c_X4 x.2.1 g q117_1) rfl rfl (Nat.le_of_ble_eq_true rfl) dX7_init_121 ⟨(Nat.le_of_ble_eq_true rfl), (Nat.le_of_ble_eq_true rfl), (Nat.le_of_ble_eq_true rfl), (Nat.le_of_ble_eq_true rfl)⟩ (n := 124) rfl (fun u121_1 => ?_)
  refine a_aast C 46 2 50 3 rfl rfl rfl rfl rfl dX7_init_124 (n := 125) rfl ?_
  refine a_ws (ws1 := ((((((((((([(q, .inr (6, [.ref q5, .ref q16, .ref q27, .ref q38, .ref q49, .ref q60, .ref q71, .ref q91, .ref q100, .int 0]))] ++ (oX1 g q5 u9)) ++ (oX1 g q16 u20)) ++ (oX1 g q27 u31)) ++ (oX0 g q38 u42)) ++ (oX6 g q49 u53)) ++ (oX5 g q60 u64)) ++ (oX3 g q71 q60 q27 u83)) ++ [(q91, .inl (g.2.2.1 2, 4, .inr (.inr (.inr (.inr (va_up (va_up (fun _ => none) 0 (some q117)) 1 (some q117_1)))))))]) ++ [(q100, .inl (g.2.2.1 0, 7, .inl (fun _ => 0)))]) ++ (oX4 g q117 u121)) ++ (oX4 g q117_1 u121_1))) ?_ rfl
  refine a_iinc C dX7_init_125 rfl (c1 := 1) (by decide) (Nat.le_of_ble_eq_true rfl) (n := 128) rfl ?_
  refine a_to (L1 := [some (.ref q), some (.int 2)]) ?_ ⟨rfl, ⟨rfl, trivial⟩⟩
  refine a_goto C dX7_init_128 (n := 107) (by decide) ?_
  refine a_iload_n C dX7_init_107 rfl (n := 108) rfl ?_
  refine a_iconst C dX7_init_108 (v := 4) (by decide) (n := 109) rfl ?_
  refine a_icmp_ge C dX7_init_109 (tgt := 131) (by decide) (n := 112) rfl (fun q => absurd q (by decide)) (fun _ => ?_)
  refine a_aload_n C dX7_init_112 rfl (n := 113) rfl ?_
  refine a_get C 0 rfl rfl vi_6 7 (by decide) (gT_in (tb1 (List.mem_of_getElem? (i := 214) rfl)) rfl) rfl dX7_init_113 (n := 116) rfl ?_
  refine a_iload_n C dX7_init_116 rfl (n := 117) rfl ?_
  refine a_new C (ci := 3) rfl vi_3 tyX4 tyX4_ok (gT_in (tb1 (List.mem_of_getElem? (i := 185) rfl)) rfl) (gT_in (tb1 (List.mem_of_getElem? (i := 187) rfl)) rfl) (gT_in (tb1 (List.mem_of_getElem? (i := 8) rfl)) rfl) (fs := [.null, .int 0, .int 0]) dfX4 ⟨(Nat.le_of_ble_eq_true rfl), (Nat.le_of_ble_eq_true rfl)⟩ dX7_init_117 (n := 120) rfl (fun q117_2 => ?_)
  refine a_dup C dX7_init_120 rfl (n := 121) rfl ?_
  refine a_callIN C o.ao mi_X4_init ns_X7_62 im_X4_init rfl (c_X4 x.2.1 g q117_2) rfl rfl (Nat.le_of_ble_eq_true rfl) dX7_init_121 ⟨(Nat.le_of_ble_eq_true rfl), (Nat.le_of_ble_eq_true rfl), (Nat.le_of_ble_eq_true rfl), (Nat.le_of_ble_eq_true rfl)⟩ (n := 124) rfl (fun u121_2 => ?_)
  refine a_aast C 46 2 52 3 rfl rfl rfl rfl rfl dX7_init_124 (n := 125) rfl ?_
  refine a_ws (ws1 := (((((((((((([(q, .inr (6, [.ref q5, .ref q16, .ref q27, .ref q38, .ref q49, .ref q60, .ref q71, .ref q91, .ref q100, .int 0]))] ++ (oX1 g q5 u9)) ++ (oX1 g q16 u20)) ++ (oX1 g q27 u31)) ++ (oX0 g q38 u42)) ++ (oX6 g q49 u53)) ++ (oX5 g q60 u64)) ++ (oX3 g q71 q60 q27 u83)) ++ [(q91, .inl (g.2.2.1 2, 4, .inr (.inr (.inr (.inr (va_up (va_up (va_up (fun _ => none) 0 (some q117)) 1 (some q117_1)) 2 (some q117_2)))))))]) ++ [(q100, .inl (g.2.2.1 0, 7, .inl (fun _ => 0)))]) ++ (oX4 g q117 u121)) ++ (oX4 g q117_1 u121_1)) ++ (oX4 g q117_2 u121_2))) ?_ rfl
  refine a_iinc C dX7_init_125 rfl (c1 := 1) (by decide) (Nat.le_of_ble_eq_true rfl) (n := 128) rfl ?_
  refine a_to (L1 := [some (.ref q), some (.int 3)]) ?_ ⟨rfl, ⟨rfl, trivial⟩⟩
  refine a_goto C dX7_init_128 (n := 107) (by decide) ?_
  refine a_iload_n C dX7_init_107 rfl (n := 108) rfl ?_
  refine a_iconst C dX7_init_108 (v := 4) (by decide) (n := 109) rfl ?_
  refine a_icmp_ge C dX7_init_109 (tgt := 131) (by decide) (n := 112) rfl (fun q => absurd q (by decide)) (fun _ => ?_)
  refine a_aload_n C dX7_init_112 rfl (n := 113) rfl ?_
  refine a_get C 0 rfl rfl vi_6 7 (by decide) (gT_in (tb1 (List.mem_of_getElem? (i := 214) rfl)) rfl) rfl dX7_init_113 (n := 116) rfl ?_
  refine a_iload_n C dX7_init_116 rfl (n := 117) rfl ?_
  refine a_new C (ci := 3) rfl vi_3 tyX4 tyX4_ok (gT_in (tb1 (List.mem_of_getElem? (i := 185) rfl)) rfl) (gT_in (tb1 (List.mem_of_getElem? (i := 187) rfl)) rfl) (gT_in (tb1 (List.mem_of_getElem? (i := 8) rfl)) rfl) (fs := [.null, .int 0, .int 0]) dfX4 ⟨(Nat.le_of_ble_eq_true rfl), (Nat.le_of_ble_eq_true rfl)⟩ dX7_init_117 (n := 120) rfl (fun q117_3 => ?_)
  refine a_dup C dX7_init_120 rfl (n := 121) rfl ?_
  refine a_callIN C o.ao mi_X4_init ns_X7_62 im_X4_init rfl (c_X4 x.2.1 g q117_3) rfl rfl (Nat.le_of_ble_eq_true rfl) dX7_init_121 ⟨(Nat.le_of_ble_eq_true rfl), (Nat.le_of_ble_eq_true rfl), (Nat.le_of_ble_eq_true rfl), (Nat.le_of_ble_eq_true rfl)⟩ (n := 124) rfl (fun u121_3 => ?_)
  refine a_aast C 46 2 54 3 rfl rfl rfl rfl rfl dX7_init_124 (n := 125) rfl ?_
  refine a_ws (ws1 := ((((((((((((([(q, .inr (6, [.ref q5, .ref q16, .ref q27, .ref q38, .ref q49, .ref q60, .ref q71, .ref q91, .ref q100, .int 0]))] ++ (oX1 g q5 u9)) ++ (oX1 g q16 u20)) ++ (oX1 g q27 u31)) ++ (oX0 g q38 u42)) ++ (oX6 g q49 u53)) ++ (oX5 g q60 u64)) ++ (oX3 g q71 q60 q27 u83)) ++ [(q91, .inl (g.2.2.1 2, 4, .inr (.inr (.inr (.inr (va_up (va_up (va_up (va_up (fun _ => none) 0 (some q117)) 1 (some q117_1)) 2 (some q117_2)) 3 (some q117_3)))))))]) ++ [(q100, .inl (g.2.2.1 0, 7, .inl (fun _ => 0)))]) ++ (oX4 g q117 u121)) ++ (oX4 g q117_1 u121_1)) ++ (oX4 g q117_2 u121_2)) ++ (oX4 g q117_3 u121_3))) ?_ rfl
  refine a_iinc C dX7_init_125 rfl (c1 := 1) (by decide) (Nat.le_of_ble_eq_true rfl) (n := 128) rfl ?_
  refine a_to (L1 := [some (.ref q), some (.int 4)]) ?_ ⟨rfl, ⟨rfl, trivial⟩⟩
  refine a_goto C dX7_init_128 (n := 107) (by decide) ?_
  refine a_iload_n C dX7_init_107 rfl (n := 108) rfl ?_
  refine a_iconst C dX7_init_108 (v := 4) (by decide) (n := 109) rfl ?_
  refine a_icmp_ge C dX7_init_109 (tgt := 131) (by decide) (n := 112) rfl (fun _ => ?_) (fun q => absurd (by decide) q)
  refine a_cell 46 (y1 := (4, .inr (.inr (.inr (.inr (fun j => some (([q117, q117_1, q117_2, q117_3] : List Nat).getD j 0))))))) rfl ?_ ?_
  · rw [vp_cell_q, vp_cell_q]
    refine arrV_cg (fun j hj => ?_)
    rcases (show j = 0 ∨ j = 1 ∨ j = 2 ∨ j = 3 by omega) with rfl | rfl | rfl | rfl <;> rfl
  refine a_ws (ws1 := ((((((((((((([(q, .inr (6, [.ref q5, .ref q16, .ref q27, .ref q38, .ref q49, .ref q60, .ref q71, .ref q91, .ref q100, .int 0]))] ++ (oX1 g q5 u9)) ++ (oX1 g q16 u20)) ++ (oX1 g q27 u31)) ++ (oX0 g q38 u42)) ++ (oX6 g q49 u53)) ++ (oX5 g q60 u64)) ++ (oX3 g q71 q60 q27 u83)) ++ [(q91, .inl (g.2.2.1 2, 4, .inr (.inr (.inr (.inr (fun j => some (([q117, q117_1, q117_2, q117_3] : List Nat).getD j 0)))))))]) ++ [(q100, .inl (g.2.2.1 0, 7, .inl (fun _ => 0)))]) ++ (oX4 g q117 u121)) ++ (oX4 g q117_1 u121_1)) ++ (oX4 g q117_2 u121_2)) ++ (oX4 g q117_3 u121_3))) ?_ rfl
  refine a_cell 46 (y1 := (4, .inr (.inr (.inr (.inr (shA (g.1, adr q (fun k => ([q5, (u9 0), (u9 1), (u9 2), (u9 3), (u9 4), (u9 5), (u9 6), (u9 7), (u9 8), (u9 9), q16, (u20 0), (u20 1), (u20 2), (u20 3), (u20 4), (u20 5), (u20 6), (u20 7), (u20 8), (u20 9), q27, (u31 0), (u31 1), (u31 2), (u31 3), (u31 4), (u31 5), (u31 6), (u31 7), (u31 8), (u31 9), q38, (u42 0), (u42 1), q49, (u53 0), (u53 1), q60, (u64 0), q71, (u83 0), (u83 1), (u83 2), q91, q117, (u121 0), q117_1, (u121_1 0), q117_2, (u121_2 0), q117_3, (u121_3 0), q100] : List Nat).getD k 0), g.2.2))))))) rfl ?_ ?_
  · rw [vp_cell_q, vp_cell_q]
    refine arrV_cg (fun j hj => ?_)
    rcases (show j = 0 ∨ j = 1 ∨ j = 2 ∨ j = 3 by omega) with rfl | rfl | rfl | rfl <;> rfl
  refine a_sub (ws1 := cwX (g.1, adr q (fun k => ([q5, (u9 0), (u9 1), (u9 2), (u9 3), (u9 4), (u9 5), (u9 6), (u9 7), (u9 8), (u9 9), q16, (u20 0), (u20 1), (u20 2), (u20 3), (u20 4), (u20 5), (u20 6), (u20 7), (u20 8), (u20 9), q27, (u31 0), (u31 1), (u31 2), (u31 3), (u31 4), (u31 5), (u31 6), (u31 7), (u31 8), (u31 9), q38, (u42 0), (u42 1), q49, (u53 0), (u53 1), q60, (u64 0), q71, (u83 0), (u83 1), (u83 2), q91, q117, (u121 0), q117_1, (u121_1 0), q117_2, (u121_2 0), q117_3, (u121_3 0), q100] : List Nat).getD k 0), g.2.2) hX0) [0, 1, 2, 3, 4, 5, 6, 7, 8, 9, 10, 11, 12, 13, 14, 15, 16, 17, 18, 19, 20, 21, 22, 23, 24, 25, 26, 27, 28, 29, 30, 31, 32, 33, 34, 35, 36, 37, 38, 39, 40, 41, 42, 43, 44, 45, 46, 48, 49, 50, 51, 52, 53, 54, 55, 47] (by decide) rfl ?_
  exact a_retC C (fun k => ([q5, (u9 0), (u9 1), (u9 2), (u9 3), (u9 4), (u9 5), (u9 6), (u9 7), (u9 8), (u9 9), q16, (u20 0), (u20 1), (u20 2), (u20 3), (u20 4), (u20 5), (u20 6), (u20 7), (u20 8), (u20 9), q27, (u31 0), (u31 1), (u31 2), (u31 3), (u31 4), (u31 5), (u31 6), (u31 7), (u31 8), (u31 9), q38, (u42 0), (u42 1), q49, (u53 0), (u53 1), q60, (u64 0), q71, (u83 0), (u83 1), (u83 2), q91, q117, (u121 0), q117_1, (u121_1 0), q117_2, (u121_2 0), q117_3, (u121_3 0), q100] : List Nat).getD k 0) dX7_init_131 rfl
