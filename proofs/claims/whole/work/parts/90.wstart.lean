theorem ll_9 : Cond.methodLink RL 9 yX7_init ∈ gT := gT_in (tb1 (List.mem_of_getElem? (i := 20) rfl)) rfl
theorem ll_12 : Cond.methodLink RL 12 yX8_init ∈ gT := gT_in (tb4 (List.mem_of_getElem? (i := 164) rfl)) rfl
/-- YOUR PART: from the entry, for every script of at most 3072 ints, the law comes to its end with true ('hflags': the launch's flags, for a law that throws: no stack traces) -/
theorem whole_start {p : Program} {e : Env} {s : State} {m : MethodId} {below : List Frame} {meth : Method} {c : Code} (l : Launch) (hflags : l.flags = flags0) {b L : Nat} {xs : Nat → Int32} (hL : L ≤ 3072) (C0 : lw_At p s m meth c b L xs) : W p l e room_1 s m #[Value.ref b] below meth c s.heap [] 0 0 (lw_Z below #[Value.ref b] s) (entryFrame m ([Value.ref b] : List Value).toArray 4) := by
  obtain ⟨h1, h2, h3, h4, h5, hts, hX, hb, hlk, hgv⟩ := C0
  obtain ⟨D, rs, hKS⟩ := start_ok hts hgv
  have C : ∀ a : Nat → Nat, Ok (p, l, e, s, m, #[Value.ref b], below, meth, c, fun q => s.heap.size ≤ q) (D, a, rs) RL cL_law 4 ret := fun a => ⟨h1, h2, h4, h3, h5, fun w hw => hts w (gT_tbl hw), hlk, (hKS a).1, fun q hq => hq, (hKS a).2⟩
  have X : LX (p, l, e, s, m, #[Value.ref b], below, meth, c, fun q => s.heap.size ≤ q) b L xs := ⟨hX, hb, fun q => by have : s.heap.size ≤ b := q; omega⟩
  have ao : ∀ s1, ((p, l, e, s, m, #[Value.ref b], below, meth, c, fun q => s.heap.size ≤ q) : Fx).2.2.2.1 = s1 → va_AO "SameHeads$Sheet" s1 ∧ va_AO "java/lang/String" s1 := fun s1 h => by
    have h : s = s1 := h
    subst h
    exact ⟨va_AO.of (hts _ tb_ar.2.2.1), va_AO.of (hts _ tb_ar.2.2.2)⟩
  have hE : ∀ (a : Nat → Nat) (kc ks : Nat), kc ≤ 600000 ∧ ks ≤ 7302249 → ∀ (L1 : List (Option Value)) (ws : va_W), JA (p, l, e, s, m, #[Value.ref b], below, meth, c, fun q => s.heap.size ≤ q) (D, a, rs) room_1 4 (lw_Z below #[Value.ref b] s) 1557 L1 [] ws kc ks := by
    intro a kc ks hc L1 ws
    refine a_iconst (C a) dL_law_1557 (v := 1) (by decide) (n := 1558) rfl ?_
    intro H locs ls hP hD hS hL1
    refine va_forget (fun q hq => hS.2.2 q hq) ?_
    refine W.widen hc.1 hc.2 ?_
    exact lw_ret h1 h2 h3 hlk dL_law_1558
  have K : JA (p, l, e, s, m, #[Value.ref b], below, meth, c, fun q => s.heap.size ≤ q) (D, (fun _ => 0), rs) room_1 4 (lw_Z below #[Value.ref b] s) 0 [some (.ref b)] [] [] 0 0 := by
    refine a_new (C _) (ci := 6) rfl vi_6 tyX7 tyX7_ok (gT_in (tb1 (List.mem_of_getElem? (i := 18) rfl)) rfl) (gT_in (tb1 (List.mem_of_getElem? (i := 19) rfl)) rfl) (gT_in (tb1 (List.mem_of_getElem? (i := 1) rfl)) rfl) (fs := [.null, .null, .null, .null, .null, .null, .null, .null, .null, .int 0]) dfX7 ⟨(Nat.le_of_ble_eq_true rfl), (Nat.le_of_ble_eq_true rfl)⟩ dL_law_0 (n := 3) rfl (fun q => ?_)
    refine a_dup (C _) dL_law_3 rfl (n := 4) rfl ?_
    refine a_callI (C _) ao mi_X7_init ll_9 im_X7_init rfl (c_X7 l (D, (fun _ => 0), rs) q) rfl rfl (Nat.le_of_ble_eq_true rfl) dL_law_4 ⟨(Nat.le_of_ble_eq_true rfl), (Nat.le_of_ble_eq_true rfl), (Nat.le_of_ble_eq_true rfl), (Nat.le_of_ble_eq_true rfl)⟩ (n := 7) rfl (fun u => ?_)
    refine a_astore_n (C _) dL_law_7 (Nat.le_of_ble_eq_true rfl) (n := 8) rfl ?_
    refine a_new (C _) (ci := 7) rfl vi_7 tyX8 tyX8_ok (gT_in (tb4 (List.mem_of_getElem? (i := 162) rfl)) rfl) (gT_in (tb4 (List.mem_of_getElem? (i := 163) rfl)) rfl) (gT_in (tb1 (List.mem_of_getElem? (i := 9) rfl)) rfl) (fs := [.null, .null, .null, .int 0, .null, .null, .int 0, .int 0, .int 0, .null, .int 0, .int 0, .int 0, .int 0, .int 0, .int 0, .null, .null, .int 0, .int 0, .null, .null, .null, .null]) dfX8 ⟨(Nat.le_of_ble_eq_true rfl), (Nat.le_of_ble_eq_true rfl)⟩ dL_law_8 (n := 11) rfl (fun q2 => ?_)
    refine a_dup (C _) dL_law_11 rfl (n := 12) rfl ?_
    refine a_callI (C _) ao mi_X8_init ll_12 im_X8_init rfl (c_X8 l (D, (fun _ => 0), rs) q2) rfl rfl (Nat.le_of_ble_eq_true rfl) dL_law_12 ⟨(Nat.le_of_ble_eq_true rfl), (Nat.le_of_ble_eq_true rfl), (Nat.le_of_ble_eq_true rfl), (Nat.le_of_ble_eq_true rfl)⟩ (n := 15) rfl (fun u2 => ?_)
    refine a_astore_n (C _) dL_law_15 (Nat.le_of_ble_eq_true rfl) (n := 16) rfl ?_
    refine a_iconst (C _) dL_law_16 (v := 0) (by decide) (n := 17) rfl ?_
    refine a_istore_n (C _) dL_law_17 (Nat.le_of_ble_eq_true rfl) (n := 18) rfl ?_
    have lp := law_loop (ax := adr q u) (am := adr q2 u2) (kc := 0 + 1 + 55 + 1 + 12) (ks := 0 + 10 + 1260 + 24 + 8342) (C (adr q u)) X hL ⟨by decide, by decide⟩ (fun L1 ws => hE (adr q u) _ _ ⟨by decide, by decide⟩ L1 ws) L 0 hX0 hM0 R0 (by omega) (by omega)
    exact a_to lp ⟨rfl, ⟨rfl, ⟨rfl, ⟨rfl, trivial⟩⟩⟩⟩
  rw [lg_entry_eq]
  exact K s.heap [] _ (fun k q h => by simp at h) ⟨fun i j p q h => by simp at h, fun k q h => by simp at h⟩ va_S.rf (hasL_entry [Value.ref b] (fun v hv => by rw [List.mem_singleton.mp hv]; rfl) (Nat.le_of_ble_eq_true rfl))
