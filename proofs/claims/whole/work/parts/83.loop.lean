theorem and63 (x : Int32) : ∃ w, w < 64 ∧ x &&& 63 = nI w := by
  have h : (x &&& 63).toBitVec.toNat < 64 := by
    rw [Int32.toBitVec_and, BitVec.toNat_and]
    have e : (63 : Int32).toBitVec.toNat = 63 := by decide
    rw [e]
    exact Nat.lt_of_le_of_lt Nat.and_le_right (by decide)
  refine ⟨(x &&& 63).toBitVec.toNat, h, ?_⟩
  rw [ti_eq, ti_nI (by omega)]
  exact BitVec.toInt_eq_toNat_of_lt (by omega)
theorem law_loop {x : Fx} {Q : State → Prop} {ret : Option FieldType} {kc ks : Nat} {D : va_G} {ax am : Nat → Nat} {rs : (Nat → ClassId) × (Nat → Nat) × (Nat → Nat) × (Nat → Nat)} {b Ln : Nat} {xs : Nat → Int32} (C : Ok x (D, ax, rs) RL cL_law 4 ret) (X : LX x b Ln xs) (hl : Ln ≤ 3072) (hc : kc ≤ 600000 ∧ ks ≤ 7302249) (hE : ∀ (L : List (Option Value)) (ws : va_W), JA x (D, ax, rs) room_1 4 Q 1557 L [] ws kc ks) : ∀ (d t : Nat) (hx hm : Hp), R hx hm → Ln ≤ t + d → t ≤ Ln + 6 → JA x (D, ax, rs) room_1 4 Q 18 [some (.ref b), some (.ref (ax 0)), some (.ref (am 0)), some (.int (nI t))] [] (cwX (D, ax, rs) hx ++ cwM (D, am, rs) hm) kc ks := by
  intro d
  induction d with
  | zero =>
    intro t hx hm hR hd ht
    refine a_iload_n C dL_law_18 rfl (n := 19) rfl ?_
    refine a_aload_n C dL_law_19 rfl (n := 20) rfl ?_
    refine a_slen C X dL_law_20 (n := 21) rfl ?_
    refine a_bipush C dL_law_21 (v := 6) (by decide) (n := 23) rfl ?_
    refine a_isub C dL_law_23 (n := 24) rfl ?_
    refine a_icmp_gt C dL_law_24 (tgt := 1557) (by decide) (n := 27) rfl (fun q => hE _ _) (fun q => ?_)
    exfalso
    apply q
    rw [ti_lt, show (6 : Int32) = nI 6 from rfl, pk_sub_toInt (by omega) (by omega), ti_nI (by omega)]
    omega
  | succ d ih =>
    intro t hx hm hR hd ht
    refine a_iload_n C dL_law_18 rfl (n := 19) rfl ?_
    refine a_aload_n C dL_law_19 rfl (n := 20) rfl ?_
    refine a_slen C X dL_law_20 (n := 21) rfl ?_
    refine a_bipush C dL_law_21 (v := 6) (by decide) (n := 23) rfl ?_
    refine a_isub C dL_law_23 (n := 24) rfl ?_
    refine a_icmp_gt C dL_law_24 (tgt := 1557) (by decide) (n := 27) rfl (fun q => hE _ _) (fun q => ?_)
    rw [ti_lt, show (6 : Int32) = nI 6 from rfl, pk_sub_toInt (by omega) (by omega), ti_nI (by omega)] at q
    have ht6 : t + 6 ≤ Ln := by omega
    refine a_aload_n C dL_law_27 rfl (n := 28) rfl ?_
    refine a_iload_n C dL_law_28 rfl (n := 29) rfl ?_
    refine a_sld C X rfl (by omega) (by omega) dL_law_29 (n := 30) rfl ?_
    refine a_bipush C dL_law_30 (v := 63) (by decide) (n := 32) rfl ?_
    refine a_iand C dL_law_32 (n := 33) rfl ?_
    obtain ⟨w, hw, hv⟩ := and63 (xs t)
    refine lc_all C X (by omega) ht6 hc hR (fun hx1 hm1 hR1 => ?_) hw hv
    refine a_iinc C dL_law_1551 rfl (c1 := 6) (by decide) (Nat.le_of_ble_eq_true rfl) (n := 1554) rfl ?_
    refine a_goto C dL_law_1554 (n := 18) (by decide) ?_
    refine a_to (ih (t + 6) hx1 hm1 hR1 (by omega) (by omega)) ⟨rfl, ⟨rfl, ⟨rfl, ⟨?_, trivial⟩⟩⟩⟩
    rw [show nI t + 6 = nI (t + 6) from nI_add t 6]
