/-! what holds at the law's entry -/
abbrev gvN : Cond := Jvm.Cond.and given_1 narrow_1
def tmS (i : Nat) : Term := .string "SameHeads$Reader" (([115, 103, 105, 107, 109, 111, 113, 121, 129, 133, 88, 151, 93, 98] : List Nat).getD i 0)
theorem gv_ex : ∀ i, i < 14 → Cond.exactly (tmS i) "java/lang/String" ∈ flatC gvN := by decide +kernel
theorem gv_co : ∀ i, i < 14 → Cond.eq (.field (tmS i) "java/lang/String" "coder" "B") (.int 0) ∈ flatC gvN := by decide +kernel
theorem gv_ar : ∀ i, i < 14 → Cond.arrayOf (.field (tmS i) "java/lang/String" "value" "[B") .byte ∈ flatC gvN := by decide +kernel
theorem gv_le : ∀ i, i < 14 → Cond.eq (.length (.field (tmS i) "java/lang/String" "value" "[B")) (.int (Int32.ofNat (stL.getD i 0))) ∈ flatC gvN := by decide +kernel
theorem gv_el : ∀ i, i < 14 → ∀ j, j < stL.getD i 0 → Cond.eq (.elem (.field (tmS i) "java/lang/String" "value" "[B") (.int (Int32.ofNat j))) (.int ((stB.getD i []).getD j 0)) ∈ flatC gvN := by decide +kernel
theorem gv_eq : ∀ q ∈ stR, Term.string q.1 q.2.1 = tmS q.2.2.2 ∨ Cond.eq (tmS q.2.2.2) (.string q.1 q.2.1) ∈ flatC gvN := by decide +kernel
theorem gv_si : ∀ q ∈ stR, q.2.2.2 < 14 := by decide +kernel
theorem tb_sr : ∀ q ∈ stR, Cond.stringRef q.1 q.2.1 q.2.2.1 ∈ lw_tbl := by decide +kernel
theorem tb_ne : ∀ q ∈ neR, Cond.methodLinkNest q.1 q.2.1 q.2.2.1 q.2.2.2 ∈ lw_tbl := by decide +kernel
theorem st_df : ∀ i, i < 14 → ∀ j, j < 14 → stL.getD i 0 = stL.getD j 0 → (∀ k, k < stL.getD i 0 → (stB.getD i []).getD k 0 = (stB.getD j []).getD k 0) → i = j := by decide +kernel
theorem st_len : ∀ i, i < 14 → stL.getD i 0 < 2 ^ 31 := by decide
theorem OF_un {o n d : String} {t v1 v2 : Nat} {A : Nat → Prop} {U : State} {H : Heap} (a : va_OF o n d (.ref v1) t A U H) (c : va_OF o n d (.ref v2) t A U H) : v1 = v2 := by
  obtain ⟨cf, k, i, f, cell, a1, a2, a3, a4, a5, a6⟩ := a
  obtain ⟨cf2, k2, i2, f2, cell2, b1, b2, b3, b4, b5, b6⟩ := c
  rw [a1] at b1
  injection b1 with b1
  injection b1 with b0 b1
  injection b1 with b1 b7
  injection b7 with b7 b8
  subst b8
  rw [a3] at b3
  injection b3 with b3
  subst b3
  rw [a5] at b5
  injection b5 with b5
  injection b5
theorem T_un {t N M : Nat} {f h : Nat → Int32} {A : Nat → Prop} {U : State} {H : Heap} (hN : N < 2 ^ 31) (hM : M < 2 ^ 31) (a : va_T .byte t N (fun j => .int (f j)) A U H) (c : va_T .byte t M (fun j => .int (h j)) A U H) : N = M ∧ ∀ j, j < N → f j = h j := by
  obtain ⟨cell, a1, a2, a3, a4, a5, a6, a7⟩ := a
  obtain ⟨cell2, b1, b2, b3, b4, b5, b6, b7⟩ := c
  rw [a1] at b1
  injection b1 with b1
  subst b1
  have e : N = M := (nI_eq (a := N) (b := M) hN hM).mp (a5.symm.trans b5)
  refine ⟨e, fun j hj => ?_⟩
  have h1 := a6 j hj
  have h2 := b6 j (by omega)
  rw [h1] at h2
  injection h2 with h2
  injection h2
theorem str_ok {args : Array Value} {s : State} {A : Nat → Prop} (hg : gvN.before args s = true) (hA : ∀ a : Nat, a < s.heap.size → ¬ A a) : ∃ adK adV : Nat → Nat, vk_S 14 stL stB adK adV A s s.heap ∧ ∀ i : Nat, i < 14 → (tmS i).eval args s none [] s = some (.ref (adK i)) := by
  have hs := flat_of_before _ hg
  have h0 : ∀ i : Nat, ∃ q : Nat × Nat, i < 14 → (tmS i).eval args s none [] s = some (.ref q.1) ∧ (va_O "java/lang/String" q.1 A s s.heap ∧ va_OF "java/lang/String" "coder" "B" (.int 0) q.1 A s s.heap ∧ va_OF "java/lang/String" "value" "[B" (.ref q.2) q.1 A s s.heap ∧ va_T .byte q.2 (stL.getD i 0) (fun j => .int ((stB.getD i []).getD j 0)) A s s.heap) := by
    intro i
    by_cases hi : i < 14
    · have h1 : ∀ j : Nat, j < 1 → ([stL.getD i 0] : List Nat).getD j 0 < 2 ^ 31 := by
        intro j hj
        obtain rfl : j = 0 := by omega
        exact st_len i hi
      have h2 : ∀ j : Nat, j < 1 → (Cond.eq (.length (.field (tmS i) "java/lang/String" "value" "[B")) (.int (Int32.ofNat (([stL.getD i 0] : List Nat).getD j 0)))).before args s = true := by
        intro j hj
        obtain rfl : j = 0 := by omega
        exact hs _ (gv_le i hi)
      have h3 : ∀ j : Nat, j < 1 → ∀ k : Nat, k < ([stL.getD i 0] : List Nat).getD j 0 → (Cond.eq (.elem (.field (tmS i) "java/lang/String" "value" "[B") (.int (Int32.ofNat k))) (.int ((([stB.getD i []] : List (List Int32)).getD j []).getD k 0))).before args s = true := by
        intro j hj k hk
        obtain rfl : j = 0 := by omega
        exact hs _ (gv_el i hi k hk)
      obtain ⟨aK, aV, hS, hE⟩ := vk_Sof (args := args) (s := s) (N := 1) (tm := fun _ => tmS i) (len := [stL.getD i 0]) (byt := [stB.getD i []]) (A := A) h1 (fun j hj => hs _ (gv_ex i hi)) (fun j hj => hs _ (gv_co i hi)) (fun j hj => hs _ (gv_ar i hi)) h2 h3 (fun i j hi hj hij => absurd (show i = j by omega) hij) hA
      exact ⟨(aK 0, aV 0), fun _ => ⟨hE 0 (by omega), hS.1 0 (by omega)⟩⟩
    · exact ⟨(0, 0), fun h => absurd h hi⟩
  obtain ⟨ad, had⟩ := Classical.axiomOfChoice h0
  refine ⟨fun i => (ad i).1, fun i => (ad i).2, ⟨fun i hi => (had i hi).2, fun i j hi hj e => ?_⟩, fun i hi => (had i hi).1⟩
  have e : (ad i).1 = (ad j).1 := e
  have h1 := (had i hi).2.2.2.1
  have h2 := (had j hj).2.2.2.1
  rw [e] at h1
  have e2 := OF_un h1 h2
  have t1 := (had i hi).2.2.2.2
  have t2 := (had j hj).2.2.2.2
  rw [e2] at t1
  have t3 := T_un (st_len i hi) (st_len j hj) t1 t2
  exact st_df i hi j hj t3.1 t3.2
theorem gv_L : (Cond.arrayOf (.static "SameHeads" "LEAST_TRAIT" "[I") .int ∈ flatC gvN) ∧ (Cond.eq (.length (.static "SameHeads" "LEAST_TRAIT" "[I")) (.int (Int32.ofNat 4)) ∈ flatC gvN) ∧ ∀ j, j < 4 → Cond.eq (.elem (.static "SameHeads" "LEAST_TRAIT" "[I") (.int (Int32.ofNat j))) (.int (LTr j)) ∈ flatC gvN := by decide +kernel
theorem gv_M : (Cond.arrayOf (.static "SameHeads" "MOST_TRAIT" "[I") .int ∈ flatC gvN) ∧ (Cond.eq (.length (.static "SameHeads" "MOST_TRAIT" "[I")) (.int (Int32.ofNat 4)) ∈ flatC gvN) ∧ ∀ j, j < 4 → Cond.eq (.elem (.static "SameHeads" "MOST_TRAIT" "[I") (.int (Int32.ofNat j))) (.int (MTr j)) ∈ flatC gvN := by decide +kernel
theorem gv_A : (Cond.arrayOf (.static "SameHeads$Kinds" "ABOVE" "[I") .int ∈ flatC gvN) ∧ (Cond.eq (.length (.static "SameHeads$Kinds" "ABOVE" "[I")) (.int (Int32.ofNat 7)) ∈ flatC gvN) ∧ ∀ j, j < 7 → Cond.eq (.elem (.static "SameHeads$Kinds" "ABOVE" "[I") (.int (Int32.ofNat j))) (.int (ABv j)) ∈ flatC gvN := by decide +kernel
theorem gv_Z : Cond.eq (.static "java/lang/String" "COMPACT_STRINGS" "Z") (.int 1) ∈ flatC gvN ∧ Cond.isRef (.static "jdk/internal/util/Preconditions" "SIOOBE_FORMATTER" "Ljava/util/function/BiFunction;") ∈ flatC gvN := by decide +kernel
theorem tb_ls : (Cond.laysStatic "SameHeads" "LEAST_TRAIT" "[I" ∈ lw_tbl ∧ Cond.laysStatic "SameHeads" "MOST_TRAIT" "[I" ∈ lw_tbl ∧ Cond.laysStatic "SameHeads$Kinds" "ABOVE" "[I" ∈ lw_tbl ∧ Cond.laysStatic "java/lang/String" "COMPACT_STRINGS" "Z" ∈ lw_tbl ∧ Cond.laysStatic "jdk/internal/util/Preconditions" "SIOOBE_FORMATTER" "Ljava/util/function/BiFunction;" ∈ lw_tbl) ∧ (Cond.initialized "SameHeads" ∈ lw_tbl ∧ Cond.initialized "SameHeads$Kinds" ∈ lw_tbl ∧ Cond.initialized "java/lang/String" ∈ lw_tbl ∧ Cond.initialized "jdk/internal/util/Preconditions" ∈ lw_tbl) := by decide +kernel
theorem tb_ar : Cond.arrayClass .int ∈ lw_tbl ∧ Cond.arrayClass .byte ∈ lw_tbl ∧ Cond.arrayOver (.object "SameHeads$Sheet") ∈ lw_tbl ∧ Cond.arrayOver (.object "java/lang/String") ∈ lw_tbl := by decide +kernel
theorem tb_in : Cond.instantiable RX0 4 ∈ lw_tbl ∧ Cond.instantiable RX1 15 ∈ lw_tbl ∧ Cond.instantiable RX3 7 ∈ lw_tbl ∧ Cond.instantiable RX4 3 ∈ lw_tbl ∧ Cond.instantiable RX5 2 ∈ lw_tbl ∧ Cond.instantiable RX6 2 ∈ lw_tbl ∧ Cond.instantiable RX7 10 ∈ lw_tbl ∧ Cond.instantiable RX8 24 ∈ lw_tbl := by decide +kernel
theorem gT_tbl {w : Cond} (h : w ∈ gT) : w ∈ lw_tbl := (List.mem_filter.mp h).1
theorem stat_ok {args : Array Value} {s : State} {A : Nat → Prop} (hA : ∀ a : Nat, a < s.heap.size → ¬ A a) {C n : String} {N : Nat} {f : Nat → Int32} (hN : N < 2 ^ 31) (h1 : (Cond.laysStatic C n "[I").before args s = true) (h2 : (Cond.initialized C).before args s = true) (h3 : (Cond.arrayOf (.static C n "[I") .int).before args s = true) (h4 : (Cond.eq (.length (.static C n "[I")) (.int (Int32.ofNat N))).before args s = true) (h5 : ∀ j, j < N → (Cond.eq (.elem (.static C n "[I") (.int (Int32.ofNat j))) (.int (f j))).before args s = true) : ∃ t : Nat, va_Z C n "[I" (.ref t) A s s.heap ∧ va_T .int t N (fun j => .int (f j)) A s s.heap := by
  obtain ⟨t, ht, hT⟩ := va_Tof (f := fun j => .int (f j)) (A := A) hN h3 (va_eqt h4) (fun j hj => va_eqt (h5 j hj)) hA
  exact ⟨t, va_Zof h1 h2 ht hA, hT⟩
theorem start_ok {args : Array Value} {s : State} (hts : ∀ w ∈ lw_tbl, w.before args s = true) (hg : gvN.before args s = true) : ∃ (D : va_G) (r : (Nat → ClassId) × (Nat → Nat) × (Nat → Nat) × (Nat → Nat)), ∀ a : Nat → Nat, va_K D vwCl (tyG (D, a, r)) s ∧ SX (D, a, r) (fun q => s.heap.size ≤ q) s s.heap := by
  have hA : ∀ a : Nat, a < s.heap.size → ¬ (fun q => s.heap.size ≤ q) a := fun a h q => by have : s.heap.size ≤ a := q; omega
  have hs := flat_of_before _ hg
  obtain ⟨adK, adV, hS, hE⟩ := str_ok (A := fun q => s.heap.size ≤ q) hg hA
  obtain ⟨t0, z0, T0⟩ := stat_ok (A := fun q => s.heap.size ≤ q) hA (f := LTr) (by decide) (hts _ tb_ls.1.1) (hts _ tb_ls.2.1) (hs _ gv_L.1) (hs _ gv_L.2.1) (fun j hj => hs _ (gv_L.2.2 j hj))
  obtain ⟨t1, z1, T1⟩ := stat_ok (A := fun q => s.heap.size ≤ q) hA (f := MTr) (by decide) (hts _ tb_ls.1.2.1) (hts _ tb_ls.2.1) (hs _ gv_M.1) (hs _ gv_M.2.1) (fun j hj => hs _ (gv_M.2.2 j hj))
  obtain ⟨t2, z2, T2⟩ := stat_ok (A := fun q => s.heap.size ≤ q) hA (f := ABv) (by decide) (hts _ tb_ls.1.2.2.1) (hts _ tb_ls.2.2.1) (hs _ gv_A.1) (hs _ gv_A.2.1) (fun j hj => hs _ (gv_A.2.2 j hj))
  have kn : ∀ c : Nat, ∃ d : ClassId × (Nat → Nat), ∀ q, vwCl[c]? = some q → u_Kn s q.1 q.2.1 q.2.2 d.1 d.2 := by
    intro c
    have mk : ∀ {C : String} {T : u_T} {N : Nat}, (∀ w ∈ u_ws C T N, w ∈ gT) → Cond.instantiable C N ∈ lw_tbl → vwCl[c]? = some (C, T, N) → ∃ d : ClassId × (Nat → Nat), ∀ q, vwCl[c]? = some q → u_Kn s q.1 q.2.1 q.2.2 d.1 d.2 := by
      intro C T N h1 h2 h3
      obtain ⟨cC, iS, h⟩ := u_known hts (fun w hw => gT_tbl (h1 w hw)) (hts _ h2)
      refine ⟨(cC, iS), fun q hq => ?_⟩
      rw [h3] at hq
      injection hq with hq
      rw [← hq]; exact h
    by_cases h8 : c < 8
    · rcases (show c = 0 ∨ c = 1 ∨ c = 2 ∨ c = 3 ∨ c = 4 ∨ c = 5 ∨ c = 6 ∨ c = 7 by omega) with rfl | rfl | rfl | rfl | rfl | rfl | rfl | rfl
      · exact mk vi_0 tb_in.1 rfl
      · exact mk vi_1 tb_in.2.1 rfl
      · exact mk vi_2 tb_in.2.2.1 rfl
      · exact mk vi_3 tb_in.2.2.2.1 rfl
      · exact mk vi_4 tb_in.2.2.2.2.1 rfl
      · exact mk vi_5 tb_in.2.2.2.2.2.1 rfl
      · exact mk vi_6 tb_in.2.2.2.2.2.2.1 rfl
      · exact mk vi_7 tb_in.2.2.2.2.2.2.2 rfl
    · refine ⟨(0, fun _ => 0), fun q hq => ?_⟩
      rw [List.getElem?_eq_none (by show 8 ≤ c; omega)] at hq
      cases hq
  obtain ⟨dd, hdd⟩ := Classical.axiomOfChoice kn
  obtain ⟨cI, kI, coI, i1, i2, i3⟩ := Cond.arrayClass_spec (hts _ tb_ar.1)
  obtain ⟨cB, kB, coB, b1, b2, b3⟩ := Cond.arrayClass_spec (hts _ tb_ar.2.1)
  obtain ⟨coS, cS0, kS, s1, s2, s3, s4, s5⟩ := Cond.arrayOver_spec (hts _ tb_ar.2.2.1)
  obtain ⟨coT, cT0, kT0, r1, r2, r3, r4, r5⟩ := Cond.arrayOver_spec (hts _ tb_ar.2.2.2)
  refine ⟨(fun c => (dd c).1, fun c => (dd c).2), (fun k => ([cI, cB, cS0, cT0] : List ClassId).getD k 0, fun k => ([t0, t1, t2] : List Nat).getD k 0, adK, adV), fun a => ⟨⟨fun c q hq => hdd c q hq, ?_⟩, ?_⟩⟩
  · intro k q hk
    by_cases h4 : k < 4
    · rcases (show k = 0 ∨ k = 1 ∨ k = 2 ∨ k = 3 by omega) with rfl | rfl | rfl | rfl
      · cases hk
        exact ⟨fun n z => ⟨fun k h => (by cases h), kI, i2, coI, i3⟩, i1⟩
      · cases hk
        exact ⟨fun n z => ⟨fun k h => (by cases h), kB, b2, coB, b3⟩, b1⟩
      · cases hk
        exact ⟨fun n z => ⟨fun k h => (by cases h), kS, s3, coS, s4⟩, kS, coS, s3, s4, s1, s5⟩
      · cases hk
        exact ⟨fun n z => ⟨fun k h => (by cases h), kT0, r3, coT, r4⟩, kT0, coT, r3, r4, r1, r5⟩
    · rw [List.getElem?_eq_none (by show 4 ≤ k; omega)] at hk
      cases hk
  · refine ⟨⟨z0, T0⟩, ⟨z1, T1⟩, ⟨z2, T2⟩, va_Zof (hts _ tb_ls.1.2.2.2.1) (hts _ tb_ls.2.2.2.1) (va_eqt (hs _ gv_Z.1)) hA, va_Zqof (hts _ tb_ls.1.2.2.2.2) (hts _ tb_ls.2.2.2.2) (hs _ gv_Z.2) hA, hS, fun q hq => ?_, fun q hq => ?_⟩
    · refine vk_R.of (A := args) (hts _ (tb_sr q hq)) ?_
      rcases gv_eq q hq with e | e
      · rw [e]; exact hE _ (gv_si q hq)
      · exact va_eqR (hs _ e) (hE _ (gv_si q hq))
    · exact va_Nw.of rfl (hts _ (tb_ne q hq))
