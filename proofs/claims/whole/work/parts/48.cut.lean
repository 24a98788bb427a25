/-! the chain of tokens -/
def tp (b : Nat → Int32) (L : Nat) : Nat → Nat
  | 0 => 0
  | k + 1 => tkE b L (tp b L k)
theorem run_s {so : Nat → Int32} {L : Nat} {c : Int32} {p : Nat} (h : p < L ∧ so p = c) : runF so L c L p = runF so L c L (p + 1) := by
  obtain ⟨m, e⟩ : ∃ m, L = m + 1 := ⟨L - 1, by omega⟩
  have e1 : runF so L c (m + 1) p = if p < L ∧ so p = c then runF so L c m (p + 1) else p := rfl
  rw [run_fuel L (m + 1) p (by omega) (by omega), e1, if_pos h]
  exact run_fuel m L (p + 1) (by omega) (by omega)
theorem run_n {so : Nat → Int32} {L : Nat} {c : Int32} {p : Nat} (h : ¬ (p < L ∧ so p = c)) : runF so L c L p = p := by
  cases L with
  | zero => rfl
  | succ m =>
    show (if p < m + 1 ∧ so p = c then _ else p) = p
    rw [if_neg h]
theorem tkB_s {b : Nat → Int32} {L p : Nat} (h : p < L ∧ sof b p = 4) : tkB b L p = tkB b L (p + 1) := run_s h
theorem tkB_n {b : Nat → Int32} {L p : Nat} (h : ¬ (p < L ∧ sof b p = 4)) : tkB b L p = p := run_n h
theorem tkB_b {b : Nat → Int32} {L p : Nat} (h : p ≤ L) : p ≤ tkB b L p ∧ tkB b L p ≤ L := ⟨run_le L p, run_L L p h⟩
theorem tkE_b {b : Nat → Int32} {L p : Nat} (h : p ≤ L) : tkB b L p ≤ tkE b L p ∧ tkE b L p ≤ L ∧ (tkB b L p < L → tkB b L p < tkE b L p) := by
  have hb := tkB_b (b := b) h
  unfold tkE
  by_cases z : tkB b L p < L
  · rw [if_pos z]
    by_cases y1 : sof b (tkB b L p) = 1
    · rw [if_pos y1, run_s ⟨z, y1⟩]
      have a1 := run_le (so := sof b) (L := L) (c := 1) L (tkB b L p + 1)
      have a2 := run_L (so := sof b) (L := L) (c := 1) L (tkB b L p + 1) (by omega)
      exact ⟨by omega, a2, fun _ => by omega⟩
    · rw [if_neg y1]
      by_cases y2 : sof b (tkB b L p) = 2
      · rw [if_pos y2, run_s ⟨z, y2⟩]
        have a1 := run_le (so := sof b) (L := L) (c := 2) L (tkB b L p + 1)
        have a2 := run_L (so := sof b) (L := L) (c := 2) L (tkB b L p + 1) (by omega)
        exact ⟨by omega, a2, fun _ => by omega⟩
      · rw [if_neg y2]
        exact ⟨by omega, by omega, fun _ => by omega⟩
  · rw [if_neg z]
    exact ⟨by omega, by omega, fun q => absurd q z⟩
theorem tp_L {b : Nat → Int32} {L : Nat} : ∀ k, tp b L k ≤ L := by
  intro k
  induction k with
  | zero => exact Nat.zero_le L
  | succ k ih => exact (tkE_b ih).2.1
/-! the class cuts its tape -/
theorem beg {h : Hp} {j : Nat} (e : h 42 5 = nI j) (hj : j < 121) (x1 x2 : Int32) : X3_begin x1 x2 h = some (up (up (up (up h 43 j x1) 44 j x2) 45 j 0) 42 5 (nI (j + 1))) := by
  unfold X3_begin X3_begin_47
  rw [e, if_neg (show ¬ (121 : Int32) ≤ nI j from nI_ge (b := 121) hj (by omega))]
  simp only [cl_nI (show j < 2147483648 by omega), up_ne (show (42 : Nat) ≠ 43 by decide), up_ne (show (42 : Nat) ≠ 44 by decide), up_ne (show (42 : Nat) ≠ 45 by decide), e, ck_nI hj (show 121 < 2147483648 by decide), nI_1]
theorem lng {h : Hp} {j : Nat} (hj : j < 121) (x : Int32) : X3_lengthen (nI j) x h = some (up h 45 j (if h 43 j = 2 then jmin 1000 (h 45 j * 10 + x - 48) else h 45 j + 1)) := by
  have n0 : ¬ nI j < 0 := fun q => by rw [ti_lt, ti_nI (by omega)] at q; have : (0 : Int32).toInt = 0 := rfl; omega
  unfold X3_lengthen
  simp only [if_neg n0, ck_nI hj (show 121 < 2147483648 by decide), cl_nI (show j < 2147483648 by omega)]
  by_cases z : h 43 j = 2
  · rw [if_pos z, if_pos z]
  · rw [if_neg z, if_neg z]
def CMP (b : Nat → Int32) (L j : Nat) (h : Hp) : Prop := ∀ i, i < j → tkB b L (tp b L i) < L ∧ h 43 i = sof b (tkB b L (tp b L i)) ∧ h 44 i = nI (tkB b L (tp b L i))
def VAL (b : Nat → Int32) (L j : Nat) (h : Hp) : Prop := ∀ i, i < j → (h 43 i = 1 → h 45 i = nI (tkE b L (tp b L i) - tkB b L (tp b L i))) ∧ (h 43 i = 2 → h 45 i = tkV b L (tp b L i))
def frC (h0 h : Hp) : Prop := ∀ c, c ≠ 42 → c ≠ 43 → c ≠ 44 → c ≠ 45 → h c = h0 c
def FinC (b : Nat → Int32) (L : Nat) (h0 : Hp) (o : Option Hp) : Prop := ∃ h1 T, o = some h1 ∧ frC h0 h1 ∧ T ≤ L ∧ ¬ tkB b L (tp b L T) < L ∧ CMP b L T h1 ∧ VAL b L T h1 ∧ h1 43 T = 0 ∧ h1 44 T = nI L
def GapC (b : Nat → Int32) (L j p : Nat) (x1 : Int32) (h : Hp) : Prop := CMP b L j h ∧ VAL b L j h ∧ tkB b L (tp b L j) = tkB b L p ∧ j ≤ p ∧ h 42 5 = nI j ∧ ¬ ((x1 = 1 ∨ x1 = 2) ∧ p < L ∧ sof b p = x1)
def WrdC (b : Nat → Int32) (L j p : Nat) (x1 : Int32) (h : Hp) : Prop := CMP b L (j + 1) h ∧ VAL b L j h ∧ tkB b L (tp b L j) < p ∧ sof b (tkB b L (tp b L j)) = x1 ∧ (x1 = 1 ∨ x1 = 2) ∧ tp b L (j + 1) = runF (sof b) L x1 L p ∧ j + 1 ≤ p ∧ h 42 5 = nI (j + 1) ∧ (x1 = 1 → h 45 j = nI (p - tkB b L (tp b L j))) ∧ (x1 = 2 → vlF b (tp b L (j + 1) - p) p (h 45 j) = tkV b L (tp b L j))
theorem WrdC.gap {b : Nat → Int32} {L j p : Nat} {x1 : Int32} {h : Hp} (w : WrdC b L j p x1 h) (z : ¬ (p < L ∧ sof b p = x1)) : GapC b L (j + 1) p x1 h := by
  obtain ⟨a1, a2, a3, a4, a5, a6, a7, a8, a9, a10⟩ := w
  rw [run_n z] at a6
  refine ⟨a1, ?_, by rw [a6], a7, a8, fun q => z q.2⟩
  intro i hi
  by_cases e : i = j
  · subst e
    have e1 : tkE b L (tp b L i) = p := a6
    have e2 : h 43 i = x1 := (a1 i (by omega)).2.1.trans a4
    refine ⟨fun q => ?_, fun q => ?_⟩
    · rw [e1]; exact a9 (e2.symm.trans q)
    · have := a10 (e2.symm.trans q)
      rw [a6, Nat.sub_self] at this
      exact this
  · exact a2 i (by omega)
theorem cutL {b : Nat → Int32} {L fu : Nat} {h0 : Hp} (hL : L ≤ 120) (l0 : h0 40 1 = nI L) (b0 : h0 41 = b) (cb : ∀ i, i < L → clsOK (b i) = true) : ∀ k p n, L ≤ p + k → p ≤ L → k < n → (∀ j x1 h, frC h0 h → GapC b L j p x1 h → FinC b L h0 (X3_cut_9 fu n x1 (nI p) h)) ∧ (∀ j x1 h, frC h0 h → WrdC b L j p x1 h → FinC b L h0 (X3_cut_9 fu n x1 (nI p) h)) := by
  have end0 : ∀ p n, p = L → 0 < n → ∀ j x1 h, frC h0 h → GapC b L j p x1 h → FinC b L h0 (X3_cut_9 fu n x1 (nI p) h) := by
    intro p n hp hn j x1 h fr g
    obtain ⟨m, rfl⟩ : ∃ m, n = m + 1 := ⟨n - 1, by omega⟩
    obtain ⟨a1, a2, a3, a4, a5, a6⟩ := g
    subst hp
    rw [X3_cut_9, fr 40 (by decide) (by decide) (by decide) (by decide), l0, if_pos (nI_le (Nat.le_refl p) (by omega)), beg a5 (by omega), bnd_s]
    refine ⟨_, j, rfl, ?_, a4, ?_, ?_, ?_, ?_, ?_⟩
    · intro c c1 c2 c3 c4
      rw [up_ne c1, up_ne c4, up_ne c3, up_ne c2]; exact fr c c1 c2 c3 c4
    · rw [a3]; have := (tkB_b (b := b) (Nat.le_refl p)).1; omega
    · intro i hi
      rw [up_ne (by decide), up_ne (by decide), up_ne (by decide), up_nj (by omega), up_ne (by decide), up_ne (by decide), up_nj (by omega), up_ne (by decide)]
      exact a1 i hi
    · intro i hi
      rw [up_ne (by decide), up_ne (by decide), up_ne (by decide), up_nj (by omega), up_ne (by decide), up_nj (by omega), up_ne (by decide), up_ne (by decide)]
      exact a2 i hi
    · rw [up_ne (by decide), up_ne (by decide), up_ne (by decide), up_eq]
    · rw [up_ne (by decide), up_ne (by decide), up_eq]
  intro k
  induction k with
  | zero =>
    intro p n hk hp hn
    refine ⟨fun j x1 h fr g => end0 p n (by omega) hn j x1 h fr g, fun j x1 h fr w => ?_⟩
    exact end0 p n (by omega) hn (j + 1) x1 h fr (w.gap (fun q => by omega))
  | succ k ih =>
    intro p n hk hp hn
    by_cases pL : p = L
    · refine ⟨fun j x1 h fr g => end0 p n pL (by omega) j x1 h fr g, fun j x1 h fr w => ?_⟩
      exact end0 p n pL (by omega) (j + 1) x1 h fr (w.gap (fun q => by omega))
    have pl : p < L := by omega
    obtain ⟨m, rfl⟩ : ∃ m, n = m + 1 := ⟨n - 1, by omega⟩
    obtain ⟨ihG, ihW⟩ := ih (p + 1) m (by omega) (by omega) (by omega)
    have gap : ∀ j x1 h, frC h0 h → GapC b L j p x1 h → FinC b L h0 (X3_cut_9 fu (m + 1) x1 (nI p) h) := by
      intro j x1 h fr g
      obtain ⟨a1, a2, a3, a4, a5, a6⟩ := g
      have e41 : h 41 = b := (fr 41 (by decide) (by decide) (by decide) (by decide)).trans b0
      have st : X3_cut_9 fu (m + 1) x1 (nI p) h = X3_cut_53 fu (X3_cut_9 fu m) (nI p) (sof b p) 0 h := by
        rw [X3_cut_9, fr 40 (by decide) (by decide) (by decide) (by decide), l0, if_neg (nI_ge pl (by omega)), ck_nI (by omega) (by decide), cl_nI (by omega), e41]
        show (if sof b p = x1 then (if sof b p = 1 then _ else if sof b p = 2 then _ else X3_cut_53 fu (X3_cut_9 fu m) (nI p) (sof b p) 0 h) else X3_cut_53 fu (X3_cut_9 fu m) (nI p) (sof b p) 0 h) = _
        by_cases z : sof b p = x1
        · rw [if_pos z, if_neg (fun q => a6 ⟨Or.inl (z.symm.trans q), pl, z⟩), if_neg (fun q => a6 ⟨Or.inr (z.symm.trans q), pl, z⟩)]
        · rw [if_neg z]
      rw [st]
      unfold X3_cut_53
      rw [if_pos rfl]
      by_cases y4 : sof b p = 4
      · rw [if_pos y4]
        unfold X3_cut_71
        rw [if_pos y4, nI_1]
        refine ihG j (sof b p) h fr ⟨a1, a2, by rw [a3, tkB_s ⟨pl, y4⟩], by omega, a5, fun q => ?_⟩
        rw [y4] at q
        rcases q.1 with q | q
        · exact absurd q (by decide)
        · exact absurd q (by decide)
      rw [if_neg y4, beg a5 (by omega), bnd_s]
      unfold X3_cut_71
      rw [if_neg y4, ck_nI (by omega) (by decide), cl_nI (by omega), nI_1, up_eq]
      rw [show nI (j + 1) - 1 = nI j from nI_pred j, lng (by omega), bnd_s]
      have tb : tkB b L (tp b L j) = p := by rw [a3, tkB_n (fun q => y4 q.2)]
      have e43 : up (up (up (up h 43 j (sof b p)) 44 j (nI p)) 45 j 0) 42 5 (nI (j + 1)) 43 j = sof b p := by rw [up_ne (by decide), up_ne (by decide), up_ne (by decide), up_eq]
      have e45 : up (up (up (up h 43 j (sof b p)) 44 j (nI p)) 45 j 0) 42 5 (nI (j + 1)) 45 j = 0 := by rw [up_ne (by decide), up_eq]
      have e411 : up (up (up (up h 43 j (sof b p)) 44 j (nI p)) 45 j 0) 42 5 (nI (j + 1)) 41 p = b p := by rw [up_ne (by decide), up_ne (by decide), up_ne (by decide), up_ne (by decide), e41]
      rw [e43, e45, e411]
      have fr1 : ∀ v, frC h0 (up (up (up (up (up h 43 j (sof b p)) 44 j (nI p)) 45 j 0) 42 5 (nI (j + 1))) 45 j v) := by
        intro v c c1 c2 c3 c4
        rw [up_ne c4, up_ne c1, up_ne c4, up_ne c3, up_ne c2]; exact fr c c1 c2 c3 c4
      have k43 : ∀ v i, up (up (up (up (up h 43 j (sof b p)) 44 j (nI p)) 45 j 0) 42 5 (nI (j + 1))) 45 j v 43 i = if i = j then sof b p else h 43 i := by
        intro v i
        rw [up_ne (by decide), up_ne (by decide), up_ne (by decide), up_ne (by decide)]
        by_cases e : i = j
        · subst e; rw [up_eq, if_pos rfl]
        · rw [up_nj e, if_neg e]
      have k44 : ∀ v i, up (up (up (up (up h 43 j (sof b p)) 44 j (nI p)) 45 j 0) 42 5 (nI (j + 1))) 45 j v 44 i = if i = j then nI p else h 44 i := by
        intro v i
        rw [up_ne (by decide), up_ne (by decide), up_ne (by decide)]
        by_cases e : i = j
        · subst e; rw [up_eq, if_pos rfl]
        · rw [up_nj e, if_neg e, up_ne (by decide)]
      have k45 : ∀ v i, up (up (up (up (up h 43 j (sof b p)) 44 j (nI p)) 45 j 0) 42 5 (nI (j + 1))) 45 j v 45 i = if i = j then v else h 45 i := by
        intro v i
        by_cases e : i = j
        · subst e; rw [up_eq, if_pos rfl]
        · rw [up_nj e, if_neg e, up_ne (by decide), up_nj e, up_ne (by decide), up_ne (by decide)]
      have k5 : ∀ v, up (up (up (up (up h 43 j (sof b p)) 44 j (nI p)) 45 j 0) 42 5 (nI (j + 1))) 45 j v 42 5 = nI (j + 1) := by
        intro v
        rw [up_ne (by decide), up_eq]
      have cm : ∀ v, CMP b L (j + 1) (up (up (up (up (up h 43 j (sof b p)) 44 j (nI p)) 45 j 0) 42 5 (nI (j + 1))) 45 j v) := by
        intro v i hi
        rw [k43, k44]
        by_cases e : i = j
        · subst e
          rw [if_pos rfl, if_pos rfl, tb]; exact ⟨pl, rfl, rfl⟩
        · rw [if_neg e, if_neg e]; exact a1 i (by omega)
      have va : ∀ v, VAL b L j (up (up (up (up (up h 43 j (sof b p)) 44 j (nI p)) 45 j 0) 42 5 (nI (j + 1))) 45 j v) := by
        intro v i hi
        rw [k43, k45, if_neg (by omega), if_neg (by omega)]
        exact a2 i hi
      have tE : tp b L (j + 1) = if sof b p = 1 then runF (sof b) L 1 L p else if sof b p = 2 then runF (sof b) L 2 L p else p + 1 := by
        show tkE b L (tp b L j) = _
        unfold tkE
        rw [tb, if_pos pl]
      by_cases y1 : sof b p = 1
      · refine ihW j (sof b p) _ (fr1 _) ⟨cm _, va _, by rw [tb]; omega, by rw [tb], Or.inl y1, ?_, by omega, k5 _, fun _ => ?_, fun q => absurd (y1.symm.trans q) (by decide)⟩
        · rw [tE, if_pos y1, y1]; exact run_s ⟨pl, y1⟩
        · rw [k45, if_pos rfl, if_neg (fun q => absurd (y1.symm.trans q) (by decide)), tb, show p + 1 - p = 1 by omega]; rfl
      by_cases y2 : sof b p = 2
      · refine ihW j (sof b p) _ (fr1 _) ⟨cm _, va _, by rw [tb]; omega, by rw [tb], Or.inr y2, ?_, by omega, k5 _, fun q => absurd (y2.symm.trans q) (by decide), fun _ => ?_⟩
        · rw [tE, if_neg y1, if_pos y2, y2]; exact run_s ⟨pl, y2⟩
        · rw [k45, if_pos rfl, if_pos y2]
          have eT : tkV b L (tp b L j) = vlF b (tp b L (j + 1) - p) p 0 := by
            unfold tkV
            rw [tb, if_pos ⟨pl, y2⟩]; rfl
          rw [eT]
          have g1 : p + 1 ≤ tp b L (j + 1) := by
            rw [tE, if_neg y1, if_pos y2, run_s ⟨pl, y2⟩]
            exact run_le L (p + 1)
          rw [show tp b L (j + 1) - p = (tp b L (j + 1) - (p + 1)) + 1 by omega]
          show _ = vlF b (tp b L (j + 1) - (p + 1)) (p + 1) (jmin 1000 (10 * 0 + b p - 48))
          rw [show (0 : Int32) * 10 = 10 * 0 by decide]
      refine ihG (j + 1) (sof b p) _ (fr1 _) ⟨cm _, ?_, ?_, by omega, k5 _, fun q => ?_⟩
      · intro i hi
        by_cases e : i = j
        · subst e
          rw [k43, if_pos rfl]
          exact ⟨fun q => absurd q y1, fun q => absurd q y2⟩
        · exact va _ i (by omega)
      · rw [tE, if_neg y1, if_neg y2]
      · rcases q.1 with q | q
        · exact y1 q
        · exact y2 q
    refine ⟨gap, ?_⟩
    intro j x1 h fr w
    by_cases z : sof b p = x1
    · obtain ⟨a1, a2, a3, a4, a5, a6, a7, a8, a9, a10⟩ := w
      have e41 : h 41 = b := (fr 41 (by decide) (by decide) (by decide) (by decide)).trans b0
      have n4 : ¬ sof b p = 4 := fun q => by
        rcases a5 with e | e
        · rw [z, e] at q; exact absurd q (by decide)
        · rw [z, e] at q; exact absurd q (by decide)
      have st : X3_cut_9 fu (m + 1) x1 (nI p) h = X3_cut_53 fu (X3_cut_9 fu m) (nI p) (sof b p) 1 h := by
        rw [X3_cut_9, fr 40 (by decide) (by decide) (by decide) (by decide), l0, if_neg (nI_ge pl (by omega)), ck_nI (by omega) (by decide), cl_nI (by omega), e41]
        show (if sof b p = x1 then (if sof b p = 1 then X3_cut_53 fu (X3_cut_9 fu m) (nI p) (sof b p) 1 h else if sof b p = 2 then X3_cut_53 fu (X3_cut_9 fu m) (nI p) (sof b p) 1 h else _) else _) = _
        rw [if_pos z]
        by_cases y1 : sof b p = 1
        · rw [if_pos y1]
        · rw [if_neg y1, if_pos]
          rcases a5 with e | e
          · exact absurd (z.trans e) y1
          · exact z.trans e
      rw [st]
      unfold X3_cut_53
      rw [if_neg (by decide)]
      unfold X3_cut_71
      rw [if_neg n4, ck_nI (by omega) (by decide), cl_nI (by omega), nI_1, a8]
      rw [show nI (j + 1) - 1 = nI j from nI_pred j, lng (by omega), bnd_s, e41]
      have fr1 : ∀ v, frC h0 (up h 45 j v) := fun v c c1 c2 c3 c4 => by rw [up_ne c4]; exact fr c c1 c2 c3 c4
      have e43 : h 43 j = x1 := (a1 j (by omega)).2.1.trans a4
      refine ihW j (sof b p) _ (fr1 _) ⟨?_, ?_, by omega, by rw [a4, z], by rw [z]; exact a5, by rw [a6, z]; exact run_s ⟨pl, z⟩, by omega, by rw [up_ne (by decide)]; exact a8, fun q => ?_, fun q => ?_⟩
      · intro i hi
        rw [up_ne (by decide), up_ne (by decide)]; exact a1 i hi
      · intro i hi
        rw [up_ne (by decide), up_nj (by omega)]; exact a2 i hi
      · rw [up_eq, e43, if_neg (fun y => absurd (q.symm.trans (z.trans y)) (by decide)), a9 (z.symm.trans q), nI_1, show p - tkB b L (tp b L j) + 1 = p + 1 - tkB b L (tp b L j) by omega]
      · rw [up_eq, e43, if_pos (z.symm.trans q), ← a10 (z.symm.trans q)]
        have g1 : p + 1 ≤ tp b L (j + 1) := by
          rw [a6, run_s ⟨pl, z⟩]
          exact run_le L (p + 1)
        rw [show tp b L (j + 1) - p = (tp b L (j + 1) - (p + 1)) + 1 by omega]
        show _ = vlF b (tp b L (j + 1) - (p + 1)) (p + 1) (jmin 1000 (10 * h 45 j + b p - 48))
        rw [Int32.mul_comm (h 45 j) 10]
    · exact gap (j + 1) x1 h fr (w.gap (fun q => z q.2))
