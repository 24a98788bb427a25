theorem R.house {hx hm hx1 hm1 : Hp} (h : R hx hm) (a : ∀ k, cX k → (k = 0 ∨ 12 ≤ k) → hx1 k = hx k) (b : ∀ k, cM k → k ≠ 1 → hm1 k = hm k) (b1 : hm1 0 3 = hm 0 3) (b2 : hm1 0 10 = hm 0 10) (c : HR 1 1 hx1 hm1) (d : HI 1 hx1) : R hx1 hm1 := by
  obtain ⟨-, -, h3, h4, h5, h6⟩ := h
  have s2 : sameH 12 hx hx1 := fun f hf => a _ (Or.inl (by omega)) (by omega)
  refine ⟨c, d, ?_, ?_, ?_, ?_⟩
  · refine ⟨by rw [a 0 (Or.inl (by omega)) (by omega), b1]; exact h3.1, ?_⟩
    rw [a 0 (Or.inl (by omega)) (by omega)]
    rcases h3.2 with q | ⟨q, r, t⟩
    · exact Or.inl q
    · exact Or.inr ⟨q, r.frame s2 (b 2 (by unfold cM; omega) (by omega)), t.frame s2⟩
  · unfold TR
    rw [a 40 (by unfold cX; omega) (by omega), a 41 (by unfold cX; omega) (by omega), b2, b 6 (by unfold cM; omega) (by omega)]
    exact h4
  · intro s hs
    rw [a (47 + 2 * s) (by unfold cX; omega) (by omega), a (48 + 2 * s) (by unfold cX; omega) (by omega), b 9 (by unfold cM; omega) (by omega), b 10 (by unfold cM; omega) (by omega), b 11 (by unfold cM; omega) (by omega)]
    exact h5 s hs
  · unfold CR
    rw [a 55 (by unfold cX; omega) (by omega), b 4 (by unfold cM; omega) (by omega)]
    exact h6
theorem R.sheets {hx hm hx1 hm1 : Hp} (h : R hx hm) (a : ∀ k, cX k → (k < 47 ∨ k = 55) → hx1 k = hx k) (b : ∀ k, cM k → k ≠ 9 → k ≠ 10 → k ≠ 11 → hm1 k = hm k) (b1 : hm1 0 3 = hm 0 3) (b2 : hm1 0 10 = hm 0 10) (c : SR hx1 hm1) : R hx1 hm1 := by
  obtain ⟨h1, h2, h3, h4, h5, h6⟩ := h
  have s1 : sameH 1 hx hx1 := fun f hf => a _ (Or.inl (by omega)) (by omega)
  have s2 : sameH 12 hx hx1 := fun f hf => a _ (Or.inl (by omega)) (by omega)
  refine ⟨h1.frame s1 (b 1 (Or.inl rfl) (by omega) (by omega) (by omega)), h2.frame s1, ?_, ?_, c, ?_⟩
  · refine ⟨by rw [a 0 (Or.inl (by omega)) (by omega), b1]; exact h3.1, ?_⟩
    rw [a 0 (Or.inl (by omega)) (by omega)]
    rcases h3.2 with q | ⟨q, r, t⟩
    · exact Or.inl q
    · exact Or.inr ⟨q, r.frame s2 (b 2 (by unfold cM; omega) (by omega) (by omega) (by omega)), t.frame s2⟩
  · unfold TR
    rw [a 40 (by unfold cX; omega) (by omega), a 41 (by unfold cX; omega) (by omega), b2, b 6 (by unfold cM; omega) (by omega) (by omega) (by omega)]
    exact h4
  · unfold CR
    rw [a 55 (by unfold cX; omega) (by omega), b 4 (by unfold cM; omega) (by omega) (by omega) (by omega)]
    exact h6
theorem R.tape {hx hm hx1 hm1 : Hp} (h : R hx hm) (a : ∀ k, cX k → k ≠ 40 → k ≠ 41 → hx1 k = hx k) (b : ∀ k, cM k → k ≠ 6 → hm1 k = hm k) (b1 : hm1 0 3 = hm 0 3) (c : TR hx1 hm1) : R hx1 hm1 := by
  obtain ⟨h1, h2, h3, h4, h5, h6⟩ := h
  have s1 : sameH 1 hx hx1 := fun f hf => a _ (Or.inl (by omega)) (by omega) (by omega)
  have s2 : sameH 12 hx hx1 := fun f hf => a _ (Or.inl (by omega)) (by omega) (by omega)
  refine ⟨h1.frame s1 (b 1 (Or.inl rfl) (by omega)), h2.frame s1, ?_, c, ?_, ?_⟩
  · refine ⟨by rw [a 0 (Or.inl (by omega)) (by omega) (by omega), b1]; exact h3.1, ?_⟩
    rw [a 0 (Or.inl (by omega)) (by omega) (by omega)]
    rcases h3.2 with q | ⟨q, r, t⟩
    · exact Or.inl q
    · exact Or.inr ⟨q, r.frame s2 (b 2 (by unfold cM; omega) (by omega)), t.frame s2⟩
  · intro s hs
    rw [a (47 + 2 * s) (by unfold cX; omega) (by omega) (by omega), a (48 + 2 * s) (by unfold cX; omega) (by omega) (by omega), b 9 (by unfold cM; omega) (by omega), b 10 (by unfold cM; omega) (by omega), b 11 (by unfold cM; omega) (by omega)]
    exact h5 s hs
  · unfold CR
    rw [a 55 (by unfold cX; omega) (by omega) (by omega), b 4 (by unfold cM; omega) (by omega)]
    exact h6
theorem ti_lit0 : (0 : Int32).toInt = 0 := rfl
theorem ti_lit1 : (1 : Int32).toInt = 1 := rfl
theorem ti_litm1 : (-1 : Int32).toInt = -1 := rfl
/-! a new part -/
theorem addP {h : Hp} {c0 np : Nat} (e : h c0 10 = nI np) (hn : np < 10) (x1 x2 x3 x4 : Int32) : X1_addPart c0 x1 x2 x3 x4 h = some (nI np, up (up (up (up (up h (c0 + 1) np x1) (c0 + 2) np x2) (c0 + 3) np x3) (c0 + 4) np x4) c0 10 (nI (np + 1))) := by
  unfold X1_addPart X1_addPart_38
  have r1 : ∀ (q : Hp) (c i : Nat) (v : Int32), c ≠ c0 → up q c i v c0 10 = q c0 10 := fun q c i v hc => up_ni (fun z => hc z.1.symm)
  simp only [r1 _ _ _ _ (show c0 + 1 ≠ c0 by omega), r1 _ _ _ _ (show c0 + 2 ≠ c0 by omega), r1 _ _ _ _ (show c0 + 3 ≠ c0 by omega), r1 _ _ _ _ (show c0 + 4 ≠ c0 by omega), e, ck_nI hn (show 10 < 2147483648 by decide), cl_nI (show np < 2147483648 by omega), nI_1]
theorem comesP {h : Hp} {np : Nat} (e : h 1 2 = nI np) (hn : np < 10) (x1 x2 x3 x4 : Int32) : X8_comes x1 x2 x3 x4 h = some (nI np, up (up (up (up (up h 1 (33 + 4 * np) x1) 1 (34 + 4 * np) x2) 1 (35 + 4 * np) x3) 1 (36 + 4 * np) x4) 1 2 (nI (np + 1))) := by
  unfold X8_comes X8_comes_64
  rw [show inR (2 : Int32) 117 = true by decide, chk_t]
  have a0 : X8_at (nI np) 0 = nI (33 + 4 * np) := (at_nI np 0)
  have a1 : X8_at (nI np) 1 = nI (34 + 4 * np) := (at_nI np 1).trans (by rw [show 33 + 4 * np + 1 = 34 + 4 * np by omega])
  have a2 : X8_at (nI np) 2 = nI (35 + 4 * np) := (at_nI np 2).trans (by rw [show 33 + 4 * np + 2 = 35 + 4 * np by omega])
  have a3 : X8_at (nI np) 3 = nI (36 + 4 * np) := (at_nI np 3).trans (by rw [show 33 + 4 * np + 3 = 36 + 4 * np by omega])
  have r1 : ∀ (q : Hp) (i : Nat) (v : Int32), i ≠ 2 → up q 1 i v 1 2 = q 1 2 := fun q i v hc => up_ni (fun z => hc z.2.symm)
  simp only [e, a0, a1, a2, a3, ck_nI (show 33 + 4 * np < 117 by omega) (show 117 < 2147483648 by decide), ck_nI (show 34 + 4 * np < 117 by omega) (show 117 < 2147483648 by decide), ck_nI (show 35 + 4 * np < 117 by omega) (show 117 < 2147483648 by decide), ck_nI (show 36 + 4 * np < 117 by omega) (show 117 < 2147483648 by decide), cl_nI (show 33 + 4 * np < 2147483648 by omega), cl_nI (show 34 + 4 * np < 2147483648 by omega), cl_nI (show 35 + 4 * np < 2147483648 by omega), cl_nI (show 36 + 4 * np < 2147483648 by omega), r1 _ _ _ (show 33 + 4 * np ≠ 2 by omega), r1 _ _ _ (show 34 + 4 * np ≠ 2 by omega), r1 _ _ _ (show 35 + 4 * np ≠ 2 by omega), r1 _ _ _ (show 36 + 4 * np ≠ 2 by omega), nI_1]
  rfl
theorem vl14 {f i : Nat} (h1 : 1 ≤ f) (h4 : f ≤ 4) (hi : i < 10) : vl f i := by
  right
  refine ⟨h1, by omega, ?_⟩
  have : ∀ f, f < 5 → 1 ≤ f → lnH f = 10 := by decide
  rw [this f (by omega) h1]; exact hi
theorem R.parts {hx hm : Hp} (h : R hx hm) {np : Nat} (e : hx 1 10 = nI np) (hn : np < 10) : R (up hx 1 10 (nI (np + 1))) (up hm 1 2 (nI (np + 1))) := by
  have v0 : vl 0 10 := Or.inl ⟨rfl, by omega, by omega⟩
  refine h.house (fun k _ hk => up_ne (by omega)) (fun k _ hk => up_ne hk) (by rw [up_ne (by omega)]) (by rw [up_ne (by omega)]) (h.1.set1 v0 _) ?_
  obtain ⟨i1, i2, i3, i4⟩ := h.2.1
  have e1 : (nI (np + 1)).toInt = np + 1 := by rw [ti_nI (by omega)]; omega
  have e0 : (hx 1 10).toInt = np := by rw [e, ti_nI (by omega)]
  have r : ∀ f1 i1, ¬ (f1 = 0 ∧ i1 = 10) → up hx 1 10 (nI (np + 1)) (1 + f1) i1 = hx (1 + f1) i1 := fun f1 i1 z => up_ni (fun q => z ⟨by omega, q.2⟩)
  refine ⟨fun f i v => ?_, fun v hv => ?_, fun v p hv hp q => ?_, fun s hs => ?_⟩
  · by_cases z : f = 0 ∧ i = 10
    · obtain ⟨rfl, rfl⟩ := z
      rw [show 1 + 0 = 1 from rfl, up_eq, e1]
      exact ⟨by show (0 : Int) ≤ _; omega, by show _ ≤ (10 : Int); omega⟩
    · rw [r f i z]; exact i1 f i v
  · rw [r 8 v (by omega), r 0 12 (by omega)]; exact i2 v hv
  · rw [r 0 11 (by omega), up_eq, e1] at q
    rw [r 9 _ (by omega)]
    refine i3 v p hv hp ?_
    rcases q with q | q
    · exact Or.inl q
    · right; rw [e0]; omega
  · rw [r 10 s (by omega), up_eq, e1]
    have := i4 s hs
    omega
theorem R.addP {hx hm : Hp} (h : R hx hm) {np : Nat} (e : hx 1 10 = nI np) (hn : np < 10) {x1 x2 x3 x4 : Int32} (b1 : 0 ≤ x1.toInt ∧ x1.toInt ≤ 6) (b2 : 0 ≤ x2.toInt ∧ x2.toInt ≤ 255) (b3 : 0 ≤ x3.toInt ∧ x3.toInt ≤ 60) (b4 : -1 ≤ x4.toInt ∧ x4.toInt ≤ 5) :
    R (up (up (up (up (up hx 2 np x1) 3 np x2) 4 np x3) 5 np x4) 1 10 (nI (np + 1))) (up (up (up (up (up hm 1 (33 + 4 * np) x1) 1 (34 + 4 * np) x2) 1 (35 + 4 * np) x3) 1 (36 + 4 * np) x4) 1 2 (nI (np + 1))) := by
  have s1 := h.up1 (f := 1) (i := np) (vl14 (by omega) (by omega) hn) (v := x1) b1 ⟨by omega, by omega, by omega, by omega⟩
  have s2 := s1.up1 (f := 2) (i := np) (vl14 (by omega) (by omega) hn) (v := x2) b2 ⟨by omega, by omega, by omega, by omega⟩
  have s3 := s2.up1 (f := 3) (i := np) (vl14 (by omega) (by omega) hn) (v := x3) b3 ⟨by omega, by omega, by omega, by omega⟩
  have s4 := s3.up1 (f := 4) (i := np) (vl14 (by omega) (by omega) hn) (v := x4) b4 ⟨by omega, by omega, by omega, by omega⟩
  exact s4.parts (by rw [up_ne (by omega), up_ne (by omega), up_ne (by omega), up_ne (by omega)]; exact e) hn
theorem o_part {hx hm : Hp} (h : R hx hm) (x : Int32) : Eqv (X7_part x hx) (X8_part x hm) := by
  obtain ⟨np, n1, n2⟩ := npN h.2.1
  unfold X7_part X8_part X7_isKind X8_isKind
  rw [w8, rnp h.1, n2]
  rcases wr x 0 6 with ⟨a, b⟩ | ⟨a, b, c⟩
  · rw [a, if_pos rfl, if_pos rfl]; exact fB h
  · rw [a, if_neg n10, if_neg n10]
    by_cases d : np < 10
    · rw [if_pos (show nI np < 10 from nI_lt d (by decide)), if_neg (show ¬ nI np = 10 from fun z => by rw [show (10 : Int32) = nI 10 from rfl, nI_eq (by omega) (by decide)] at z; omega), addP n2 d, comesP ((rnp h.1).trans n2) d, bnd_s, bnd_s]
      exact ⟨_, _, _, rfl, rfl, h.addP n2 d ⟨b, c⟩ ⟨by decide, by decide⟩ ⟨by decide, by decide⟩ ⟨by decide, by decide⟩⟩
    · rw [if_neg (show ¬ nI np < 10 from nI_nlt (b := 10) (by omega) (by omega)), if_pos (show nI np = 10 by rw [show np = 10 by omega]; rfl)]; exact fF h
/-! spots -/
theorem hdB {hx : Hp} (h : HI 1 hx) {s : Nat} (hs : s < 10) : -1 ≤ (hx 11 s).toInt ∧ (hx 11 s).toInt < (hx 1 10).toInt := ⟨(h.1 10 s (Or.inr ⟨by omega, by omega, hs⟩)).1, h.2.2.2 s hs⟩
theorem o_hold {hx hm : Hp} (h : R hx hm) (x1 x2 : Int32) : Eqv (X7_hold x1 x2 hx) (X8_hold x1 x2 hm) := by
  obtain ⟨np, n1, n2⟩ := npN h.2.1
  unfold X7_hold X8_hold X7_isSpot X8_isSpot
  rw [w8]
  rcases wn x1 (M := 9) 10 (by decide) (by decide) with ⟨q, -⟩ | ⟨s, q, r, t⟩
  · rw [q, if_pos rfl, if_pos rfl]; exact fB h
  · rw [t, if_neg n10, if_neg n10, r]
    have good : -1 ≤ x2.toInt ∧ x2.toInt ≤ 9 → x2.toInt < (hx 1 10).toInt → Eqv (chk (inR (nI s) 10) (some (1, up hx 11 (nI s).toNatClampNeg x2))) (chk (inR (5 + nI s) 117) (some (1, up hm 1 (5 + nI s).toNatClampNeg x2))) := by
      intro hb hc
      rw [show (5 : Int32) = nI 5 from rfl, nI_add, ck_nI q (by decide), ck_nI (by omega) (by decide), cl_nI (by omega), cl_nI (by omega)]
      exact ⟨_, _, _, rfl, rfl, h.up1 (f := 10) (i := s) (Or.inr ⟨by omega, by omega, q⟩) hb ⟨by omega, by omega, by omega, fun _ => hc⟩⟩
    have e0 : (hx 1 10).toInt = np := by rw [n2, ti_nI (by omega)]
    by_cases m : x2 = -1
    · rw [if_pos m, if_pos m]
      have := good ⟨by rw [m, ti_litm1]; omega, by rw [m, ti_litm1]; omega⟩ (by rw [m, ti_litm1, e0]; omega)
      split
      · exact this
      · exact this
    · rw [if_neg m, if_neg m]
      rcases hasP h.1 n2 n1 x2 with ⟨a, b, c⟩ | ⟨p, a, b, c, d⟩
      · rw [a, b, bnd_s, if_pos rfl, if_pos rfl]; exact fB h
      · rw [c, d, bnd_s, if_neg n10, if_neg n10]
        exact good ⟨by rw [b, ti_nI (by omega)]; omega, by rw [b, ti_nI (by omega)]; omega⟩ (by rw [b, ti_nI (by omega), e0]; omega)
theorem o_as {hx hm : Hp} {fu : Nat} (hf : 8 ≤ fu) (h : R hx hm) (x1 x2 : Int32) : Eqv (X7_as fu x1 x2 hx) (X8_as fu x1 x2 hm) := by
  obtain ⟨np, n1, n2⟩ := npN h.2.1
  have e0 : (hx 1 10).toInt = np := by rw [n2, ti_nI (by omega)]
  unfold X7_as X8_as X7_isSpot X8_isSpot X7_isKind X8_isKind
  rw [w8]
  rcases wn x1 (M := 9) 10 (by decide) (by decide) with ⟨q, -⟩ | ⟨s, q, r, t⟩
  · rw [q, if_pos rfl, if_pos rfl]; exact fB h
  · rw [t, if_neg n10, if_neg n10]
    rcases wn x2 (M := 6) 7 (by decide) (by decide) with ⟨q1, -⟩ | ⟨k, q1, r1, t1⟩
    · rw [q1, if_pos rfl, if_pos rfl]; exact fB h
    · rw [t1, if_neg n10, if_neg n10, r, show (5 : Int32) = nI 5 from rfl, nI_add, ck_nI q (by decide), ck_nI (by omega) (by decide), cl_nI (by omega), cl_nI (by omega), rfA h.1 q]
      have hb := hdB h.2.1 q
      rcases hasP h.1 n2 n1 (hx 11 s) with ⟨a, b, c⟩ | ⟨p, a, b, c, d⟩
      · rw [a, if_pos rfl]
        have : ¬ 0 ≤ hx 11 s := by
          intro z
          rw [ti_le, ti_lit0] at z
          exact c (hx 11 s).toInt.toNat (by omega) (ti_of z)
        rw [if_neg this]; exact fQ h
      · rw [c, if_neg n10, b, ck_nI (by omega) (by decide), if_pos (nI_pos' (by omega)), pI0 h.1 (by omega), bnd_s, cl_nI (by omega)]
        obtain ⟨kd, k1, k2⟩ := kdN h.2.1 (p := p) (by omega)
        rw [k2, r1, unX hf k1 q1, unM hf k1 q1, bnd_s, bnd_s]
        by_cases u : isU kd k = true
        · rw [if_pos u, if_neg n10, if_neg n10]; exact ⟨_, _, _, rfl, rfl, h⟩
        · rw [if_neg u, if_pos rfl, if_pos rfl]; exact fK h
/-! tape, images -/
theorem o_wipe {hx hm : Hp} (h : R hx hm) : Eqv (X7_wipe hx) (X8_wipe hm) := by
  unfold X7_wipe X8_wipe
  refine ⟨_, _, _, rfl, by rw [h.2.2.2.1.1], h.tape (hx1 := up hx 40 1 0) (hm1 := up hm 0 10 0) (fun k _ h1 _ => up_ne h1) (fun k hk _ => up_ne (fun z => by subst z; rcases hk with z | z | z | z | z | z | z <;> omega)) (up_ni (by omega)) ?_⟩
  refine ⟨by rw [up_eq, up_eq], by rw [up_eq]; decide, by rw [up_eq]; decide, fun i hi => ?_⟩
  rw [up_eq, ti_lit0] at hi
  omega
theorem o_tear {hx hm : Hp} (h : R hx hm) : Eqv (X7_tear hx) (X8_tear hm) := by
  unfold X7_tear X8_tear
  have hR : R (up hx 0 9 0) (up hm 0 3 0) := by
    obtain ⟨h1, h2, h3, h4, h5, h6⟩ := h
    refine ⟨h1.oth (by omega) (by omega), h2.oth (by omega), ⟨by rw [up_eq, up_eq], Or.inl up_eq⟩, ?_, ?_, ?_⟩
    · unfold TR
      rw [show up hx 0 9 0 40 = hx 40 from up_ne (by omega), show up hx 0 9 0 41 = hx 41 from up_ne (by omega), show up hm 0 3 0 0 10 = hm 0 10 from up_ni (by omega), show up hm 0 3 0 6 = hm 6 from up_ne (by omega)]; exact h4
    · intro s hs
      rw [up_ne (by omega), up_ne (by omega), up_ne (by omega), up_ne (by omega), up_ne (by omega)]; exact h5 s hs
    · unfold CR
      rw [up_ne (by omega), up_ne (by omega)]; exact h6
  rw [← h.2.2.1.1]
  by_cases c : hx 0 9 = 0
  · rw [if_pos c, if_pos c]; exact ⟨_, _, _, rfl, rfl, hR⟩
  · rw [if_neg c, if_neg c]; exact ⟨_, _, _, rfl, rfl, hR⟩
theorem st_loop {h : Hp} {fu : Nat} : ∀ (k i n : Nat) (a : Int32), i + k = 7 → k < n → X7_status_32 fu n a (nI i) h = some ((List.range' i k).foldl (fun s j => s + h 55 j) a, h) := by
  intro k
  induction k with
  | zero =>
    intro i n a hi hn
    obtain ⟨m, rfl⟩ : ∃ m, n = m + 1 := ⟨n - 1, by omega⟩
    rw [X7_status_32, if_pos (show (7 : Int32) ≤ nI i from nI_le (a := 7) (by omega) (by omega))]
    rfl
  | succ k ih =>
    intro i n a hi hn
    obtain ⟨m, rfl⟩ : ∃ m, n = m + 1 := ⟨n - 1, by omega⟩
    rw [X7_status_32, if_neg (show ¬ (7 : Int32) ≤ nI i from nI_ge (b := 7) (by omega) (by omega)), ck_nI (by omega) (by decide), cl_nI (by omega), nI_1, ih (i + 1) m _ (by omega) (by omega)]
    rfl
theorem o_status {hx hm : Hp} {fu : Nat} (hf : 8 ≤ fu) (h : R hx hm) (x : Int32) : Eqv (X7_status fu x hx) (X8_status x hm) := by
  unfold X7_status X8_status
  rw [w8]
  rcases wr x (-1) 6 with ⟨a, b⟩ | ⟨a, b, c⟩
  · rw [a, if_pos rfl, if_pos rfl]; exact fB h
  · rw [a, if_neg n10, if_neg n10]
    have e6 : (6 : Int32).toInt = 6 := rfl
    by_cases d : x < 0
    · rw [if_pos d]
      have : x = -1 := by rw [ti_eq, ti_litm1]; rw [ti_lt, ti_lit0] at d; rw [ti_litm1] at b; omega
      subst this
      rw [show (0 : Int32) = nI 0 from rfl, st_loop 7 0 fu _ (by omega) (by omega), show (-1 : Int32) + 1 = nI 0 by decide, ck_nI (by decide) (by decide), cl_nI (by decide), h.2.2.2.2.2.2]
      refine ⟨_, _, _, rfl, ?_, h⟩
      simp [List.range', nI_0]
    · rw [if_neg d]
      rw [ti_lt, ti_lit0] at d
      obtain ⟨j, j1, j2⟩ := ti_ex (x := x) (b := 6) (by omega) c
      rw [j2, nI_1, ck_nI (by omega) (by decide), ck_nI (by omega) (by decide), cl_nI (by omega), cl_nI (by omega), h.2.2.2.2.2.1 j (by omega)]
      exact ⟨_, _, _, rfl, rfl, h⟩
