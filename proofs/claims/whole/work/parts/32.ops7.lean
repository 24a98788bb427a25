theorem rS_all (h : Hp) : rS (bs (shP h) 6) = SM h := by
  funext a
  unfold rS SM
  rw [bs_bit]
  simp; omega
theorem hJ_all {h : Hp} {np : Nat} (hn : np ≤ 10) : hJ (bs (isH h) np) 10 = HB h np 0 := by
  funext i
  unfold hJ HB
  rw [bs_bit, Nat.zero_testBit]
  by_cases a : i < np
  · have : i < 10 := by omega
    simp [a, this]
  · simp [a]
theorem hJ_clr {hs p j : Nat} : hJ (clr hs p) j = rmv (hJ hs j) p := by
  funext i
  unfold hJ rmv
  rw [clr_bit, Bool.and_assoc]
theorem HB_lo {h : Hp} {np p : Nat} : HB h np (2 ^ p) = rmv (HB h np 0) p := by
  funext i
  unfold HB rmv
  simp only [Nat.testBit_two_pow, Nat.zero_testBit]
  by_cases e : i = p
  · subst e; simp
  · have : ¬ p = i := fun q => e q.symm
    simp [e, this]
theorem Hu_0 {P : Nat → Bool} : Hu P 0 = P := by
  funext i
  unfold Hu
  rw [Nat.zero_testBit]
  simp
theorem HB_np {h : Hp} {np lo i : Nat} (a : HB h np lo i = true) : i < np := by
  unfold HB at a
  rw [Bool.and_eq_true, Bool.and_eq_true] at a
  simpa using a.1.1
theorem most_eq {hx : Hp} {np : Nat} (np1 : np ≤ 10) : bN (RT hx) (bs (isH hx) np) 10 (bs (shP hx) 6) = wN (RT hx) (SM hx) (HB hx np 0) np 6 0 := by
  have a := bN_V (rt := RT hx) (hs := bs (isH hx) np) 10 (bs (shP hx) 6)
  have b := wN_V (rt := RT hx) (S := SM hx) (P := HB hx np 0) (np := np) (fun i hi => HB_np hi) 6 0
  rw [rS_all, hJ_all np1] at a
  rw [Hu_0] at b
  exact VF_u a b
theorem most_eq1 {hx : Hp} {np p : Nat} (np1 : np ≤ 10) : bN (RT hx) (clr (bs (isH hx) np) p) 10 (bs (shP hx) 6) = wN (RT hx) (SM hx) (HB hx np (2 ^ p)) np 6 0 := by
  have a := bN_V (rt := RT hx) (hs := clr (bs (isH hx) np) p) 10 (bs (shP hx) 6)
  have b := wN_V (rt := RT hx) (S := SM hx) (P := HB hx np (2 ^ p)) (np := np) (fun i hi => HB_np hi) 6 0
  rw [rS_all, hJ_clr, hJ_all np1] at a
  rw [Hu_0, HB_lo] at b
  exact VF_u a (by rw [HB_lo]; exact b)
theorem isH_lt (h : Hp) {np : Nat} (hn : np ≤ 10) : bs (isH h) np < 1024 := Nat.lt_of_lt_of_le (bs_lt _ _) (show 2 ^ np ≤ 2 ^ 10 from Nat.pow_le_pow_right (by omega) hn)
/-- the class looks, and fills its table -/
theorem lookX {hx : Hp} (hI : HI 1 hx) {fu np : Nat} (hfu : 70 ≤ fu) (np1 : np ≤ 10) (np2 : hx 1 10 = nI np) : ∃ h2, X0_survey fu hx = some h2 ∧ h2 34 3 = nI (bs (shP hx) 6) ∧ h2 34 2 = nI (bs (isH hx) np) ∧ (∀ c, c ≠ 34 → c ≠ 35 → h2 c = hx c) ∧ ∀ hs rooms h, sub hs (bs (isH hx) np) → sub rooms (bs (shP hx) 6) → h 35 = h2 35 → ∃ h3, X0_fill fu (nI rooms) (nI hs) h = some (nI (bN (RT hx) hs 10 rooms), h3) ∧ (∀ m, sub m rooms → h3 36 m = nI (bN (RT hx) hs 10 m)) ∧ (∀ q, q ≠ 36 → h3 q = h q) := by
  obtain ⟨h2, a1, a2, a3, a4, a5⟩ := svX hI (fu := fu) (by omega) np1 np2
  refine ⟨h2, a1, a2, a3, a5, fun hs rooms h s1 s2 e => ?_⟩
  have l1 := isH_lt hx np1
  have l2 : bs (shP hx) 6 < 64 := bs_lt _ _
  have := sub_le s1
  have := sub_le s2
  refine fillX hfu (by omega) (by omega) (RT_b hx) h (fun i r i1 i2 r1 r2 => ?_)
  have j1 := s1 i i2
  have j2 := s2 r r2
  rw [bs_bit, Bool.and_eq_true] at j1 j2
  rw [e]
  exact a4 i r (by simpa using j1.1) j1.2 r1 j2.2
theorem sub_rf (m : Nat) : sub m m := fun _ h => h
theorem R.fr {hx hm hx1 hm1 : Hp} (h : R hx hm) (a : ∀ c, c ≠ 34 → c ≠ 35 → c ≠ 36 → hx1 c = hx c) (b : ∀ j, j ≠ 6 → hm1 0 j = hm 0 j) (c : ∀ c, c ≠ 5 → c ≠ 0 → hm1 c = hm c) : R hx1 hm1 :=
  h.frame (fun k hk => a k (by unfold cX at hk; omega) (by unfold cX at hk; omega) (by unfold cX at hk; omega)) ⟨fun k hk => c k (by unfold cM at hk; omega) (by unfold cM at hk; omega), b 3 (by decide), b 10 (by decide)⟩
theorem o_most {hx hm : Hp} {fu : Nat} (hf : 1100 ≤ fu) (h : R hx hm) : Eqv (X7_most fu hx) (X8_most fu hm) := by
  obtain ⟨np, np1, np2⟩ := npN h.2.1
  obtain ⟨h2, a1, a2, a3, a4, a5⟩ := lookX h.2.1 (fu := fu) (by omega) np1 np2
  obtain ⟨h3, b1, b2, b3⟩ := a5 _ _ h2 (sub_rf _) (sub_rf _) rfl
  obtain ⟨g, c1, c2, c3, c4, c5⟩ := findM h.1 h.2.1 (fu := fu) (lo := 0) hf np1 np2 (by omega)
  unfold X7_most X8_most X0_bestWorth
  rw [bnd_eta, bnd_eta, a1, bnd_s, a2, a3, b1, bnd_s, show X8_findMost fu 0 hm = _ from c1, most_eq np1]
  exact ⟨_, _, _, rfl, rfl, h.fr (fun c x1 x2 x3 => by show h3 c = hx c; rw [b3 c x3, a4 c x1 x2]) c4 c5⟩
theorem o_missed {hx hm : Hp} {fu : Nat} (hf : 1100 ≤ fu) (h : R hx hm) (x : Int32) : Eqv (X7_missed fu x hx) (X8_missed fu x hm) := by
  obtain ⟨np, np1, np2⟩ := npN h.2.1
  unfold X7_missed X8_missed
  rcases hasP h.1 np2 np1 x with ⟨a, b, -⟩ | ⟨p, p1, rfl, a, b⟩
  · rw [if_pos a, b, bnd_s, if_pos rfl]; exact fB h
  rw [if_neg (by rw [a]; decide), b, bnd_s, if_neg n10]
  obtain ⟨h2, a1, a2, a3, a4, a5⟩ := lookX h.2.1 (fu := fu) (by omega) np1 np2
  obtain ⟨h3, b1, b2, b3⟩ := a5 _ _ h2 (sub_rf _) (sub_rf _) rfl
  obtain ⟨h4, d1, d2, d3⟩ := a5 (clr (bs (isH hx) np) p) _ h3 (sub_clr (sub_rf _)) (sub_rf _) (b3 35 (by decide))
  obtain ⟨g, c1, c2, c3, c4, c5⟩ := findM h.1 h.2.1 (fu := fu) (lo := 0) hf np1 np2 (by omega)
  have hRg : HR 1 1 hx g := h.1.frame (fun _ _ => rfl) (c5 1 (by decide) (by decide))
  obtain ⟨g2, e1, e2, e3, e4, e5⟩ := findM hRg h.2.1 (fu := fu) (lo := 2 ^ p) hf np1 np2 (Nat.pow_lt_pow_right (n := 10) (by omega) (by omega))
  unfold X0_lossOf
  rw [bnd_eta, a1, bnd_s, a2, a3, b1, bnd_s]
  dsimp only
  rw [b3 34 (by decide), a2, a3, clr_nI (by omega), d1, bnd_s, show X8_findMost fu 0 hm = _ from c1, bnd_s, shl1 p (by omega)]
  dsimp only
  rw [e1, bnd_s, most_eq np1, most_eq1 np1]
  exact ⟨_, _, _, rfl, rfl, h.fr (fun c x1 x2 x3 => by show h4 c = hx c; rw [d3 c x3, b3 c x3, a4 c x1 x2]) (fun j hj => by show g2 0 j = hm 0 j; rw [e4 j hj, c4 j hj]) (fun c x1 x2 => by show g2 c = hm c; rw [e5 c x1 x2, c5 c x1 x2])⟩
/-! a head made otherwise -/
theorem SM_e {h hx : Hp} (e : h 8 = hx 8) : SM h = SM hx := by funext a; unfold SM shP; rw [e]
theorem ww14 {hx' h3 : Hp} (hI : HI 1 hx') {fu np p : Nat} (hfu : 12 ≤ fu) (np1 : np ≤ 10) (pp : p < np) {b : Nat → Nat} (hb : ∀ m, b m ≤ 1000) (e8 : h3 8 = hx' 8) (e6 : h3 6 = hx' 6) (e3 : h3 34 3 = nI (bs (shP hx') 6)) (et : ∀ m, sub m (bs (shP hx') 6) → h3 36 m = nI (b m)) (hd : isH hx' p = true) : ∀ (k r n : Nat), r + k = 6 → k < n → X0_worthWith_14 fu h3 n (hx' 2 p) (hx' 3 p) (nI (mxF (shP hx') (fun r => b (clr (bs (shP hx') 6) r) + RT hx' p (5 - r)) (b (bs (shP hx') 6)) r)) (nI r) = some (nI (mxF (shP hx') (fun r => b (clr (bs (shP hx') 6) r) + RT hx' p (5 - r)) (b (bs (shP hx') 6)) 6)) := by
  have hp : p < 10 := by omega
  have B : ∀ i, mxF (shP hx') (fun r => b (clr (bs (shP hx') 6) r) + RT hx' p (5 - r)) (b (bs (shP hx') 6)) i ≤ 2000 := fun i => mxF_b (by have := hb (bs (shP hx') 6); omega) (fun j _ _ => by have := hb (clr (bs (shP hx') 6) j); have := RT_b hx' p (5 - j); omega)
  obtain ⟨kd, kd1, kd2⟩ := kdN hI hp
  have iu : isU kd 1 = true := by unfold isH at hd; rw [kd2, cl_nI (by omega)] at hd; exact hd
  have un : X2_isUnder fu (hx' 2 p) 1 h3 = some 1 := by
    have := unX (fu := fu) (k := kd) (t := 1) (by omega) kd1 (by omega) h3
    rw [iu, if_pos rfl, ← kd2] at this
    exact this
  intro k
  induction k with
  | zero =>
    intro r n hr hn
    obtain ⟨m, rfl⟩ : ∃ m, n = m + 1 := ⟨n - 1, by omega⟩
    rw [X0_worthWith_14, if_pos (show (6 : Int32) ≤ nI r from nI_le (a := 6) (by omega) (by omega)), show r = 6 by omega]
  | succ k ih =>
    intro r n hr hn
    obtain ⟨m, rfl⟩ : ∃ m, n = m + 1 := ⟨n - 1, by omega⟩
    have l2 : bs (shP hx') 6 < 64 := bs_lt _ _
    have l3 := clr_le (bs (shP hx') 6) r
    rw [X0_worthWith_14, if_neg (show ¬ (6 : Int32) ≤ nI r from nI_ge (b := 6) (by omega) (by omega)), un, bnd_s, if_neg n10, ck_nI (by omega) (by decide), cl_nI (by omega), e8, e6, isF hI (by omega), e3, clr_nI (by omega), nI_1]
    by_cases s : shP hx' r = true
    · obtain ⟨f, f1, f2, f3, f4⟩ := rt_ok hI hp (show r < 6 by omega) s
      rw [if_pos s, if_neg n10, f2, ck_nI f1 (by decide), cl_nI (by omega), lk_X, bnd_s, ck_nI (by omega) (by decide), cl_nI (by omega), et _ (sub_clr (sub_rf _)), show lkV (hx' 2 p) (hx' 3 p) (hx' 6 f) = lkH hx' p f from rfl, f4, nI_add]
      have b1 := B r
      have b2 := hb (clr (bs (shP hx') 6) r)
      have b3 := RT_b hx' p (5 - r)
      rw [jmax_nI (by omega) (by omega), ← mxF_t (P := shP hx') (f := fun r => b (clr (bs (shP hx') 6) r) + RT hx' p (5 - r)) s]
      exact ih (r + 1) m (by omega) (by omega)
    · rw [if_neg s, if_pos rfl, ← mxF_f (P := shP hx') (f := fun r => b (clr (bs (shP hx') 6) r) + RT hx' p (5 - r)) s]
      exact ih (r + 1) m (by omega) (by omega)
/-- what a part made otherwise would give: the class's answer is the most -/
theorem wwX {hx hx' h3 : Hp} (hI' : HI 1 hx') {fu np p : Nat} (hfu : 12 ≤ fu) (np1 : np ≤ 10) (pp : p < np) (c8 : hx' 8 = hx 8) (c6 : hx' 6 = hx 6) (c2 : ∀ i, i ≠ p → hx' 2 i = hx 2 i) (c3 : ∀ i, i ≠ p → hx' 3 i = hx 3 i) (e8 : h3 8 = hx 8) (e6 : h3 6 = hx 6) (e3 : h3 34 3 = nI (bs (shP hx) 6)) (et : ∀ m, sub m (bs (shP hx) 6) → h3 36 m = nI (bN (RT hx) (clr (bs (isH hx) np) p) 10 m)) : X0_worthWith fu (hx' 2 p) (hx' 3 p) h3 = some (nI (wN (RT hx') (SM hx') (HB hx' np 0) np 6 0)) := by
  have hp : p < 10 := by omega
  have sh : shP hx' = shP hx := by funext r; unfold shP; rw [c8]
  have l2 : bs (shP hx) 6 < 64 := bs_lt _ _
  have hb : ∀ m, bN (RT hx) (clr (bs (isH hx) np) p) 10 m ≤ 1000 := fun m => by have := bN_b (hs := clr (bs (isH hx) np) p) (RT_b hx) 10 m; omega
  have V := fun m => bN_V (rt := RT hx) (hs := clr (bs (isH hx) np) p) 10 m
  have Hi : ∀ i, i ≠ p → isH hx' i = isH hx i := fun i hi => by unfold isH; rw [c2 i hi]
  have Hr : rmv (HB hx' np 0) p = rmv (HB hx np 0) p := by
    funext i
    unfold rmv HB
    by_cases e : i = p
    · simp [e]
    · rw [Hi i e]
  have rtE : ∀ i a, rmv (HB hx np 0) p i = true → RT hx' i a = RT hx i a := fun i a hi => by
    have : i ≠ p := fun e => by unfold rmv at hi; simp [e] at hi
    unfold RT lkH
    rw [c8, c6, c2 i this, c3 i this]
  have W := wN_V (rt := RT hx') (S := SM hx') (P := HB hx' np 0) (np := np) (fun i hi => HB_np hi) 6 0
  rw [Hu_0] at W
  unfold X0_worthWith
  rw [e3, ck_nI (by omega) (by decide), cl_nI (by omega), et _ (sub_rf _)]
  by_cases hd : isH hx' p = true
  · have t := ww14 (h3 := h3) hI' (fu := fu) (b := bN (RT hx) (clr (bs (isH hx) np) p) 10) hfu np1 pp hb (e8.trans c8.symm) (e6.trans c6.symm) (by rw [sh]; exact e3) (by rw [sh]; exact et) hd 6 0 fu (by omega) (by omega)
    rw [sh] at t
    rw [show X0_worthWith_14 fu h3 fu (hx' 2 p) (hx' 3 p) (nI (bN (RT hx) (clr (bs (isH hx) np) p) 10 (bs (shP hx) 6))) 0 = _ from t]
    congr 2
    refine VF_u (rt := RT hx') (S := SM hx') (n := 6) (H := HB hx' np 0) (fun c v => ?_) W
    have hb' : HB hx' np 0 p = true := by unfold HB; simp [pp, hd]
    rw [← add_rmv hb', UF_add 6 _ _ p c v (by unfold rmv; simp), Hr, SM_e c8, mxF_le, V (bs (shP hx) 6) c v, rS_all, hJ_clr, hJ_all np1]
    have cl : ∀ s, s < 6 → (UF (RT hx') (rmv (SM hx) s) 6 (rmv (HB hx np 0) p) (c + RT hx' p s) v ↔ c + RT hx' p s + bN (RT hx) (clr (bs (isH hx) np) p) 10 (clr (bs (shP hx) 6) (5 - s)) ≤ v) := fun s hs1 => by
      rw [V (clr (bs (shP hx) 6) (5 - s)) (c + RT hx' p s) v, UF_rt 6 _ _ _ (fun i a hi _ _ => rtE i a hi), hJ_clr, hJ_all np1]
      refine UF_S 6 _ _ _ (fun a ha => ?_)
      rw [← rS_all]
      unfold rmv rS
      rw [clr_bit]
      have : (a = s) ↔ (5 - a = 5 - s) := by omega
      simp only [this]
    rw [UF_rt 6 _ _ _ (fun i a hi _ _ => rtE i a hi)]
    constructor
    · rintro ⟨h1, h2⟩
      refine ⟨h1, fun s s1 s2 => (cl s s1).mpr ?_⟩
      have := h2 (5 - s) (by omega) s2
      rw [show 5 - (5 - s) = s by omega] at this
      omega
    · rintro ⟨h1, h2⟩
      refine ⟨h1, fun r r1 r2 => ?_⟩
      have := (cl (5 - r) (by omega)).mp (h2 (5 - r) (by omega) (by unfold SM; rw [show 5 - (5 - r) = r by omega]; exact r2))
      rw [show 5 - (5 - r) = r by omega] at this
      omega
  · obtain ⟨fu', rfl⟩ : ∃ m, fu = m + 1 := ⟨fu - 1, by omega⟩
    obtain ⟨kd, kd1, kd2⟩ := kdN hI' hp
    have iu : ¬ isU kd 1 = true := by unfold isH at hd; rw [kd2, cl_nI (by omega)] at hd; exact hd
    have un : X2_isUnder (fu' + 1) (hx' 2 p) 1 h3 = some 0 := by
      have := unX (fu := fu' + 1) (k := kd) (t := 1) (by omega) kd1 (by omega) h3
      rw [if_neg iu, ← kd2] at this
      exact this
    rw [X0_worthWith_14, if_neg (by decide), un, bnd_s, if_pos rfl]
    congr 2
    refine VF_u (rt := RT hx') (S := SM hx') (n := 6) (H := HB hx' np 0) (fun c v => ?_) W
    have hb' : HB hx' np 0 p = false := by unfold HB; simp [hd]
    rw [← rmv_id hb', Hr, SM_e c8, UF_rt 6 _ _ _ (fun i a hi _ _ => rtE i a hi), V (bs (shP hx) 6) c v, rS_all, hJ_clr, hJ_all np1]
