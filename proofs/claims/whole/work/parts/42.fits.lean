theorem full_bit {F b : Nat} : (2 ^ F - 1).testBit b = decide (b < F) := Nat.testBit_two_pow_sub_one F b
theorem full_lt {F : Nat} (hF : F ≤ 6) : 2 ^ F - 1 < 64 := by
  have : 2 ^ F ≤ 2 ^ 6 := Nat.pow_le_pow_right (by omega) hF
  have := Nat.two_pow_pos F
  omega
theorem rS_full (F : Nat) : rS (2 ^ F - 1) = SF F := by
  funext a
  unfold rS SF
  exact full_bit
theorem hE_all : hE 100 10 = hU 0 := by
  funext i
  unfold hE hU
  rw [Nat.zero_testBit]
  by_cases z : i < 10
  · have : ¬ i = 100 := by omega
    simp [z, this]
  · simp [z]
theorem hE_one (i : Nat) : hE i 10 = rmv (hU 0) i := by
  funext z
  unfold hE hU rmv
  simp only [Nat.zero_testBit]
  simp
theorem facesX {h : Hp} {c sz : Nat} (hsz : sz ≤ 40) (e : h c 2 = nI sz) : X6_facesOf c h = nI (2 ^ (min sz 6) - 1) := by
  unfold X6_facesOf
  rw [e, show jmin (nI sz) (6 : Int32) = nI (min sz 6) from jmin_nI (b := 6) (by omega) (by omega), shl1 _ (by omega)]
  exact pk_sub (b := 1) (Nat.two_pow_pos _)
theorem ways_eq {tds : Nat → Nat} {F : Nat} (hF : F ≤ 6) : cN tds 100 10 (2 ^ F - 1) = CF (okT tds) (SF F) 6 (hU 0) := by
  rw [cN_V 10 (by omega) _ (full_lt hF), rS_full, hE_all]
theorem ways_eq1 {tds : Nat → Nat} {F a i : Nat} (hF : F ≤ 6) (ha : a < 6) : cN tds i 10 (clr (2 ^ F - 1) a) = CF (okT tds) (rmv (SF F) (5 - a)) 6 (rmv (hU 0) i) := by
  rw [cN_V 10 (by omega) _ (Nat.lt_of_le_of_lt (clr_le _ _) (full_lt hF)), hE_one]
  refine CF_S 6 _ (fun b hb => ?_)
  rw [← rS_full]
  unfold rmv rS
  rw [clr_bit]
  have : (b = 5 - a) ↔ (5 - b = a) := by omega
  simp only [this]
theorem R.fr2 {hx hm hx1 hm1 : Hp} (h : R hx hm) (a : ∀ c, c ≠ 38 → c ≠ 39 → hx1 c = hx c) (b : ∀ j, j ≠ 7 → j ≠ 8 → hm1 0 j = hm 0 j) (c : ∀ c, c ≠ 0 → hm1 c = hm c) : R hx1 hm1 :=
  h.frame (fun k hk => a k (by unfold cX at hk; omega) (by unfold cX at hk; omega)) ⟨fun k hk => c k (by unfold cM at hk; omega), b 3 (by decide) (by decide), b 10 (by decide) (by decide)⟩
theorem waysO {hx hm : Hp} (h : R hx hm) {fu np s sz a : Nat} {aq : Int32} (hfu : 12 ≤ fu) (np1 : np ≤ 10) (np2 : hx 1 10 = nI np) (hs : s < 4) (hsz : sz ≤ 40) (e : hm 10 s = nI sz) (hq : ∀ f, f < 6 → (nI f = aq ↔ f = a)) : ∃ g1, X8_waysOf fu (nI s) aq hm = some (nI (CF (okT (td hx (47 + 2 * s) np (min sz 6))) (SF (min sz 6)) 6 (hU 0)), g1) ∧ g1 0 8 = nI (bs (stQ (okT (td hx (47 + 2 * s) np (min sz 6))) (min sz 6) a 0 0) 10) ∧ (∀ j, j ≠ 7 → j ≠ 8 → g1 0 j = hm 0 j) ∧ (∀ c, c ≠ 0 → g1 c = hm c) := by
  unfold X8_waysOf
  rw [ck_nI hs (by decide), cl_nI (by omega), up_ne (by decide), up_ne (by decide), e, show jmin (6 : Int32) (nI sz) = nI (min 6 sz) from jmin_nI (a := 6) (by omega) (by omega), show min 6 sz = min sz 6 by omega, bnd_eta]
  obtain ⟨g1, a1, a2, a3, a4⟩ := wFrom h (fu := fu) (F := min sz 6) (a := a) (aq := aq) hfu np1 np2 hs (by omega) hq (min sz 6) 0 8 0 (up (up hm 0 7 aq) 0 8 0) (by omega) (by omega) (by omega) (by rw [up_ne (by decide), up_ne (by decide)]) (by rw [up_ne (by decide), up_ne (by decide)]) (by rw [up_nj (by decide), up_eq])
  refine ⟨g1, a1, ?_, fun j j7 j8 => by rw [a3 j j8, up_nj j8, up_nj j7], fun c hc => by rw [a4 c hc, up_ne hc, up_ne hc]⟩
  rw [a2, up_eq, Int32.zero_or]
theorem shcC {s : Nat} (hs : s < 4) : 47 + 2 * s = 47 ∨ 47 + 2 * s = 49 ∨ 47 + 2 * s = 51 ∨ 47 + 2 * s = 53 := by omega
theorem o_fits {hx hm : Hp} {fu : Nat} (hf : 70 ≤ fu) (h : R hx hm) (x1 : Int32) : Eqv (X7_fits fu x1 hx) (X8_fits fu x1 hm) := by
  obtain ⟨np, np1, np2⟩ := npN h.2.1
  unfold X7_fits X8_fits X7_isSheet X8_isSheet
  rw [w8]
  rcases wn x1 (M := 3) 4 (by decide) (by decide) with ⟨q, -⟩ | ⟨s, q, r, t⟩
  · rw [q, if_pos rfl, if_pos rfl]; exact fB h
  · have hS := h.2.2.2.2.1
    obtain ⟨n, n1, n2, n3⟩ := szN hS q
    rw [t, if_neg n10, if_neg n10, r, shc_nI q, cl_nI (by omega), missX hS q]
    simp only [ck_nI q (show 4 < 2147483648 by decide)]
    by_cases b : hm 9 s = 0
    · rw [if_pos b, if_neg n10, if_pos b]; exact fQ h
    · rw [if_neg b, if_pos rfl, if_neg b, bnd_eta, bnd_eta]
      obtain ⟨h1, a1, a2, a3⟩ := tlX h.2.1 (fu := fu) (by omega) np1 np2 n1 (shcC q) n2
      obtain ⟨h2, b1, b2⟩ := wfX (fu := fu) (full := 2 ^ (min n 6) - 1) (ex := 100) (x2 := -1) (tds := td hx (47 + 2 * s) np (min n 6)) hf (full_lt (by omega)) (fun j => td_lt (by omega)) (fun j hj => ⟨fun z => by rw [ti_eq, ti_nI (by omega), ti_litm1] at z; omega, fun z => by omega⟩) h1 a2
      obtain ⟨g1, c1, c2, c3, c4⟩ := waysO h (fu := fu) (a := 100) (aq := -1) (by omega) np1 np2 q n1 n3 (fun f hf => ⟨fun z => by rw [ti_eq, ti_nI (by omega), ti_litm1] at z; omega, fun z => by omega⟩)
      unfold X6_allWays
      rw [a1, bnd_s, facesX n1 (by rw [a3 _ (by omega)]; exact n2), b1, bnd_s, c1, ways_eq (by omega)]
      exact ⟨_, _, _, rfl, rfl, h.fr2 (fun c x1 x2 => by show h2 c = hx c; rw [b2 c x2, a3 c x1]) c3 c4⟩
theorem hf24 {fu full a : Nat} {tds : Nat → Nat} (hfu : 70 ≤ fu) (hfl : full < 64) (ha : a < 6) (c : Nat) (htd : ∀ j, tds j < 64) : ∀ (k i n : Nat) (h : Hp), i + k = 10 → k < n → (∀ j, j < 10 → h 38 j = nI (tds j)) → (∀ i, i < 10 → cN tds i 10 full < 2000000) → ∃ h1, X6_headsFor_24 fu c n (nI a) (nI full) (nI (bs (fun i => (tds i).testBit a && decide (0 < cN tds i 10 full)) i)) (nI i) h = some (nI (bs (fun i => (tds i).testBit a && decide (0 < cN tds i 10 full)) 10), h1) ∧ (∀ q, q ≠ 39 → h1 q = h q) := by
  intro k
  induction k with
  | zero =>
    intro i n h hi hn e eb
    obtain ⟨m, rfl⟩ : ∃ m, n = m + 1 := ⟨n - 1, by omega⟩
    rw [X6_headsFor_24, if_pos (show (10 : Int32) ≤ nI i from nI_le (a := 10) (by omega) (by omega)), show i = 10 by omega]
    exact ⟨h, rfl, fun _ _ => rfl⟩
  | succ k ih =>
    intro i n h hi hn e eb
    obtain ⟨m, rfl⟩ : ∃ m, n = m + 1 := ⟨n - 1, by omega⟩
    have ti := htd i
    rw [X6_headsFor_24, if_neg (show ¬ (10 : Int32) ≤ nI i from nI_ge (b := 10) (by omega) (by omega)), ck10 (by omega), cl_nI (by omega), e i (by omega), nI_1]
    by_cases z : (tds i).testBit a = true
    · rw [if_neg (fun q => by rw [(and_z (by omega) (by omega)).mp q] at z; exact absurd z (by decide))]
      obtain ⟨h2, b1, b2⟩ := wfX (fu := fu) (full := full) (ex := i) (x2 := nI i) (tds := tds) hfu hfl htd (fun j hj => nI_eq (by omega) (by omega)) h e
      have bb := eb i (by omega)
      rw [b1, bnd_s]
      dsimp only
      by_cases y : 0 < cN tds i 10 full
      · rw [if_neg (show ¬ nI (cN tds i 10 full) ≤ 0 from nI_ge (a := 0) y (by omega)), or_bit (by omega), ← bs_t (P := fun i => (tds i).testBit a && decide (0 < cN tds i 10 full)) (show ((tds i).testBit a && decide (0 < cN tds i 10 full)) = true by rw [z, decide_eq_true y]; rfl)]
        obtain ⟨h3, d1, d2⟩ := ih (i + 1) m h2 (by omega) (by omega) (fun j hj => by rw [b2 38 (by decide)]; exact e j hj) eb
        exact ⟨h3, d1, fun q hq => by rw [d2 q hq, b2 q hq]⟩
      · rw [if_pos (show nI (cN tds i 10 full) ≤ 0 from nI_le (b := 0) (by omega) (by omega)), ← bs_f (P := fun i => (tds i).testBit a && decide (0 < cN tds i 10 full)) (show ¬ ((tds i).testBit a && decide (0 < cN tds i 10 full)) = true by rw [decide_eq_false y]; simp)]
        obtain ⟨h3, d1, d2⟩ := ih (i + 1) m h2 (by omega) (by omega) (fun j hj => by rw [b2 38 (by decide)]; exact e j hj) eb
        exact ⟨h3, d1, fun q hq => by rw [d2 q hq, b2 q hq]⟩
    · rw [if_pos ((and_z (by omega) (by omega)).mpr (by simpa using z)), ← bs_f (P := fun i => (tds i).testBit a && decide (0 < cN tds i 10 full)) (show ¬ ((tds i).testBit a && decide (0 < cN tds i 10 full)) = true by simp [z])]
      exact ih (i + 1) m h (by omega) (by omega) e eb
