/-! judging -/
theorem jdgL {hx hm : Hp} (h : R hx hm) {fu s sz : Nat} (hfu : 11 ≤ fu) (hs : s < 4) (hz : sz ≤ 40) (e1 : hx (47 + 2 * s) 2 = nI sz) (e2 : hm 10 s = nI sz) : ∀ (k i n : Nat), i + k = sz → k < n → Eqv (X7_judge_35 fu n (nI s) (nI i) hx) (X8_judge_32 fu n (nI s) (nI i) hm) := by
  have hS := h.2.2.2.2.1
  intro k
  induction k with
  | zero =>
    intro i n hi hn
    obtain ⟨m, rfl⟩ : ∃ m, n = m + 1 := ⟨n - 1, by omega⟩
    rw [X7_judge_35, X8_judge_32]
    unfold X8_judge_74
    simp only [ck_nI hs (show 4 < 2147483648 by decide), cl_nI (show s < 2147483648 by omega), shc_nI hs, e1, e2]
    rw [if_pos (nI_le (by omega) (by omega)), if_pos (nI_le (by omega) (by omega)), if_pos (by rw [show i = sz by omega])]
    exact ⟨_, _, _, rfl, rfl, h⟩
  | succ k ih =>
    intro i n hi hn
    obtain ⟨m, rfl⟩ : ∃ m, n = m + 1 := ⟨n - 1, by omega⟩
    rw [X7_judge_35, X8_judge_32]
    unfold X8_judge_74 X7_isRoom X8_isRoom
    simp only [ck_nI hs (show 4 < 2147483648 by decide), cl_nI (show s < 2147483648 by omega), shc_nI hs, e1, e2]
    have ne : ¬ nI i = nI sz := fun z => by rw [nI_eq (by omega) (by omega)] at z; omega
    rw [if_neg (nI_ge (by omega) (by omega)), if_neg (nI_ge (by omega) (by omega)), if_neg ne, w8]
    rcases wn (nI i) (M := 5) 6 (by decide) (by decide) with ⟨a, b⟩ | ⟨p, a, b, c⟩
    · rw [a, if_pos rfl, if_pos rfl]; exact ⟨_, _, _, rfl, rfl, h⟩
    · rw [nI_eq (by omega) (by omega)] at b
      subst b
      rw [c, if_neg n10, if_neg n10, ck_nI (by omega) (by decide), lnX_ok hfu h.2.1 a, bnd_s, show (40 : Int32) * nI s = nI (40 * s) from pk_mul 40 s, nI_add, ck_nI (by omega) (by decide), lnM_ok hfu h.1 h.2.1 a, bnd_s, cl_nI (show i < 2147483648 by omega), cl_nI (show 40 * s + i < 2147483648 by omega), nI_1]
      have e6 := (hS s hs).2.2.2.2.2 i (by omega)
      rw [show 48 + 2 * s = 47 + 2 * s + 1 by omega] at e6
      rw [e6]
      by_cases d : hm 11 (40 * s + i) = lnV hx i
      · rw [if_pos d, if_pos d]; exact ih (i + 1) m (by omega) (by omega)
      · rw [if_neg d, if_neg d]; exact ⟨_, _, _, rfl, rfl, h⟩
theorem o_judge {hx hm : Hp} {fu : Nat} (hf : 42 ≤ fu) (h : R hx hm) (x1 : Int32) : Eqv (X7_judge fu x1 hx) (X8_judge fu x1 hm) := by
  unfold X7_judge X8_judge X7_isSheet X8_isSheet
  rw [w8]
  rcases wn x1 (M := 3) 4 (by decide) (by decide) with ⟨q, -⟩ | ⟨s, q, r, t⟩
  · rw [q, if_pos rfl, if_pos rfl]; exact fB h
  · have hS := h.2.2.2.2.1
    obtain ⟨n, n1, n2, n3⟩ := szN hS q
    rw [t, if_neg n10, if_neg n10, r, shc_nI q, cl_nI (by omega), missX hS q]
    simp only [ck_nI q (show 4 < 2147483648 by decide)]
    by_cases b : hm 9 s = 0
    · rw [if_pos b, if_neg n10, if_pos b]; exact fQ h
    · rw [if_neg b, if_pos rfl, if_neg b]
      exact jdgL h (by omega) q n1 n2 n3 n 0 fu (by omega) (by omega)
/-! what a visitor has seen -/
theorem sgN {hx : Hp} (h : HI 1 hx) {i : Nat} (hi : i < 40) : ∃ s, s < 64 ∧ hx 10 i = nI s := by
  have := h.1 9 i (Or.inr ⟨by omega, by omega, hi⟩)
  obtain ⟨j, a, b⟩ := ti_ex (b := 63) this.1 this.2
  exact ⟨j, by omega, b⟩
def snP (h : Hp) (v : Nat) (x : Int32) : Nat → Bool := fun p => !decide (J6_bitCount_0f7a4 (h 10 (10 * v + p)) < x)
theorem sgX {h : Hp} {fu np v : Nat} (e : h 1 10 = nI np) (hn : np ≤ 10) (hv : v < 4) (x : Int32) : ∀ (k p n : Nat), p + k = np → k < n → X1_sighted_5 fu h n (nI v) x (nI (bs (snP h v x) p)) (nI p) = some (nI (bs (snP h v x) np)) := by
  intro k
  induction k with
  | zero =>
    intro p n hp hn1
    obtain ⟨m, rfl⟩ : ∃ m, n = m + 1 := ⟨n - 1, by omega⟩
    rw [X1_sighted_5, e, if_pos (nI_le (by omega) (by omega)), show p = np by omega]
  | succ k ih =>
    intro p n hp hn1
    obtain ⟨m, rfl⟩ : ∃ m, n = m + 1 := ⟨n - 1, by omega⟩
    rw [X1_sighted_5, e, if_neg (nI_ge (by omega) (by omega)), show nI v * 10 = nI (v * 10) from pk_mul v 10, nI_add, ck_nI (by omega) (by decide), cl_nI (by omega), nI_1, show v * 10 + p = 10 * v + p by omega]
    by_cases c : J6_bitCount_0f7a4 (h 10 (10 * v + p)) < x
    · rw [if_pos c, ← bs_f (show ¬ snP h v x p = true by unfold snP; simp [c])]; exact ih (p + 1) m (by omega) (by omega)
    · rw [if_neg c, or_bit (by omega), ← bs_t (show snP h v x p = true by unfold snP; simp [c])]; exact ih (p + 1) m (by omega) (by omega)
theorem sgM {hx hm : Hp} (h : HR 1 1 hx hm) (hi : HI 1 hx) {fu v : Nat} (hfu : 11 ≤ fu) (hv : v < 4) (x : Int32) : ∀ (k p n : Nat), p + k = 10 → k < n → X8_seenIn_5 fu hm n (nI v) x (nI (bs (snP hx v x) p)) (nI p) = some (nI (bs (snP hx v x) 10)) := by
  intro k
  induction k with
  | zero =>
    intro p n hp hn1
    obtain ⟨m, rfl⟩ : ∃ m, n = m + 1 := ⟨n - 1, by omega⟩
    rw [X8_seenIn_5, if_pos (show (10 : Int32) ≤ nI p from nI_le (a := 10) (by omega) (by omega)), show p = 10 by omega]
  | succ k ih =>
    intro p n hp hn1
    obtain ⟨m, rfl⟩ : ∃ m, n = m + 1 := ⟨n - 1, by omega⟩
    obtain ⟨s, s1, s2⟩ := sgN hi (i := 10 * v + p) (by omega)
    rw [X8_seenIn_5, if_neg (show ¬ (10 : Int32) ≤ nI p from nI_ge (b := 10) (by omega) (by omega)), show (10 : Int32) * nI v = nI (10 * v) from pk_mul 10 v, show (77 : Int32) + nI (10 * v) = nI (77 + 10 * v) from nI_add 77 (10 * v), nI_add, ck_nI (by omega) (by decide), cl_nI (by omega), show 77 + 10 * v + p = 77 + (10 * v + p) by omega, rf9 h (by omega), s2, bits_nI hfu (by omega), bnd_s, nI_1, or_0, ← s2]
    by_cases c : J6_bitCount_0f7a4 (hx 10 (10 * v + p)) < x
    · rw [if_pos c, ← bs_f (show ¬ snP hx v x p = true by unfold snP; simp [c])]; exact ih (p + 1) m (by omega) (by omega)
    · rw [if_neg c, or_bit (by omega), ← bs_t (show snP hx v x p = true by unfold snP; simp [c])]; exact ih (p + 1) m (by omega) (by omega)
theorem sg_eq {hx hm : Hp} {fu : Nat} (hfu : 12 ≤ fu) (h : R hx hm) {v : Nat} (hv : v < 4) {x : Int32} (hx1 : x = 1 ∨ x = 2) {np : Nat} (e : hx 1 10 = nI np) (hn : np ≤ 10) : X1_sighted fu (nI v) x hx = some (nI (bs (snP hx v x) np)) ∧ X8_seenIn fu (nI v) x hm = some (nI (bs (snP hx v x) np)) := by
  refine ⟨sgX e hn hv x np 0 fu (by omega) (by omega), ?_⟩
  have a := sgM (fu := fu) h.1 h.2.1 (by omega) hv x 10 0 fu (by omega) (by omega)
  have b : bs (snP hx v x) (np + (10 - np)) = bs (snP hx v x) np := bs_more _ (fun p p1 p2 => by
    have z := h.2.1.2.2.1 v p hv (by omega) (Or.inr (by rw [e, ti_nI (by omega)]; omega))
    have z1 : hx 10 (10 * v + p) = 0 := z
    unfold snP
    rw [z1]
    rcases hx1 with rfl | rfl <;> decide)
  rw [show np + (10 - np) = 10 by omega] at b
  unfold X8_seenIn
  rw [show X8_seenIn_5 fu hm fu (nI v) x 0 0 = _ from a, b]
theorem o_seen {hx hm : Hp} {fu : Nat} (hf : 12 ≤ fu) (h : R hx hm) (x1 x2 : Int32) : Eqv (X7_seen fu x1 x2 hx) (X8_seen fu x1 x2 hm) := by
  obtain ⟨nv, n1, n2⟩ := nvN h.2.1
  obtain ⟨np, p1, p2⟩ := npN h.2.1
  unfold X7_seen X8_seen X1_hasVisitor
  rw [w8, rnv h.1, n2]
  rcases wn_sz (x := x1) (n := nv) (by omega) with ⟨q, -⟩ | ⟨v, q, r, t⟩
  · rw [q, if_pos rfl, if_pos rfl]; exact fB h
  · rw [t, if_neg n10, if_neg n10, r]
    rcases wn x2 (M := 2) 3 (by decide) (by decide) with ⟨a, b⟩ | ⟨w, a, b, c⟩
    · rw [a, if_pos rfl, if_neg (show ¬ x2 = 0 from b 0 (by decide)), if_neg (show ¬ x2 = 1 from b 1 (by decide)), if_neg (show ¬ x2 = 2 from b 2 (by decide))]; exact fB h
    · rw [c, if_neg n10]
      rcases (show w = 0 ∨ w = 1 ∨ w = 2 by omega) with z | z | z <;> subst z
      · rw [show x2 = 0 from b, if_pos rfl, if_pos rfl, roomX h.2.1 (by omega), roomM h.1 h.2.1 (by omega), bnd_s, bnd_s]; exact ⟨_, _, _, rfl, rfl, h⟩
      · obtain ⟨a1, a2⟩ := sg_eq (fu := fu) hf h (v := v) (by omega) (x := 1) (Or.inl rfl) p2 p1
        rw [show x2 = 1 from b, if_neg n10, if_pos rfl, if_neg n10, a1, a2, bnd_s, bnd_s]; exact ⟨_, _, _, rfl, rfl, h⟩
      · obtain ⟨a1, a2⟩ := sg_eq (fu := fu) hf h (v := v) (by omega) (x := 2) (Or.inr rfl) p2 p1
        rw [show x2 = 2 from b, if_neg (by decide), if_neg (by decide), if_pos rfl, if_neg (by decide), a1, a2, bnd_s, bnd_s]; exact ⟨_, _, _, rfl, rfl, h⟩
/-! now -/
theorem allL {hx hm : Hp} (h : R hx hm) {fu : Nat} (hfu : 11 ≤ fu) : ∀ (k r n : Nat) (a : Int32), r + k = 6 → k < n → ∃ v, X1_allLikeness_4 fu hx n a (nI r) = some v ∧ X8_now_56 fu n a (nI r) hm = some (v, hm) := by
  intro k
  induction k with
  | zero =>
    intro p n a hp hn1
    obtain ⟨m, rfl⟩ : ∃ m, n = m + 1 := ⟨n - 1, by omega⟩
    rw [X1_allLikeness_4, X8_now_56, if_pos (show (6 : Int32) ≤ nI p from nI_le (a := 6) (by omega) (by omega)), if_pos (show (6 : Int32) ≤ nI p from nI_le (a := 6) (by omega) (by omega))]
    exact ⟨_, rfl, rfl⟩
  | succ k ih =>
    intro p n a hp hn1
    obtain ⟨m, rfl⟩ : ∃ m, n = m + 1 := ⟨n - 1, by omega⟩
    rw [X1_allLikeness_4, X8_now_56, if_neg (show ¬ (6 : Int32) ≤ nI p from nI_ge (b := 6) (by omega) (by omega)), if_neg (show ¬ (6 : Int32) ≤ nI p from nI_ge (b := 6) (by omega) (by omega)), lnX_ok hfu h.2.1 (by omega), lnM_ok hfu h.1 h.2.1 (by omega), bnd_s, bnd_s, nI_1]
    exact ih (p + 1) m _ (by omega) (by omega)
/-- visitors who are there -/
def thP (h : Hp) (r : Nat) : Nat → Bool := fun v => decide (rmN h v < r)
theorem thX {h : Hp} (hi : HI 1 h) {fu nv : Nat} (hfu : 11 ≤ fu) (e : h 1 11 = nI nv) (hn : nv ≤ 4) : ∀ (k r n : Nat), r + k = 6 → k < n → X1_visitorsThere_4 fu h n (nI (bs (thP h r) nv)) (nI r) = some (nI (bs (thP h 6) nv)) := by
  intro k
  induction k with
  | zero =>
    intro p n hp hn1
    obtain ⟨m, rfl⟩ : ∃ m, n = m + 1 := ⟨n - 1, by omega⟩
    rw [X1_visitorsThere_4, if_pos (show (6 : Int32) ≤ nI p from nI_le (a := 6) (by omega) (by omega)), show p = 6 by omega]
  | succ k ih =>
    intro p n hp hn1
    obtain ⟨m, rfl⟩ : ∃ m, n = m + 1 := ⟨n - 1, by omega⟩
    have a := viX (fu := fu) hi e hn (nI p) nv 0 fu (by omega) (by omega)
    rw [X1_visitorsThere_4, if_neg (show ¬ (6 : Int32) ≤ nI p from nI_ge (b := 6) (by omega) (by omega))]
    unfold X1_visitorsIn
    rw [show X1_visitorsIn_4 fu h fu (nI p) 0 0 = _ from a, bnd_s, nx_or, bs_or, nI_1]
    have z : bs (fun q => thP h p q || viP h (nI p) q) nv = bs (thP h (p + 1)) nv := bs_ext (fun v hv => by
      unfold thP viP rmV
      by_cases c1 : rmN h v < p
      · simp [c1, show rmN h v < p + 1 by omega]
      · by_cases c2 : rmN h v = p
        · simp [c2, show p < 6 by omega]
        · by_cases c3 : rmN h v < 6
          · simp [c1, c3, show ¬ rmN h v < p + 1 by omega]
            rw [nI_eq (by omega) (by omega)]; exact c2
          · simp [c1, c3, show ¬ rmN h v < p + 1 by omega]
            intro z
            rw [ti_eq, ti_litm1, ti_nI (by omega)] at z
            omega)
    rw [z]
    exact ih (p + 1) m (by omega) (by omega)
theorem rm_lt {h : Hp} {v : Nat} (hb : rmN h v < 1000000) : rmV h v < 0 ↔ ¬ rmN h v < 6 := by
  unfold rmV
  by_cases c : rmN h v < 6
  · rw [if_pos c]; exact ⟨fun z => absurd z (nI_pos (by omega)), fun z => absurd c z⟩
  · rw [if_neg c]; exact ⟨fun _ => c, fun _ => by decide⟩
theorem rm_b {h : Hp} (hi : HI 1 h) (v : Nat) : rmN h v < 1000000 := by
  obtain ⟨ck, a, b⟩ := ckN hi
  unfold rmN
  rw [b, cl_nI (by omega)]
  exact Nat.lt_of_le_of_lt (Nat.div_le_self _ _) (by omega)
theorem thM {hx hm : Hp} (hR : HR 1 1 hx hm) (hi : HI 1 hx) {fu nv : Nat} (e : hx 1 11 = nI nv) (hn : nv ≤ 4) : ∀ (k p n : Nat), p + k = nv → k < n → X8_allThere_4 fu hm n (nI (bs (thP hx 6) p)) (nI p) = some (nI (bs (thP hx 6) nv)) := by
  intro k
  induction k with
  | zero =>
    intro p n hp hn1
    obtain ⟨m, rfl⟩ : ∃ m, n = m + 1 := ⟨n - 1, by omega⟩
    rw [X8_allThere_4, rnv hR, e, if_pos (nI_le (by omega) (by omega)), show p = nv by omega]
  | succ k ih =>
    intro p n hp hn1
    obtain ⟨m, rfl⟩ : ∃ m, n = m + 1 := ⟨n - 1, by omega⟩
    rw [X8_allThere_4, rnv hR, e, if_neg (nI_ge (by omega) (by omega)), roomM hR hi (by omega), bnd_s, nI_1, or_0]
    by_cases c : rmN hx p < 6
    · rw [if_neg (fun z => (rm_lt (rm_b hi p)).mp z c), or_bit (by omega), ← bs_t (show thP hx 6 p = true from decide_eq_true c)]; exact ih (p + 1) m (by omega) (by omega)
    · rw [if_pos ((rm_lt (rm_b hi p)).mpr c), ← bs_f (show ¬ thP hx 6 p = true by unfold thP; simp [c])]; exact ih (p + 1) m (by omega) (by omega)
theorem there_eq {hx hm : Hp} {fu : Nat} (hfu : 12 ≤ fu) (h : R hx hm) {nv : Nat} (e : hx 1 11 = nI nv) (hn : nv ≤ 4) : X1_visitorsThere fu hx = some (nI (bs (thP hx 6) nv)) ∧ X8_allThere fu hm = some (nI (bs (thP hx 6) nv)) := by
  have a := thX (fu := fu) h.2.1 (by omega) e hn 6 0 fu (by omega) (by omega)
  have z0 : bs (thP hx 0) (0 + nv) = bs (thP hx 0) 0 := bs_more nv (fun p _ _ => by unfold thP; simp)
  rw [Nat.zero_add] at z0
  rw [z0] at a
  exact ⟨a, thM h.1 h.2.1 e hn nv 0 fu (by omega) (by omega)⟩
theorem tw_eq {hx hm : Hp} (h : R hx hm) {fu nv np : Nat} (hfu : 12 ≤ fu) (e : hx 1 11 = nI nv) (hn : nv ≤ 4) (ep : hx 1 10 = nI np) (hp : np ≤ 10) : ∀ (k v n : Nat) (a : Int32), v + k = nv → k < n → ∃ r, X1_sightedTwice_4 fu hx n a (nI v) = some r ∧ X8_seenTwice_4 fu hm n a (nI v) = some r := by
  intro k
  induction k with
  | zero =>
    intro p n a hp hn1
    obtain ⟨m, rfl⟩ : ∃ m, n = m + 1 := ⟨n - 1, by omega⟩
    rw [X1_sightedTwice_4, X8_seenTwice_4, rnv h.1, e, if_pos (nI_le (by omega) (by omega)), if_pos (nI_le (by omega) (by omega))]
    exact ⟨_, rfl, rfl⟩
  | succ k ih =>
    intro p n a hp hn1
    obtain ⟨m, rfl⟩ : ∃ m, n = m + 1 := ⟨n - 1, by omega⟩
    obtain ⟨a1, a2⟩ := sg_eq (fu := fu) hfu h (v := p) (by omega) (x := 2) (Or.inr rfl) ep (by omega)
    rw [X1_sightedTwice_4, X8_seenTwice_4, rnv h.1, e, if_neg (nI_ge (by omega) (by omega)), if_neg (nI_ge (by omega) (by omega)), a1, a2, bnd_s, bnd_s, nI_1]
    exact ih (p + 1) m _ (by omega) (by omega)
theorem o_now {hx hm : Hp} {fu : Nat} (hf : 12 ≤ fu) (h : R hx hm) (x : Int32) : Eqv (X7_now fu x hx) (X8_now fu x hm) := by
  obtain ⟨nv, n1, n2⟩ := nvN h.2.1
  obtain ⟨np, p1, p2⟩ := npN h.2.1
  unfold X7_now X8_now
  by_cases c0 : x = 0
  · rw [if_pos c0, if_pos c0, rck h.1]; exact ⟨_, _, _, rfl, rfl, h⟩
  rw [if_neg c0, if_neg c0]
  by_cases c1 : x = 1
  · rw [if_pos c1, if_pos c1, rpa h.1]; exact ⟨_, _, _, rfl, rfl, h⟩
  rw [if_neg c1, if_neg c1]
  by_cases c2 : x = 2
  · rw [if_pos c2, if_pos c2]
    obtain ⟨v, v1, v2⟩ := allL h (fu := fu) (by omega) 6 0 fu 0 (by omega) (by omega)
    unfold X1_allLikeness
    rw [show X1_allLikeness_4 fu hx fu 0 0 = _ from v1, show X8_now_56 fu fu 0 0 hm = _ from v2, bnd_s]; exact ⟨_, _, _, rfl, rfl, h⟩
  rw [if_neg c2, if_neg c2]
  by_cases c3 : x = 3
  · rw [if_pos c3, if_pos c3]
    obtain ⟨a1, a2⟩ := there_eq (fu := fu) hf h n2 n1
    rw [a1, a2, bnd_s, bnd_s]; exact ⟨_, _, _, rfl, rfl, h⟩
  rw [if_neg c3, if_neg c3]
  by_cases c4 : x = 4
  · rw [if_pos c4, if_pos c4]
    obtain ⟨v, v1, v2⟩ := parts_eq (fu := fu) (by omega) h (-1)
    rw [v1, v2, bnd_s, bnd_s]; exact ⟨_, _, _, rfl, rfl, h⟩
  rw [if_neg c4, if_neg c4]
  by_cases c5 : x = 5
  · rw [if_pos c5, if_pos c5]
    obtain ⟨v, v1, v2⟩ := tw_eq h (fu := fu) hf n2 n1 p2 p1 nv 0 fu 0 (by omega) (by omega)
    unfold X1_sightedTwice X8_seenTwice
    rw [show X1_sightedTwice_4 fu hx fu 0 0 = _ from v1, show X8_seenTwice_4 fu hm fu 0 0 = _ from v2, bnd_s, bnd_s]; exact ⟨_, _, _, rfl, rfl, h⟩
  rw [if_neg c5, if_neg c5]; exact fB h
