/-! counting -/
def shP (h : Hp) : Nat → Bool := fun r => decide (¬ h 8 r < 0)
theorem isF {h : Hp} (hi : HI 1 h) {r : Nat} (hr : r < 6) : X7_isFace (h 8 r) = if shP h r then 1 else 0 := by
  unfold X7_isFace shP
  rcases shF hi hr with ⟨a, b⟩ | ⟨f, a, b, c⟩
  · rw [if_neg (by simp [a]), b]; decide
  · rw [if_pos (by simp [c]), b]
    rcases wn (nI f) (M := 5) 6 (by decide) (by decide) with ⟨x, y⟩ | ⟨p, x, y, z⟩
    · exact absurd rfl (y f a)
    · exact z
theorem rsX {h : Hp} (hi : HI 1 h) {fu : Nat} : ∀ (k r n : Nat), r + k = 6 → k < n → X1_roomsShown_4 fu h n (nI (bs (shP h) r)) (nI r) = some (nI (bs (shP h) 6)) := by
  intro k
  induction k with
  | zero =>
    intro p n hp hn1
    obtain ⟨m, rfl⟩ : ∃ m, n = m + 1 := ⟨n - 1, by omega⟩
    rw [X1_roomsShown_4, if_pos (show (6 : Int32) ≤ nI p from nI_le (a := 6) (by omega) (by omega)), show p = 6 by omega]
  | succ k ih =>
    intro p n hp hn1
    obtain ⟨m, rfl⟩ : ∃ m, n = m + 1 := ⟨n - 1, by omega⟩
    rw [X1_roomsShown_4, if_neg (show ¬ (6 : Int32) ≤ nI p from nI_ge (b := 6) (by omega) (by omega)), ck_nI (by omega) (by decide), cl_nI (by omega), isF hi (by omega), nI_1]
    by_cases c : shP h p = true
    · rw [if_pos c, if_neg n10, or_bit (by omega), ← bs_t c]; exact ih (p + 1) m (by omega) (by omega)
    · rw [if_neg c, if_pos rfl, ← bs_f c]; exact ih (p + 1) m (by omega) (by omega)
theorem rs_ok {h : Hp} (hi : HI 1 h) {fu : Nat} (hfu : 7 ≤ fu) : X1_roomsShown fu h = some (nI (bs (shP h) 6)) := rsX hi 6 0 fu (by omega) (by omega)
def cntP (P : Nat → Bool) : Nat → Nat
  | 0 => 0
  | n + 1 => cntP P n + (if P n then 1 else 0)
theorem pop6 : ∀ x, x < 64 → J6_bitCount_0f7a4 (nI x) = nI (cntP (fun i => x.testBit i) 6) := by decide +kernel
theorem cnt_ext {P Q : Nat → Bool} {n : Nat} (h : ∀ p, p < n → P p = Q p) : cntP P n = cntP Q n := by
  induction n with
  | zero => rfl
  | succ n ih =>
    show cntP P n + (if P n then 1 else 0) = cntP Q n + (if Q n then 1 else 0)
    rw [ih (fun p hp => h p (by omega)), h n (by omega)]
theorem pop_bs (P : Nat → Bool) : J6_bitCount_0f7a4 (nI (bs P 6)) = nI (cntP P 6) := by
  rw [pop6 _ (bs_lt P 6)]
  rw [cnt_ext (Q := P) (fun p hp => by rw [bs_bit]; simp [hp])]
theorem c71 {hx hm : Hp} (h : R hx hm) {fu : Nat} : ∀ (k r n : Nat), r + k = 6 → k < n → X8_count_71 fu n (nI (cntP (shP hx) r)) (nI r) hm = some (nI (cntP (shP hx) 6), hm) := by
  intro k
  induction k with
  | zero =>
    intro p n hp hn1
    obtain ⟨m, rfl⟩ : ∃ m, n = m + 1 := ⟨n - 1, by omega⟩
    rw [X8_count_71, if_pos (show (6 : Int32) ≤ nI p from nI_le (a := 6) (by omega) (by omega)), show p = 6 by omega]
  | succ k ih =>
    intro p n hp hn1
    obtain ⟨m, rfl⟩ : ∃ m, n = m + 1 := ⟨n - 1, by omega⟩
    rw [X8_count_71, if_neg (show ¬ (6 : Int32) ≤ nI p from nI_ge (b := 6) (by omega) (by omega)), show (27 : Int32) + nI p = nI (27 + p) from nI_add 27 p, ck_nI (by omega) (by decide), cl_nI (by omega), rf7 h.1 (by omega), nI_1, nI_1, Int32.add_zero]
    have st := ih (p + 1) m (by omega) (by omega)
    have e : cntP (shP hx) (p + 1) = cntP (shP hx) p + (if shP hx p then 1 else 0) := rfl
    by_cases c : hx 8 p < 0
    · rw [if_neg (fun z => by rw [ti_le] at z; rw [ti_lt] at c; omega)]
      rw [e, if_neg (by unfold shP; simp [c])] at st
      exact st
    · rw [if_pos (by rw [ti_le]; rw [ti_lt] at c; omega)]
      rw [e, if_pos (by unfold shP; simp [c])] at st
      exact st
theorem c107 {hx hm : Hp} (h : R hx hm) {fu np : Nat} (e : hx 1 10 = nI np) (hn : np ≤ 10) : ∀ (k p n : Nat) (a : Int32), p + k = np → k < n → ∃ r, X1_allWax_4 fu hx n a (nI p) = some r ∧ X8_count_107 fu n a (nI p) hm = some (r, hm) := by
  intro k
  induction k with
  | zero =>
    intro p n a hp hn1
    obtain ⟨m, rfl⟩ : ∃ m, n = m + 1 := ⟨n - 1, by omega⟩
    rw [X1_allWax_4, X8_count_107, rnp h.1, e, if_pos (nI_le (by omega) (by omega)), if_pos (nI_le (by omega) (by omega))]
    exact ⟨_, rfl, rfl⟩
  | succ k ih =>
    intro p n a hp hn1
    obtain ⟨m, rfl⟩ : ∃ m, n = m + 1 := ⟨n - 1, by omega⟩
    rw [X1_allWax_4, X8_count_107, rnp h.1, e, if_neg (nI_ge (by omega) (by omega)), if_neg (nI_ge (by omega) (by omega)), ck_nI (by omega) (by decide), cl_nI (by omega), pI2 h.1 (by omega), bnd_s, nI_1]
    exact ih (p + 1) m _ (by omega) (by omega)
theorem c148 {hx hm : Hp} (h : R hx hm) {fu : Nat} : ∀ (k s n : Nat) (a : Int32), s + k = 10 → k < n → ∃ r, X1_spotsHeld_4 fu hx n a (nI s) = some r ∧ X8_count_148 fu n a (nI s) hm = some (r, hm) := by
  intro k
  induction k with
  | zero =>
    intro p n a hp hn1
    obtain ⟨m, rfl⟩ : ∃ m, n = m + 1 := ⟨n - 1, by omega⟩
    rw [X1_spotsHeld_4, X8_count_148, if_pos (show (10 : Int32) ≤ nI p from nI_le (a := 10) (by omega) (by omega)), if_pos (show (10 : Int32) ≤ nI p from nI_le (a := 10) (by omega) (by omega))]
    exact ⟨_, rfl, rfl⟩
  | succ k ih =>
    intro p n a hp hn1
    obtain ⟨m, rfl⟩ : ∃ m, n = m + 1 := ⟨n - 1, by omega⟩
    rw [X1_spotsHeld_4, X8_count_148, if_neg (show ¬ (10 : Int32) ≤ nI p from nI_ge (b := 10) (by omega) (by omega)), if_neg (show ¬ (10 : Int32) ≤ nI p from nI_ge (b := 10) (by omega) (by omega)), ck_nI (by omega) (by decide), show (5 : Int32) + nI p = nI (5 + p) from nI_add 5 p, ck_nI (by omega) (by decide), cl_nI (by omega), cl_nI (by omega), rfA h.1 (by omega), nI_1, Int32.add_zero]
    have hb := hdB h.2.1 (s := p) (by omega)
    by_cases c : hx 11 p = -1
    · rw [if_pos c, if_neg (by rw [ti_le, ti_lit0, c, ti_litm1]; omega)]; exact ih (p + 1) m _ (by omega) (by omega)
    · rw [if_neg c, if_pos (by rw [ti_le, ti_lit0]; rw [ti_eq, ti_litm1] at c; omega)]; exact ih (p + 1) m _ (by omega) (by omega)
theorem o_count {hx hm : Hp} {fu : Nat} (hf : 12 ≤ fu) (h : R hx hm) (x : Int32) : Eqv (X7_count fu x hx) (X8_count fu x hm) := by
  obtain ⟨np, p1, p2⟩ := npN h.2.1
  unfold X7_count X8_count
  by_cases c0 : x = 0
  · rw [if_pos c0, if_pos c0, rck h.1]; exact ⟨_, _, _, rfl, rfl, h⟩
  rw [if_neg c0, if_neg c0]
  by_cases c1 : x = 1
  · rw [if_pos c1, if_pos c1, rnp h.1]; exact ⟨_, _, _, rfl, rfl, h⟩
  rw [if_neg c1, if_neg c1]
  by_cases c2 : x = 2
  · rw [if_pos c2, if_pos c2, rnv h.1]; exact ⟨_, _, _, rfl, rfl, h⟩
  rw [if_neg c2, if_neg c2]
  by_cases c3 : x = 3
  · rw [if_pos c3, if_pos c3, rs_ok h.2.1 (by omega), bnd_s, pop_bs]
    have a := c71 h (fu := fu) 6 0 fu (by omega) (by omega)
    rw [show X8_count_71 fu fu 0 0 hm = _ from a]; exact ⟨_, _, _, rfl, rfl, h⟩
  rw [if_neg c3, if_neg c3]
  by_cases c4 : x = 4
  · rw [if_pos c4, if_pos c4]
    obtain ⟨v, v1, v2⟩ := c107 h (fu := fu) p2 p1 np 0 fu 0 (by omega) (by omega)
    unfold X1_allWax
    rw [show X1_allWax_4 fu hx fu 0 0 = _ from v1, show X8_count_107 fu fu 0 0 hm = _ from v2, bnd_s]; exact ⟨_, _, _, rfl, rfl, h⟩
  rw [if_neg c4, if_neg c4]
  by_cases c5 : x = 5
  · rw [if_pos c5, if_pos c5, h.2.2.2.1.1]; exact ⟨_, _, _, rfl, rfl, h⟩
  rw [if_neg c5, if_neg c5]
  by_cases c6 : x = 6
  · rw [if_pos c6, if_pos c6, rzz h.1]; exact ⟨_, _, _, rfl, rfl, h⟩
  rw [if_neg c6, if_neg c6]
  by_cases c7 : x = 7
  · rw [if_pos c7, if_pos c7]
    obtain ⟨v, v1, v2⟩ := c148 h (fu := fu) 10 0 fu 0 (by omega) (by omega)
    unfold X1_spotsHeld
    rw [show X1_spotsHeld_4 fu hx fu 0 0 = _ from v1, show X8_count_148 fu fu 0 0 hm = _ from v2, bnd_s]; exact ⟨_, _, _, rfl, rfl, h⟩
  rw [if_neg c7, if_neg c7]; exact fB h
/-! chances, favour -/
theorem chN {hx : Hp} (h : HI 1 hx) {p : Nat} (hp : p < 6) : ∃ l, l ≤ 99 ∧ hx 7 p = nI l := by
  have := h.1 6 p (Or.inr ⟨by omega, by omega, hp⟩)
  exact ti_ex (b := 99) this.1 this.2
theorem chs {hx hm : Hp} (h : R hx hm) {fu : Nat} : ∀ (k f n a : Nat), f + k = 6 → k < n → ∃ r, r ≤ a + 99 * k ∧ X1_allChances_4 fu hx n (nI a) (nI f) = some (nI r) ∧ X8_chances_4 fu hm n (nI a) (nI f) = some (nI r) := by
  intro k
  induction k with
  | zero =>
    intro p n a hp hn1
    obtain ⟨m, rfl⟩ : ∃ m, n = m + 1 := ⟨n - 1, by omega⟩
    rw [X1_allChances_4, X8_chances_4, if_pos (show (6 : Int32) ≤ nI p from nI_le (a := 6) (by omega) (by omega)), if_pos (show (6 : Int32) ≤ nI p from nI_le (a := 6) (by omega) (by omega))]
    exact ⟨a, by omega, rfl, rfl⟩
  | succ k ih =>
    intro p n a hp hn1
    obtain ⟨m, rfl⟩ : ∃ m, n = m + 1 := ⟨n - 1, by omega⟩
    obtain ⟨c, c1, c2⟩ := chN h.2.1 (p := p) (by omega)
    rw [X1_allChances_4, X8_chances_4, if_neg (show ¬ (6 : Int32) ≤ nI p from nI_ge (b := 6) (by omega) (by omega)), if_neg (show ¬ (6 : Int32) ≤ nI p from nI_ge (b := 6) (by omega) (by omega)), ck_nI (by omega) (by decide), show (21 : Int32) + nI p = nI (21 + p) from nI_add 21 p, ck_nI (by omega) (by decide), cl_nI (by omega), cl_nI (by omega), rf6 h.1 (by omega), nI_1, c2, nI_add]
    obtain ⟨r, r1, r2, r3⟩ := ih (p + 1) m (a + c) (by omega) (by omega)
    exact ⟨r, by omega, r2, r3⟩
/-- what a head of such looks is worth to all faces from f on -/
def fvN (h : Hp) (l : Nat) : Nat → Nat
  | 0 => 0
  | k + 1 => fvN h l k + (h 7 k).toNatClampNeg * (lkV 1 (nI l) (h 6 k)).toNatClampNeg
theorem lk1 {h : Hp} (hi : HI 1 h) {l f : Nat} (hl : l < 256) (hf : f < 6) : ∃ v, v < 24 ∧ lkV 1 (nI l) (h 6 f) = nI v := by
  obtain ⟨g, g1, g2⟩ := flN hi hf
  have e := lk_X 1 (nI l) (h 6 f)
  rw [lkC_eq, g2] at e
  unfold X2_unlike at e
  rw [nx_xor, and255 _ (xor_lt hl g1)] at e
  obtain ⟨c, c1, c2⟩ := pop_le _ (xor_lt hl g1)
  rw [c2] at e
  obtain ⟨v, v1, v2⟩ := lkC_dec 1 (by decide) c (by omega) (decide (nI g &&& 128 = 0))
  rw [show (1 : Int32) = nI 1 from rfl, v2] at e
  injection e with e
  exact ⟨v, v1, by rw [g2]; exact e.symm⟩
theorem fv_b {h : Hp} (hi : HI 1 h) {l : Nat} (hl : l < 256) : ∀ k, k ≤ 6 → fvN h l k ≤ k * 2277 := by
  intro k
  induction k with
  | zero => intro _; exact Nat.le_refl _
  | succ k ih =>
    intro hk
    obtain ⟨c, c1, c2⟩ := chN hi (p := k) (by omega)
    obtain ⟨v, v1, v2⟩ := lk1 hi hl (f := k) (by omega)
    show fvN h l k + _ ≤ _
    rw [c2, v2, cl_nI (by omega), cl_nI (by omega)]
    have := ih (by omega)
    have : c * v ≤ 99 * 23 := Nat.mul_le_mul c1 (by omega)
    omega
theorem fvX {hx hm : Hp} (h : R hx hm) {fu l : Nat} (hfu : 11 ≤ fu) (hl : l < 256) : ∀ (k f n : Nat), f + k = 6 → k < n → X1_favour_4 fu hx n (nI l) (nI (fvN hx l f)) (nI f) = some (nI (fvN hx l 6)) ∧ X8_onTheWhole_4 fu hm n (nI l) (nI (fvN hx l f)) (nI f) = some (nI (fvN hx l 6)) := by
  intro k
  induction k with
  | zero =>
    intro p n hp hn1
    obtain ⟨m, rfl⟩ : ∃ m, n = m + 1 := ⟨n - 1, by omega⟩
    rw [X1_favour_4, X8_onTheWhole_4, if_pos (show (6 : Int32) ≤ nI p from nI_le (a := 6) (by omega) (by omega)), if_pos (show (6 : Int32) ≤ nI p from nI_le (a := 6) (by omega) (by omega)), show p = 6 by omega]
    exact ⟨rfl, rfl⟩
  | succ k ih =>
    intro p n hp hn1
    obtain ⟨m, rfl⟩ : ∃ m, n = m + 1 := ⟨n - 1, by omega⟩
    obtain ⟨c, c1, c2⟩ := chN h.2.1 (p := p) (by omega)
    obtain ⟨v, v1, v2⟩ := lk1 h.2.1 hl (f := p) (by omega)
    obtain ⟨g, g1, g2⟩ := flN h.2.1 (p := p) (by omega)
    have st := ih (p + 1) m (by omega) (by omega)
    have e : fvN hx l (p + 1) = fvN hx l p + c * v := by
      show fvN hx l p + _ = _
      rw [c2, v2, cl_nI (by omega), cl_nI (by omega)]
    rw [e] at st
    rw [g2] at v2
    rw [X1_favour_4, X8_onTheWhole_4, if_neg (show ¬ (6 : Int32) ≤ nI p from nI_ge (b := 6) (by omega) (by omega)), if_neg (show ¬ (6 : Int32) ≤ nI p from nI_ge (b := 6) (by omega) (by omega)), ck_nI (by omega) (by decide), ck_nI (by omega) (by decide), show (21 : Int32) + nI p = nI (21 + p) from nI_add 21 p, show (15 : Int32) + nI p = nI (15 + p) from nI_add 15 p, ck_nI (by omega) (by decide), ck_nI (by omega) (by decide), cl_nI (by omega), cl_nI (by omega), cl_nI (by omega), rf6 h.1 (by omega), rf5 h.1 (by omega), lk_X, g2, lk_M hfu 1 hl g1, bnd_s, bnd_s, v2, c2, pk_mul, nI_add, nI_1]
    exact st
theorem fv_ok {hx hm : Hp} (h : R hx hm) {fu l : Nat} (hfu : 11 ≤ fu) (hl : l < 256) : X1_favour fu (nI l) hx = some (nI (fvN hx l 6)) ∧ X8_onTheWhole fu (nI l) hm = some (nI (fvN hx l 6)) := fvX h hfu hl 6 0 fu (by omega) (by omega)
/-! the common divisor -/
theorem gcd_eq {fu : Nat} : ∀ (j x y i n m : Nat), x < 1000000 → y < 2 ^ j → j ≤ 20 → (0 < x ∨ 0 < y) → i + (2 * j + 1) ≤ 100 → 2 * j + 1 < n → 2 * j + 1 < m → ∃ g, 0 < g ∧ g < 2000000 ∧ X7_commonDivisor_7 fu n (nI x) (nI y) (nI i) = some (nI g) ∧ X8_common_4 fu m (nI x) (nI y) = some (nI g) := by
  intro j
  have done : ∀ (x i n m : Nat), x < 1000000 → 0 < x → i < 100 → 0 < n → 0 < m → ∃ g, 0 < g ∧ g < 2000000 ∧ X7_commonDivisor_7 fu n (nI x) (nI 0) (nI i) = some (nI g) ∧ X8_common_4 fu m (nI x) (nI 0) = some (nI g) := by
    intro x i n m hx h0 hi hn hm
    obtain ⟨n, rfl⟩ : ∃ a, n = a + 1 := ⟨n - 1, by omega⟩
    obtain ⟨m, rfl⟩ : ∃ a, m = a + 1 := ⟨m - 1, by omega⟩
    rw [X7_commonDivisor_7, X8_common_4, if_neg (show ¬ (100 : Int32) ≤ nI i from nI_ge (b := 100) hi (by omega)), if_pos nI_0, if_pos nI_0, if_neg (nI_ne0 h0 (by omega))]
    exact ⟨x, h0, by omega, rfl, rfl⟩
  have step : ∀ (x y i n m : Nat), x < 2000000 → 0 < y → y < 2000000 → i < 100 → X7_commonDivisor_7 fu (n + 1) (nI x) (nI y) (nI i) = X7_commonDivisor_7 fu n (nI y) (nI (x % y)) (nI (i + 1)) ∧ X8_common_4 fu (m + 1) (nI x) (nI y) = X8_common_4 fu m (nI y) (nI (x % y)) := by
    intro x y i n m hx h0 hy hi
    have nzy : nz (nI y) = true := by unfold nz; simp [nI_ne0 h0 (show y < 2 ^ 31 by omega)]
    rw [X7_commonDivisor_7, X8_common_4, if_neg (show ¬ (100 : Int32) ≤ nI i from nI_ge (b := 100) hi (by omega)), if_neg (nI_ne0 h0 (by omega)), if_neg (nI_ne0 h0 (by omega)), nzy, chk_t, chk_t, pk_rem (by omega) h0 (by omega), nI_1]
    exact ⟨rfl, rfl⟩
  induction j with
  | zero =>
    intro x y i n m hx hy hj h0 hi hn hm
    have : y = 0 := by omega
    subst this
    exact done x i n m hx (by omega) (by omega) (by omega) (by omega)
  | succ j ih =>
    intro x y i n m hx hy hj h0 hi hn hm
    by_cases z : y = 0
    · subst z; exact done x i n m hx (by omega) (by omega) (by omega) (by omega)
    · have yb : y < 1000000 + 1000000 := Nat.lt_of_lt_of_le hy (Nat.le_trans (Nat.pow_le_pow_right (by decide) (show j + 1 ≤ 20 by omega)) (by decide))
      obtain ⟨n1, rfl⟩ : ∃ a, n = a + 1 := ⟨n - 1, by omega⟩
      obtain ⟨m1, rfl⟩ : ∃ a, m = a + 1 := ⟨m - 1, by omega⟩
      obtain ⟨s1, s2⟩ := step x y i n1 m1 (by omega) (by omega) (by omega) (by omega)
      rw [s1, s2]
      have r1 : x % y < y := Nat.mod_lt _ (by omega)
      have r0 : x % y ≤ x := Nat.mod_le _ _
      by_cases z1 : x % y = 0
      · rw [z1]
        by_cases big : y < 1000000
        · exact done y (i + 1) n1 m1 big (by omega) (by omega) (by omega) (by omega)
        · have : x % y = x := Nat.mod_eq_of_lt (by omega)
          have hx0 : x = 0 := by omega
          obtain ⟨n2, rfl⟩ : ∃ a, n1 = a + 1 := ⟨n1 - 1, by omega⟩
          obtain ⟨m2, rfl⟩ : ∃ a, m1 = a + 1 := ⟨m1 - 1, by omega⟩
          rw [X7_commonDivisor_7, X8_common_4, if_neg (show ¬ (100 : Int32) ≤ nI (i + 1) from nI_ge (b := 100) (by omega) (by omega)), if_pos nI_0, if_pos nI_0, if_neg (nI_ne0 (by omega) (by omega))]
          exact ⟨y, by omega, by omega, rfl, rfl⟩
      · obtain ⟨n2, rfl⟩ : ∃ a, n1 = a + 1 := ⟨n1 - 1, by omega⟩
        obtain ⟨m2, rfl⟩ : ∃ a, m1 = a + 1 := ⟨m1 - 1, by omega⟩
        obtain ⟨t1, t2⟩ := step y (x % y) (i + 1) n2 m2 (by omega) (by omega) (by omega) (by omega)
        rw [t1, t2]
        have q1 : y % (x % y) < x % y := Nat.mod_lt _ (by omega)
        have q2 : y % (x % y) + (x % y) ≤ y := by
          have d := Nat.div_add_mod y (x % y)
          have e : 1 ≤ y / (x % y) := Nat.div_pos (by omega) (by omega)
          have : (x % y) * 1 ≤ (x % y) * (y / (x % y)) := Nat.mul_le_mul_left _ e
          omega
        have q3 : y % (x % y) < 2 ^ j := by
          have : 2 ^ (j + 1) = 2 * 2 ^ j := by rw [Nat.pow_succ]; omega
          omega
        exact ih (x % y) (y % (x % y)) (i + 1 + 1) n2 m2 (by omega) q3 (by omega) (by omega) (by omega) (by omega) (by omega)
theorem o_worth {hx hm : Hp} {fu : Nat} (hf : 60 ≤ fu) (h : R hx hm) (x1 x2 : Int32) : Eqv (X7_worth fu x1 x2 hx) (X8_worth fu x1 x2 hm) := by
  unfold X7_worth X8_worth X8_isLooks
  rw [w8]
  rcases wn x1 (M := 255) 256 (by decide) (by decide) with ⟨q, -⟩ | ⟨l, q, r, t⟩
  · rw [q, if_pos rfl, if_pos rfl]; exact fB h
  · rw [t, if_neg n10, if_neg n10, r]
    rcases wr x2 0 1 with ⟨a, b⟩ | ⟨a, b, c⟩
    · rw [a, if_pos rfl, if_pos rfl]; exact fB h
    · rw [a, if_neg n10, if_neg n10]
      obtain ⟨s, s1, s2, s3⟩ := chs h (fu := fu) 6 0 fu 0 (by omega) (by omega)
      unfold X1_allChances X8_chances
      rw [show X1_allChances_4 fu hx fu 0 0 = _ from s2, show X8_chances_4 fu hm fu 0 0 = _ from s3, bnd_s, bnd_s]
      by_cases z : s = 0
      · subst z; rw [if_pos nI_0, if_pos nI_0]; exact fN h
      · rw [if_neg (nI_ne0 (by omega) (by omega)), if_neg (nI_ne0 (by omega) (by omega))]
        obtain ⟨f1, f2⟩ := fv_ok h (fu := fu) (by omega) q
        have fb := fv_b h.2.1 q 6 (by omega)
        obtain ⟨g, g1, g2, g3, g4⟩ := gcd_eq (fu := fu) 10 (fvN hx l 6) s 0 fu fu (by omega) (by omega) (by omega) (by omega) (by omega) (by omega) (by omega)
        unfold X7_commonDivisor X8_common
        rw [f1, f2, bnd_s, bnd_s, show X7_commonDivisor_7 fu fu (nI (fvN hx l 6)) (nI s) 0 = _ from g3, g4, bnd_s, bnd_s]
        have nzg : nz (nI g) = true := by unfold nz; simp [nI_ne0 g1 (show g < 2 ^ 31 by omega)]
        rw [nzg, chk_t, chk_t, chk_t, chk_t]
        by_cases w : x2 = 0
        · rw [if_pos w, if_pos w]; exact ⟨_, _, _, rfl, rfl, h⟩
        · rw [if_neg w, if_neg w]; exact ⟨_, _, _, rfl, rfl, h⟩
/-! the next head -/
theorem nxt {hx hm : Hp} (h : R hx hm) {fu : Nat} (hfu : 11 ≤ fu) : ∀ (k l n b : Nat), l + k = 256 → k < n → b < l → b < 256 → ∃ r, X7_next_23 fu (n + 1) (nI b) (nI (fvN hx b 6)) (nI l) hx = some (r, hx) ∧ X8_next_18 fu n (nI b) (nI l) hm = some (r, hm) := by
  intro k
  induction k with
  | zero =>
    intro l n b hl hn hb hb1
    obtain ⟨m, rfl⟩ : ∃ m, n = m + 1 := ⟨n - 1, by omega⟩
    rw [X7_next_23, X8_next_18, if_pos (show (255 : Int32) < nI l from nI_lt (a := 255) (by omega) (by omega)), if_pos (show (256 : Int32) ≤ nI l from nI_le (a := 256) (by omega) (by omega))]
    exact ⟨_, rfl, rfl⟩
  | succ k ih =>
    intro l n b hl hn hb hb1
    obtain ⟨m, rfl⟩ : ∃ m, n = m + 1 := ⟨n - 1, by omega⟩
    obtain ⟨f1, f2⟩ := fv_ok h (fu := fu) hfu (show l < 256 by omega)
    obtain ⟨g1, g2⟩ := fv_ok h (fu := fu) hfu hb1
    rw [X7_next_23, X8_next_18, if_neg (show ¬ (255 : Int32) < nI l from nI_nlt (a := 255) (by omega) (by omega)), if_neg (show ¬ (256 : Int32) ≤ nI l from nI_ge (b := 256) (by omega) (by omega)), f1, f2, g2, bnd_s, bnd_s, bnd_s, nI_1]
    by_cases c : nI (fvN hx l 6) ≤ nI (fvN hx b 6)
    · rw [if_pos c, if_pos c]; exact ih (l + 1) m b (by omega) (by omega) (by omega) hb1
    · rw [if_neg c, if_neg c]; exact ih (l + 1) m l (by omega) (by omega) (by omega) (by omega)
theorem nxt_mono {h : Hp} {fu : Nat} : ∀ (n : Nat) (a b c : Int32) (r : Int32 × Hp), X8_next_18 fu n a b h = some r → X8_next_18 fu (n + 1) a b h = some r := by
  intro n
  induction n with
  | zero => intro a b c r e; rw [X8_next_18] at e; cases e
  | succ n ih =>
    intro a b c r e
    rw [X8_next_18]
    rw [X8_next_18] at e
    by_cases z : (256 : Int32) ≤ b
    · rw [if_pos z] at e ⊢; exact e
    · rw [if_neg z] at e ⊢
      obtain ⟨u1, e1, e⟩ := bnd_some e
      obtain ⟨u2, e2, e⟩ := bnd_some e
      rw [e1, e2, bnd_s, bnd_s]
      by_cases d : u1 ≤ u2
      · rw [if_pos d] at e ⊢; exact ih _ _ c r e
      · rw [if_neg d] at e ⊢; exact ih _ _ c r e
theorem o_next {hx hm : Hp} {fu : Nat} (hf : 300 ≤ fu) (h : R hx hm) : Eqv (X7_next fu hx) (X8_next fu hm) := by
  unfold X7_next X8_next
  obtain ⟨s, s1, s2, s3⟩ := chs h (fu := fu) 6 0 fu 0 (by omega) (by omega)
  unfold X1_allChances X8_chances
  rw [show X1_allChances_4 fu hx fu 0 0 = _ from s2, show X8_chances_4 fu hm fu 0 0 = _ from s3, bnd_s, bnd_s]
  by_cases z : s = 0
  · subst z; rw [if_pos nI_0, if_pos nI_0]; exact fN h
  · rw [if_neg (nI_ne0 (by omega) (by omega)), if_neg (nI_ne0 (by omega) (by omega))]
    obtain ⟨m, rfl⟩ : ∃ m, fu = m + 2 := ⟨fu - 2, by omega⟩
    obtain ⟨f1, f2⟩ := fv_ok h (fu := m + 2) (by omega) (show 0 < 256 by decide)
    have fb := fv_b h.2.1 (show 0 < 256 by decide) 6 (by omega)
    rw [X7_next_23, if_neg (by decide), show X1_favour (m + 2) 0 hx = _ from f1, bnd_s, if_neg (by rw [ti_le, ti_nI (by omega), ti_litm1]; omega)]
    obtain ⟨r, r1, r2⟩ := nxt h (fu := m + 2) (by omega) 255 1 m 0 (by omega) (by omega) (by omega) (by omega)
    rw [show X7_next_23 (m + 2) (m + 1) 0 (nI (fvN hx 0 6)) (0 + 1) hx = _ from r1, show X8_next_18 (m + 2) (m + 2) 0 1 hm = _ from nxt_mono _ _ _ 0 _ (nxt_mono _ _ _ 0 _ r2)]
    exact ⟨_, _, _, rfl, rfl, h⟩
