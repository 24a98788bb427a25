/-! sets as bits -/
def bs (P : Nat → Bool) : Nat → Nat
  | 0 => 0
  | n + 1 => bs P n ||| (if P n then 2 ^ n else 0)
theorem bs_t {P : Nat → Bool} {n : Nat} (h : P n = true) : bs P (n + 1) = bs P n ||| 2 ^ n := by
  show bs P n ||| (if P n then 2 ^ n else 0) = _
  rw [if_pos h]
theorem bs_f {P : Nat → Bool} {n : Nat} (h : ¬ P n = true) : bs P (n + 1) = bs P n := by
  show bs P n ||| (if P n then 2 ^ n else 0) = _
  rw [if_neg h, Nat.or_zero]
theorem bs_ext {P Q : Nat → Bool} {n : Nat} (h : ∀ p, p < n → P p = Q p) : bs P n = bs Q n := by
  induction n with
  | zero => rfl
  | succ n ih =>
    show bs P n ||| (if P n then 2 ^ n else 0) = bs Q n ||| (if Q n then 2 ^ n else 0)
    rw [ih (fun p hp => h p (by omega)), h n (by omega)]
theorem bs_more {P : Nat → Bool} {n : Nat} : ∀ k, (∀ p, n ≤ p → p < n + k → P p = false) → bs P (n + k) = bs P n := by
  intro k
  induction k with
  | zero => intro _; rfl
  | succ k ih =>
    intro h
    rw [← Nat.add_assoc, bs_f (by rw [h (n + k) (by omega) (by omega)]; decide)]
    exact ih (fun p a b => h p a (by omega))
theorem bs_bit (P : Nat → Bool) : ∀ (n i : Nat), (bs P n).testBit i = (decide (i < n) && P i) := by
  intro n
  induction n with
  | zero => intro i; simp [bs]
  | succ n ih =>
    intro i
    show (bs P n ||| (if P n then 2 ^ n else 0)).testBit i = _
    rw [Nat.testBit_or, ih i]
    by_cases c : P n = true
    · rw [if_pos c, Nat.testBit_two_pow]
      by_cases e : n = i
      · subst e; simp [c]
      · simp [e]
        by_cases d : i < n
        · simp [d, show i < n + 1 by omega]
        · simp [d, show ¬ i < n + 1 by omega]
    · rw [if_neg c, Nat.zero_testBit]
      by_cases e : n = i
      · subst e; simp [c]
      · by_cases d : i < n
        · simp [d, show i < n + 1 by omega]
        · simp [d, show ¬ i < n + 1 by omega]
theorem bs_or {P Q : Nat → Bool} {n : Nat} : bs P n ||| bs Q n = bs (fun p => P p || Q p) n := by
  apply Nat.eq_of_testBit_eq
  intro i
  rw [Nat.testBit_or, bs_bit, bs_bit, bs_bit]
  cases decide (i < n) <;> simp
theorem bs_lt (P : Nat → Bool) (n : Nat) : bs P n < 2 ^ n := by
  apply Nat.lt_pow_two_of_testBit
  intro i hi
  rw [bs_bit]
  simp [show ¬ i < n by omega]
theorem shl1 : ∀ p, p < 31 → (1 : Int32) <<< (nI p &&& 31) = nI (2 ^ p) := by decide +kernel
theorem or_bit {a p : Nat} (hp : p < 31) : nI a ||| ((1 : Int32) <<< (nI p &&& 31)) = nI (a ||| 2 ^ p) := by rw [shl1 p hp, nx_or]
theorem or_0 {a : Nat} : nI a ||| (0 : Int32) = nI a := by rw [show (0 : Int32) = nI 0 from rfl, nx_or, Nat.or_zero]
/-! parts at a place -/
def ptP (h : Hp) (x : Int32) : Nat → Bool := fun p => decide (h 5 p = x)
theorem ptX {h : Hp} {fu np : Nat} (e : h 1 10 = nI np) (hn : np ≤ 10) (x : Int32) : ∀ (k p n : Nat), p + k = np → k < n → X1_partsAt_4 fu h n x (nI (bs (ptP h x) p)) (nI p) = some (nI (bs (ptP h x) np)) := by
  intro k
  induction k with
  | zero =>
    intro p n hp hn1
    obtain ⟨m, rfl⟩ : ∃ m, n = m + 1 := ⟨n - 1, by omega⟩
    rw [X1_partsAt_4, e, if_pos (nI_le (by omega) (by omega)), show p = np by omega]
  | succ k ih =>
    intro p n hp hn1
    obtain ⟨m, rfl⟩ : ∃ m, n = m + 1 := ⟨n - 1, by omega⟩
    rw [X1_partsAt_4, e, if_neg (nI_ge (by omega) (by omega)), ck_nI (by omega) (by decide), cl_nI (by omega), nI_1]
    by_cases c : h 5 p = x
    · rw [if_pos c, or_bit (by omega), ← bs_t (show ptP h x p = true from decide_eq_true c)]; exact ih (p + 1) m (by omega) (by omega)
    · rw [if_neg c, ← bs_f (show ¬ ptP h x p = true by unfold ptP; simp [c])]; exact ih (p + 1) m (by omega) (by omega)
theorem ptM {hx hm : Hp} (h : HR 1 1 hx hm) {fu np : Nat} (e : hx 1 10 = nI np) (hn : np ≤ 10) (x : Int32) : ∀ (k p n : Nat), p + k = np → k < n → X8_partsAt_4 fu hm n x (nI (bs (ptP hx x) p)) (nI p) = some (nI (bs (ptP hx x) np)) := by
  intro k
  induction k with
  | zero =>
    intro p n hp hn1
    obtain ⟨m, rfl⟩ : ∃ m, n = m + 1 := ⟨n - 1, by omega⟩
    rw [X8_partsAt_4, rnp h, e, if_pos (nI_le (by omega) (by omega)), show p = np by omega]
  | succ k ih =>
    intro p n hp hn1
    obtain ⟨m, rfl⟩ : ∃ m, n = m + 1 := ⟨n - 1, by omega⟩
    rw [X8_partsAt_4, rnp h, e, if_neg (nI_ge (by omega) (by omega)), pI3 h (by omega), bnd_s, nI_1]
    by_cases c : hx 5 p = x
    · rw [if_pos c, or_bit (by omega), ← bs_t (show ptP hx x p = true from decide_eq_true c)]; exact ih (p + 1) m (by omega) (by omega)
    · rw [if_neg c, or_0, ← bs_f (show ¬ ptP hx x p = true by unfold ptP; simp [c])]; exact ih (p + 1) m (by omega) (by omega)
theorem parts_eq {hx hm : Hp} {fu : Nat} (hf : 11 ≤ fu) (h : R hx hm) (x : Int32) : ∃ r, X1_partsAt fu x hx = some r ∧ X8_partsAt fu x hm = some r := by
  obtain ⟨np, n1, n2⟩ := npN h.2.1
  exact ⟨_, ptX n2 n1 x np 0 fu (by omega) (by omega), ptM h.1 n2 n1 x np 0 fu (by omega) (by omega)⟩
/-! likeness of a room -/
def lkS (h : Hp) (r f : Nat) : Nat → Int32
  | 0 => 0
  | p + 1 => if h 5 p = nI r then lkS h r f p + lkH h p f else lkS h r f p
/-- likeness of a room -/
def lnV (h : Hp) (r : Nat) : Int32 := if h 8 r < 0 then 0 else lkS h r (h 8 r).toNatClampNeg (h 1 10).toNatClampNeg
theorem lnX1 {h : Hp} {fu np r f : Nat} (e : h 1 10 = nI np) (hn : np ≤ 10) (hr : r < 6) (hf : f < 6) : ∀ (k p n : Nat), p + k = np → k < n → X1_likeness_12 fu h n (nI r) (nI f) (lkS h r f p) (nI p) = some (lkS h r f np) := by
  have hw : X7_isFace (nI f) = 1 := by
    unfold X7_isFace
    rcases wn (nI f) (M := 5) 6 (by decide) (by decide) with ⟨a, b⟩ | ⟨p, a, b, c⟩
    · exact absurd rfl (b f hf)
    · exact c
  intro k
  induction k with
  | zero =>
    intro p n hp hn1
    obtain ⟨m, rfl⟩ : ∃ m, n = m + 1 := ⟨n - 1, by omega⟩
    rw [X1_likeness_12, e, if_pos (nI_le (by omega) (by omega)), show p = np by omega]
  | succ k ih =>
    intro p n hp hn1
    obtain ⟨m, rfl⟩ : ∃ m, n = m + 1 := ⟨n - 1, by omega⟩
    rw [X1_likeness_12, e, if_neg (nI_ge (by omega) (by omega)), hw, if_neg n10, ck_nI (by omega) (by decide), cl_nI (by omega), nI_1]
    have st := ih (p + 1) m (by omega) (by omega)
    by_cases c : h 5 p = nI r
    · rw [if_pos c, likeX (by omega) hf, bnd_s]
      rw [lkS, if_pos c] at st
      exact st
    · rw [if_neg c]
      rw [lkS, if_neg c] at st
      exact st
theorem lnM1 {hx hm : Hp} (h : HR 1 1 hx hm) (hi : HI 1 hx) {fu np r f : Nat} (hfu : 11 ≤ fu) (e : hx 1 10 = nI np) (hn : np ≤ 10) (hr : r < 6) (es : hx 8 r = nI f) (hf : f < 6) : ∀ (k p n : Nat), p + k = np → k < n → X8_likeness_4 fu hm n (nI r) (lkS hx r f p) (nI p) = some (lkS hx r f np) := by
  intro k
  induction k with
  | zero =>
    intro p n hp hn1
    obtain ⟨m, rfl⟩ : ∃ m, n = m + 1 := ⟨n - 1, by omega⟩
    rw [X8_likeness_4, rnp h, e, if_pos (nI_le (by omega) (by omega)), show p = np by omega]
  | succ k ih =>
    intro p n hp hn1
    obtain ⟨m, rfl⟩ : ∃ m, n = m + 1 := ⟨n - 1, by omega⟩
    have st := ih (p + 1) m (by omega) (by omega)
    rw [X8_likeness_4, rnp h, e, if_neg (nI_ge (by omega) (by omega)), show (27 : Int32) + nI r = nI (27 + r) from nI_add 27 r]
    simp only [ck_nI (show 27 + r < 117 by omega) (show 117 < 2147483648 by decide)]
    rw [cl_nI (by omega), rf7 h hr, es, if_neg (nI_pos (by omega)), pI3 h (by omega), bnd_s, nI_1]
    by_cases c : hx 5 p = nI r
    · rw [if_pos c, likeM hfu h hi (by omega) hf, bnd_s]
      rw [lkS, if_pos c] at st
      exact st
    · rw [if_neg c, Int32.add_zero]
      rw [lkS, if_neg c] at st
      exact st
theorem lnM0 {hx hm : Hp} (h : HR 1 1 hx hm) {fu np r : Nat} (e : hx 1 10 = nI np) (hn : np ≤ 10) (hr : r < 6) (es : hx 8 r < 0) : ∀ (k p n : Nat), p + k = np → k < n → X8_likeness_4 fu hm n (nI r) 0 (nI p) = some 0 := by
  intro k
  induction k with
  | zero =>
    intro p n hp hn1
    obtain ⟨m, rfl⟩ : ∃ m, n = m + 1 := ⟨n - 1, by omega⟩
    rw [X8_likeness_4, rnp h, e, if_pos (nI_le (by omega) (by omega))]
  | succ k ih =>
    intro p n hp hn1
    obtain ⟨m, rfl⟩ : ∃ m, n = m + 1 := ⟨n - 1, by omega⟩
    have st := ih (p + 1) m (by omega) (by omega)
    rw [X8_likeness_4, rnp h, e, if_neg (nI_ge (by omega) (by omega)), show (27 : Int32) + nI r = nI (27 + r) from nI_add 27 r, ck_nI (by omega) (by decide), cl_nI (by omega), rf7 h hr, if_pos es, nI_1, Int32.add_zero]
    exact st
theorem shF {hx : Hp} (h : HI 1 hx) {r : Nat} (hr : r < 6) : (hx 8 r < 0 ∧ hx 8 r = -1) ∨ (∃ f, f < 6 ∧ hx 8 r = nI f ∧ ¬ hx 8 r < 0) := by
  have b := shB h hr
  by_cases c : hx 8 r < 0
  · left; refine ⟨c, ?_⟩; rw [ti_lt, ti_lit0] at c; rw [ti_eq, ti_litm1]; omega
  · right
    have c1 := c
    rw [ti_lt, ti_lit0] at c1
    obtain ⟨j, j1, j2⟩ := ti_ex (x := hx 8 r) (b := 5) (by omega) b.2
    exact ⟨j, by omega, j2, c⟩
theorem lnX_ok {hx : Hp} {fu : Nat} (hf : 11 ≤ fu) (h : HI 1 hx) {r : Nat} (hr : r < 6) : X1_likeness fu (nI r) hx = some (lnV hx r) := by
  obtain ⟨np, n1, n2⟩ := npN h
  unfold X1_likeness lnV
  rw [ck_nI hr (by decide), cl_nI (by omega), n2, cl_nI (by omega)]
  rcases shF h hr with ⟨a, b⟩ | ⟨f, a, b, c⟩
  · rw [if_pos a, b]
    obtain ⟨m, rfl⟩ : ∃ m, fu = m + 1 := ⟨fu - 1, by omega⟩
    rw [X1_likeness_12, n2]
    by_cases z : nI np ≤ 0
    · rw [if_pos z]
    · rw [if_neg z, if_pos (by decide)]
  · rw [if_neg c, b, cl_nI (by omega)]
    exact lnX1 n2 n1 hr a np 0 fu (by omega) (by omega)
theorem lnM_ok {hx hm : Hp} {fu : Nat} (hf : 11 ≤ fu) (hR : HR 1 1 hx hm) (h : HI 1 hx) {r : Nat} (hr : r < 6) : X8_likeness fu (nI r) hm = some (lnV hx r) := by
  obtain ⟨np, n1, n2⟩ := npN h
  unfold X8_likeness lnV
  rw [n2, cl_nI (by omega)]
  rcases shF h hr with ⟨a, b⟩ | ⟨f, a, b, c⟩
  · rw [if_pos a]; exact lnM0 hR n2 n1 hr a np 0 fu (by omega) (by omega)
  · rw [if_neg c]
    have := lnM1 hR h hf n2 n1 hr b a np 0 fu (by omega) (by omega)
    rw [b, cl_nI (by omega)]
    exact this
/-! where a visitor is -/
def rmN (h : Hp) (v : Nat) : Nat := ((h 1 12).toNatClampNeg - (h 9 v).toNatClampNeg) / (h 1 13).toNatClampNeg
def rmV (h : Hp) (v : Nat) : Int32 := if rmN h v < 6 then nI (rmN h v) else -1
theorem cmN {hx : Hp} (h : HI 1 hx) {v : Nat} (hv : v < 4) : ∃ c ck, c ≤ ck ∧ ck ≤ 9999 ∧ hx 9 v = nI c ∧ hx 1 12 = nI ck := by
  obtain ⟨ck, a, b⟩ := ckN h
  have h1 := h.1 8 v (Or.inr ⟨by omega, by omega, hv⟩)
  have h2 := h.2.1 v hv
  rw [b, ti_nI (by omega)] at h2
  obtain ⟨c, c1, c2⟩ := ti_ex (x := hx 9 v) (b := ck) h1.1 h2
  exact ⟨c, ck, c1, a, c2, b⟩
theorem roomX {hx : Hp} (h : HI 1 hx) {v : Nat} (hv : v < 4) : X1_roomOf (nI v) hx = some (rmV hx v) := by
  obtain ⟨c, ck, c1, c2, c3, c4⟩ := cmN h hv
  obtain ⟨pa, p1, p2, p3⟩ := paN h
  unfold X1_roomOf rmV rmN
  rw [c4, p3, cl_nI (by omega), c3, if_pos (show (1 : Int32) ≤ nI pa from nI_le (a := 1) p1 (by omega)), ck_nI hv (by decide), cl_nI (by omega), cl_nI (by omega), cl_nI (by omega), show nz (nI pa) = true by unfold nz; simp [nI_ne0 (show 0 < pa by omega) (show pa < 2 ^ 31 by omega)], chk_t, pk_sub (by omega), pk_div (by omega) (by omega) (by omega)]
  have hb : (ck - c) / pa ≤ 9999 := Nat.le_trans (Nat.div_le_self _ _) (by omega)
  unfold X7_isRoom
  rcases wn (nI ((ck - c) / pa)) (M := 5) 6 (by decide) (by decide) with ⟨a, b⟩ | ⟨p, a, b, d⟩
  · rw [a, if_pos rfl, if_neg (fun z => b _ z rfl)]
  · rw [d, if_neg n10, if_pos (by rw [nI_eq (by omega) (by omega)] at b; omega)]
theorem roomM {hx hm : Hp} (hR : HR 1 1 hx hm) (h : HI 1 hx) {v : Nat} (hv : v < 4) : X8_roomOf (nI v) hm = some (rmV hx v) := by
  obtain ⟨c, ck, c1, c2, c3, c4⟩ := cmN h hv
  obtain ⟨pa, p1, p2, p3⟩ := paN h
  unfold X8_roomOf rmV rmN
  rw [show (73 : Int32) + nI v = nI (73 + v) from nI_add 73 v, ck_nI (by omega) (by decide), cl_nI (by omega), rpa hR, rck hR, rf8 hR hv, c4, p3, c3, cl_nI (by omega), cl_nI (by omega), cl_nI (by omega), show nz (nI pa) = true by unfold nz; simp [nI_ne0 (show 0 < pa by omega) (show pa < 2 ^ 31 by omega)], chk_t, pk_sub (by omega), pk_div (by omega) (by omega) (by omega)]
  have hb : (ck - c) / pa ≤ 9999 := Nat.le_trans (Nat.div_le_self _ _) (by omega)
  by_cases z : (ck - c) / pa < 6
  · rw [if_neg (show ¬ (6 : Int32) ≤ nI ((ck - c) / pa) from nI_ge (b := 6) z (by omega)), if_pos z]
  · rw [if_pos (show (6 : Int32) ≤ nI ((ck - c) / pa) from nI_le (a := 6) (by omega) (by omega)), if_neg z]
def viP (h : Hp) (x : Int32) : Nat → Bool := fun v => decide (rmV h v = x)
theorem viX {h : Hp} (hi : HI 1 h) {fu nv : Nat} (e : h 1 11 = nI nv) (hn : nv ≤ 4) (x : Int32) : ∀ (k p n : Nat), p + k = nv → k < n → X1_visitorsIn_4 fu h n x (nI (bs (viP h x) p)) (nI p) = some (nI (bs (viP h x) nv)) := by
  intro k
  induction k with
  | zero =>
    intro p n hp hn1
    obtain ⟨m, rfl⟩ : ∃ m, n = m + 1 := ⟨n - 1, by omega⟩
    rw [X1_visitorsIn_4, e, if_pos (nI_le (by omega) (by omega)), show p = nv by omega]
  | succ k ih =>
    intro p n hp hn1
    obtain ⟨m, rfl⟩ : ∃ m, n = m + 1 := ⟨n - 1, by omega⟩
    rw [X1_visitorsIn_4, e, if_neg (nI_ge (by omega) (by omega)), roomX hi (by omega), bnd_s, nI_1]
    by_cases c : rmV h p = x
    · rw [if_pos c, or_bit (by omega), ← bs_t (show viP h x p = true from decide_eq_true c)]; exact ih (p + 1) m (by omega) (by omega)
    · rw [if_neg c, ← bs_f (show ¬ viP h x p = true by unfold viP; simp [c])]; exact ih (p + 1) m (by omega) (by omega)
theorem viM {hx hm : Hp} (hR : HR 1 1 hx hm) (hi : HI 1 hx) {fu nv : Nat} (e : hx 1 11 = nI nv) (hn : nv ≤ 4) (x : Int32) : ∀ (k p n : Nat), p + k = nv → k < n → X8_visitorsIn_4 fu hm n x (nI (bs (viP hx x) p)) (nI p) = some (nI (bs (viP hx x) nv)) := by
  intro k
  induction k with
  | zero =>
    intro p n hp hn1
    obtain ⟨m, rfl⟩ : ∃ m, n = m + 1 := ⟨n - 1, by omega⟩
    rw [X8_visitorsIn_4, rnv hR, e, if_pos (nI_le (by omega) (by omega)), show p = nv by omega]
  | succ k ih =>
    intro p n hp hn1
    obtain ⟨m, rfl⟩ : ∃ m, n = m + 1 := ⟨n - 1, by omega⟩
    rw [X8_visitorsIn_4, rnv hR, e, if_neg (nI_ge (by omega) (by omega)), roomM hR hi (by omega), bnd_s, nI_1]
    by_cases c : rmV hx p = x
    · rw [if_pos c, or_bit (by omega), ← bs_t (show viP hx x p = true from decide_eq_true c)]; exact ih (p + 1) m (by omega) (by omega)
    · rw [if_neg c, or_0, ← bs_f (show ¬ viP hx x p = true by unfold viP; simp [c])]; exact ih (p + 1) m (by omega) (by omega)
theorem o_room {hx hm : Hp} {fu : Nat} (hf : 11 ≤ fu) (h : R hx hm) (x1 x2 : Int32) : Eqv (X7_room fu x1 x2 hx) (X8_room fu x1 x2 hm) := by
  unfold X7_room X8_room X7_isRoom X8_isRoom
  rw [w8]
  rcases wn x1 (M := 5) 6 (by decide) (by decide) with ⟨q, -⟩ | ⟨r, q, e, t⟩
  · rw [q, if_pos rfl, if_pos rfl]; exact fB h
  · rw [t, if_neg n10, if_neg n10, e]
    rcases wn x2 (M := 3) 4 (by decide) (by decide) with ⟨a, b⟩ | ⟨w, a, b, c⟩
    · rw [a, if_pos rfl, if_neg (show ¬ x2 = 0 from b 0 (by decide)), if_neg (show ¬ x2 = 1 from b 1 (by decide)), if_neg (show ¬ x2 = 2 from b 2 (by decide)), if_neg (show ¬ x2 = 3 from b 3 (by decide))]; exact fB h
    · rw [c, if_neg n10]
      rcases (show w = 0 ∨ w = 1 ∨ w = 2 ∨ w = 3 by omega) with z | z | z | z <;> subst z
      · rw [show x2 = 0 from b, if_pos rfl, if_pos rfl, ck_nI q (by decide), cl_nI (by omega), show (27 : Int32) + nI r = nI (27 + r) from nI_add 27 r, ck_nI (by omega) (by decide), cl_nI (by omega), rf7 h.1 q]
        exact ⟨_, _, _, rfl, rfl, h⟩
      · rw [show x2 = 1 from b, if_neg n10, if_pos rfl, if_neg n10, if_pos rfl]
        obtain ⟨v, v1, v2⟩ := parts_eq hf h (nI r)
        rw [v1, v2, bnd_s, bnd_s]; exact ⟨_, _, _, rfl, rfl, h⟩
      · rw [show x2 = 2 from b, if_neg (by decide), if_neg (by decide), if_pos rfl, if_neg (by decide), if_neg (by decide), if_pos rfl, lnX_ok hf h.2.1 q, lnM_ok hf h.1 h.2.1 q, bnd_s, bnd_s]; exact ⟨_, _, _, rfl, rfl, h⟩
      · rw [show x2 = 3 from b, if_neg (by decide), if_neg (by decide), if_neg (by decide), if_pos rfl, if_neg (by decide), if_neg (by decide), if_neg (by decide)]
        obtain ⟨nv, n1, n2⟩ := nvN h.2.1
        unfold X1_visitorsIn X8_visitorsIn
        have a1 := viX (fu := fu) h.2.1 n2 n1 (nI r) nv 0 fu (by omega) (by omega)
        have a2 := viM (fu := fu) h.1 h.2.1 n2 n1 (nI r) nv 0 fu (by omega) (by omega)
        rw [show X1_visitorsIn_4 fu hx fu (nI r) 0 0 = _ from a1, show X8_visitorsIn_4 fu hm fu (nI r) 0 0 = _ from a2, bnd_s, bnd_s]; exact ⟨_, _, _, rfl, rfl, h⟩
