/-- the head that a room is given first: what makes one fit -/
def gQ (hx : Hp) (np u r : Nat) (x3 : Int32) : Nat → Bool := fun j => shP hx r && (Hu (HB hx np 0) u j && decide (nI (RT hx j (5 - r) + wN (RT hx) (SM hx) (HB hx np 0) np (5 - r) (u ||| 2 ^ j)) = x3))
theorem may_ok {hx g : Hp} (hR : HR 1 1 hx g) (hI : HI 1 hx) {fu np u r j : Nat} (hfu : 12 ≤ fu) (np1 : np ≤ 10) (np2 : hx 1 10 = nI np) (g6 : g 0 6 = nI 0) (hu : u < 1024) (hr : r < 6) (hj : j < np) : X8_mayGive fu (nI r) (nI u) (nI j) g = some (if shP hx r && Hu (HB hx np 0) u j then 1 else 0) := by
  unfold X8_mayGive
  rw [show (27 : Int32) + nI r = nI (27 + r) from nI_add 27 r, ck_nI (by omega) (by decide), cl_nI (by omega), rf7 hR hr, rnp hR, np2, g6, nx_or, Nat.or_zero, has_nI u hu j (by omega), headM (by omega) hR hI (by omega), if_neg (nI_ge hj (by omega))]
  have hb : HB hx np 0 j = isH hx j := by unfold HB; rw [Nat.zero_testBit]; simp [hj]
  by_cases a : shP hx r = true
  · have s0 : ¬ hx 8 r < 0 := by unfold shP at a; simpa using a
    rw [if_neg s0, a, Bool.true_and]
    unfold Hu
    rw [hb]
    by_cases b : u.testBit j = true
    · rw [if_pos b, if_neg n10, b]; simp
    · rw [if_neg b, if_pos rfl, bnd_s]
      by_cases c : isH hx j = true
      · rw [if_pos c, if_neg n10]; simp [b, c]
      · rw [if_neg c, if_pos rfl]; simp [c]
  · have s0 : hx 8 r < 0 := by unfold shP at a; simpa using a
    rw [if_pos s0, if_neg (by rw [Bool.and_eq_true]; exact fun z => a z.1)]
def g47R (fu : Nat) (k28 : Int32 → Int32 → Int32 → Int32 → Int32 → Hp → Option (Int32 × Hp)) (x1 x3 : Int32) (u r : Nat) (g : Hp) (y : Int32) : Option (Int32 × Hp) := if 0 ≤ y then chk (inR ((27 : Int32) + nI r) 117) (bnd (X8_likeTo fu y (g 1 ((27 : Int32) + nI r).toNatClampNeg) g) (fun r4 => X8_given_152 fu k28 x1 (nI u) y (nI r) x3 r4 g)) else X8_given_152 fu k28 x1 (nI u) y (nI r) x3 0 g
theorem g47 {hx g : Hp} (hR : HR 1 1 hx g) (hI : HI 1 hx) {fu np u r : Nat} (hfu : 12 ≤ fu) (np1 : np ≤ 10) (np2 : hx 1 10 = nI np) (g6 : g 0 6 = nI 0) (ht : tab hx np 0 g 6) (hu : u < 1024) (hd : dj (HB hx np 0) u) (hr : r < 6) (k28 : Int32 → Int32 → Int32 → Int32 → Int32 → Hp → Option (Int32 × Hp)) (x1 x3 : Int32) : ∀ (i n : Nat) (x4 x6 : Int32), i ≤ np → i < n → (i = 0 → x6 = -1) → (∀ q, i = q + 1 → x6 = nI q) → X8_given_47 fu k28 n x1 x3 (nI u) x4 (nI r) x6 g = g47R fu k28 x1 x3 u r g (dn (gQ hx np u r x3) i x4) := by
  intro i
  induction i with
  | zero =>
    intro n x4 x6 hi hn z1 z2
    obtain ⟨m, rfl⟩ : ∃ m, n = m + 1 := ⟨n - 1, by omega⟩
    rw [X8_given_47, z1 rfl, if_pos (by decide)]
    rfl
  | succ i ih =>
    intro n x4 x6 hi hn z1 z2
    obtain ⟨m, rfl⟩ : ∃ m, n = m + 1 := ⟨n - 1, by omega⟩
    have ex := z2 i rfl
    subst ex
    have n1 : (i = 0 → nI i + (-1 : Int32) = -1) := fun e => by rw [e]; decide
    have n2 : (∀ q, i = q + 1 → nI i + (-1 : Int32) = nI q) := fun q e => by rw [e, pk_m1]
    have go : ∀ b : Bool, b = gQ hx np u r x3 i → X8_given_104 fu (X8_given_47 fu k28 m) x1 x3 (nI u) x4 (nI r) (nI i) (if b then 1 else 0) g = g47R fu k28 x1 x3 u r g (dn (gQ hx np u r x3) (i + 1) x4) := by
      intro b hb
      have e : dn (gQ hx np u r x3) (i + 1) x4 = dn (gQ hx np u r x3) i (if gQ hx np u r x3 i then nI i else x4) := rfl
      rw [e, ← hb]
      unfold X8_given_104
      cases b with
      | false => rw [if_pos (show (if false = true then (1 : Int32) else 0) = 0 from rfl)]; exact ih m x4 _ (by omega) (by omega) n1 n2
      | true => rw [if_neg (show ¬ (if true = true then (1 : Int32) else 0) = 0 from n10)]; exact ih m (nI i) _ (by omega) (by omega) n1 n2
    rw [X8_given_47, if_neg (nI_pos (by omega)), may_ok hR hI hfu np1 np2 g6 hu hr (by omega), bnd_s]
    by_cases s : (shP hx r && Hu (HB hx np 0) u i) = true
    · have s' := s
      rw [Bool.and_eq_true] at s'
      have hbi : HB hx np 0 i = true := by have := s'.2; unfold Hu at this; rw [Bool.and_eq_true] at this; exact this.1
      obtain ⟨f, f1, f2, f3, f4⟩ := rt_ok hI (show i < 10 by omega) hr s'.1
      rw [if_pos s, if_neg n10, show (27 : Int32) + nI r = nI (27 + r) from nI_add 27 r, ck_nI (by omega) (by decide), cl_nI (show 27 + r < 2147483648 by omega), rf7 hR hr, f2, likeM (by omega) hR hI (by omega) f1, bnd_s, or_bit (by omega), nI_1, wAt (by omega) (or_lt10 hu (by omega)), bnd_s, f4]
      have tt := ht (5 - r) (by omega) (u ||| 2 ^ i) (or_lt10 hu (by omega)) (dj_or hd hbi)
      rw [show 6 - (5 - r) = r + 1 by omega] at tt
      rw [tt, nI_add]
      by_cases q : nI (RT hx i (5 - r) + wN (RT hx) (SM hx) (HB hx np 0) np (5 - r) (u ||| 2 ^ i)) = x3
      · rw [if_pos q]; exact go true (by unfold gQ; rw [s'.1, s'.2, decide_eq_true q]; rfl)
      · rw [if_neg q]; exact go false (by unfold gQ; rw [s'.1, s'.2, decide_eq_false q]; rfl)
    · rw [if_neg s, if_pos rfl]
      exact go false (by
        unfold gQ
        rw [← Bool.and_assoc]
        have : (shP hx r && Hu (HB hx np 0) u i) = false := by simpa using s
        rw [this]; rfl)
/-- the class looks for the first head of a room -/
theorem fh {hx h2 : Hp} {fu np hs rooms u r : Nat} {x3 : Int32} (np1 : np ≤ 10) (hr : r < 6) (hsl : sub hs (bs (isH hx) np)) (hsr : sub rooms (bs (shP hx) 6)) (hsh : shP hx r = true) (he : hJ hs 10 = Hu (HB hx np 0) u)
    (rb : ∀ q, rooms.testBit q = (decide (r + 1 ≤ q) && (bs (shP hx) 6).testBit q))
    (a5 : ∀ hs rooms h, sub hs (bs (isH hx) np) → sub rooms (bs (shP hx) 6) → h 35 = h2 35 → ∃ h3, X0_fill fu (nI rooms) (nI hs) h = some (nI (bN (RT hx) hs 10 rooms), h3) ∧ (∀ m, sub m rooms → h3 36 m = nI (bN (RT hx) hs 10 m)) ∧ (∀ q, q ≠ 36 → h3 q = h q))
    (e35 : ∀ j, hs.testBit j = true → h2 35 (6 * j + r) = nI (RT hx j (5 - r))) : ∀ (k j n : Nat) (h : Hp), j + k = 10 → k < n → h 35 = h2 35 → h 34 3 = nI rooms → h 34 2 = nI hs → ∃ h1, X0_firstHead_2 fu n (nI r) x3 (nI j) h = some (lw (gQ hx np u r x3) j k, h1) ∧ (∀ q, q ≠ 36 → h1 q = h q) := by
  have l1 := isH_lt hx np1
  have l1' := sub_le hsl
  -- the tables say the same
  have same : ∀ j, hs.testBit j = true → bN (RT hx) (clr hs j) 10 rooms = wN (RT hx) (SM hx) (HB hx np 0) np (5 - r) (u ||| 2 ^ j) := fun j hj => by
    have a := bN_V (rt := RT hx) (hs := clr hs j) 10 rooms
    have b := wN_V (rt := RT hx) (S := SM hx) (P := HB hx np 0) (np := np) (fun i hi => HB_np hi) (5 - r) (u ||| 2 ^ j)
    rw [hJ_clr, he, ← Hu_or] at a
    refine VF_u (fun c v => ?_) b
    rw [a c v]
    have t := UF_top (rt := RT hx) (S := rS rooms) (n := 5 - r) (r + 1) (Hu (HB hx np 0) (u ||| 2 ^ j)) c v (fun q q1 q2 => by
      unfold rS
      rw [rb, decide_eq_false (by omega), Bool.false_and])
    rw [show 5 - r + (r + 1) = 6 by omega] at t
    rw [t]
    refine UF_S _ _ _ _ (fun q hq => ?_)
    unfold rS SM
    rw [rb, decide_eq_true (show r + 1 ≤ 5 - q by omega), Bool.true_and, bs_bit, decide_eq_true (show 5 - q < 6 by omega), Bool.true_and]
  intro k
  induction k with
  | zero =>
    intro j n h hj hn e1 e2 e3
    obtain ⟨m, rfl⟩ : ∃ m, n = m + 1 := ⟨n - 1, by omega⟩
    rw [X0_firstHead_2, if_pos (show (10 : Int32) ≤ nI j from nI_le (a := 10) (by omega) (by omega))]
    exact ⟨h, rfl, fun _ _ => rfl⟩
  | succ k ih =>
    intro j n h hj hn e1 e2 e3
    obtain ⟨m, rfl⟩ : ∃ m, n = m + 1 := ⟨n - 1, by omega⟩
    have el : lw (gQ hx np u r x3) j (k + 1) = if gQ hx np u r x3 j then nI j else lw (gQ hx np u r x3) (j + 1) k := rfl
    have hju : Hu (HB hx np 0) u j = hs.testBit j := by rw [← he]; unfold hJ; rw [decide_eq_true (show j < 10 by omega), Bool.true_and]
    have cl := clr_le hs j
    rw [X0_firstHead_2, if_neg (show ¬ (10 : Int32) ≤ nI j from nI_ge (b := 10) (by omega) (by omega)), e3, clr_nI (by omega), nI_1, el]
    by_cases b : hs.testBit j = true
    · have lt := clr_lt b
      rw [if_neg (fun z => by have := (nI_eq (by omega) (by omega)).mp z; omega), show nI j * (6 : Int32) = nI (j * 6) from pk_mul j 6, nI_add, show j * 6 + r = 6 * j + r by omega, ck_nI (by omega) (by decide), cl_nI (by omega), e2]
      obtain ⟨h3, f1, f2, f3⟩ := a5 (clr hs j) rooms h (sub_clr hsl) hsr e1
      rw [f1, bnd_s, e1, e35 j b, same j b]
      dsimp only
      rw [nI_add]
      have gq : gQ hx np u r x3 j = decide (nI (RT hx j (5 - r) + wN (RT hx) (SM hx) (HB hx np 0) np (5 - r) (u ||| 2 ^ j)) = x3) := by unfold gQ; rw [hsh, hju, b, Bool.true_and, Bool.true_and]
      by_cases q : nI (RT hx j (5 - r) + wN (RT hx) (SM hx) (HB hx np 0) np (5 - r) (u ||| 2 ^ j)) = x3
      · rw [if_pos q, if_pos (by rw [gq]; exact decide_eq_true q)]
        exact ⟨h3, rfl, f3⟩
      · rw [if_neg q, if_neg (by rw [gq, decide_eq_false q]; decide)]
        obtain ⟨h4, g1, g2⟩ := ih (j + 1) m h3 (by omega) (by omega) (by rw [f3 35 (by decide)]; exact e1) (by rw [f3 34 (by decide)]; exact e2) (by rw [f3 34 (by decide)]; exact e3)
        exact ⟨h4, g1, fun q hq => by rw [g2 q hq, f3 q hq]⟩
    · have b' : hs.testBit j = false := by simpa using b
      have ce : clr hs j = hs := by
        apply Nat.eq_of_testBit_eq
        intro i
        rw [clr_bit]
        by_cases z : i = j
        · rw [z, b']; rfl
        · simp [z]
      rw [ce, if_pos rfl, if_neg (show ¬ gQ hx np u r x3 j = true by unfold gQ; rw [hju, b']; simp)]
      exact ih (j + 1) m h (by omega) (by omega) e1 e2 e3
