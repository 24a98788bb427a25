theorem shl10 : ∀ r, r < 7 → nI r <<< ((10 : Int32) &&& 31) = nI (1024 * r) := by decide +kernel
theorem wAt {h : Hp} {r u : Nat} (hr : r < 7) (hu : u < 1024) : X8_worthAt (nI r) (nI u) h = some (h 5 (1024 * r + u)) := by
  unfold X8_worthAt
  rw [shl10 r hr, nI_add, ck_nI (by omega) (by decide), cl_nI (by omega)]
def nhP (h : Hp) (np : Nat) : Nat → Bool := fun i => decide (np ≤ i) || !isH h i
theorem nohL {hx h : Hp} (hR : HR 1 1 hx h) (hI : HI 1 hx) {fu np : Nat} (hfu : 12 ≤ fu) (np1 : np ≤ 10) (np2 : hx 1 10 = nI np) : ∀ (k i n : Nat), i + k = 10 → k < n → X8_noHeads_4 fu h n (nI (bs (nhP hx np) i)) (nI i) = some (nI (bs (nhP hx np) 10)) := by
  intro k
  induction k with
  | zero =>
    intro i n hi hn
    obtain ⟨m, rfl⟩ : ∃ m, n = m + 1 := ⟨n - 1, by omega⟩
    rw [X8_noHeads_4, if_pos (show (10 : Int32) ≤ nI i from nI_le (a := 10) (by omega) (by omega)), show i = 10 by omega]
  | succ k ih =>
    intro i n hi hn
    obtain ⟨m, rfl⟩ : ∃ m, n = m + 1 := ⟨n - 1, by omega⟩
    rw [X8_noHeads_4, if_neg (show ¬ (10 : Int32) ≤ nI i from nI_ge (b := 10) (by omega) (by omega)), rnp hR, np2, nI_1, or_bit (by omega), or_0]
    by_cases z : np ≤ i
    · rw [if_pos (nI_le z (by omega)), ← bs_t (show nhP hx np i = true by unfold nhP; simp [z])]
      exact ih (i + 1) m (by omega) (by omega)
    · rw [if_neg (nI_ge (by omega) (by omega)), headM (by omega) hR hI (by omega), bnd_s]
      by_cases s : isH hx i = true
      · rw [if_pos s, if_neg n10, ← bs_f (show ¬ nhP hx np i = true by unfold nhP; simp [z, s])]
        exact ih (i + 1) m (by omega) (by omega)
      · rw [if_neg s, if_pos rfl, ← bs_t (show nhP hx np i = true by unfold nhP; simp [z, s])]
        exact ih (i + 1) m (by omega) (by omega)
/-- the heads that may be given -/
def HB (h : Hp) (np lo : Nat) : Nat → Bool := fun i => decide (i < np) && isH h i && !lo.testBit i
def x2m (h : Hp) (np lo : Nat) : Nat := bs (nhP h np) 10 ||| lo
theorem x2_lt {h : Hp} {np lo : Nat} (hl : lo < 1024) : x2m h np lo < 1024 := Nat.or_lt_two_pow (n := 10) (bs_lt _ _) hl
theorem x2_bit {h : Hp} {np lo i : Nat} (hi : i < 10) : (x2m h np lo).testBit i = !HB h np lo i := by
  unfold x2m HB nhP
  rw [Nat.testBit_or, bs_bit]
  by_cases z : np ≤ i
  · have : ¬ i < np := by omega
    simp [hi, z, this]
  · have : i < np := by omega
    simp [hi, z, this]
def dj (P : Nat → Bool) (u : Nat) : Prop := ∀ i, i < 10 → u.testBit i = true → P i = true
theorem dj_z {h : Hp} {np lo u : Nat} (hl : lo < 1024) (hu : u < 1024) : (nI u &&& nI (x2m h np lo) = 0) ↔ dj (HB h np lo) u := by
  rw [nx_and]
  have le : u &&& x2m h np lo ≤ u := Nat.and_le_left
  have e : (nI (u &&& x2m h np lo) = 0) ↔ u &&& x2m h np lo = 0 := nI_eq (b := 0) (by omega) (by omega)
  rw [e]
  constructor
  · intro h1 i hi hb
    have : (u &&& x2m h np lo).testBit i = false := by rw [h1]; exact Nat.zero_testBit i
    rw [Nat.testBit_and, hb, x2_bit hi] at this
    revert this
    cases HB h np lo i <;> decide
  · intro h1
    apply Nat.eq_of_testBit_eq
    intro i
    rw [Nat.testBit_and, Nat.zero_testBit]
    by_cases hi : i < 10
    · rw [x2_bit hi]
      by_cases b : u.testBit i = true
      · rw [b, h1 i hi b]; rfl
      · have b' : u.testBit i = false := by simpa using b
        rw [b']; rfl
    · have : u.testBit i = false := Nat.testBit_lt_two_pow (Nat.lt_of_lt_of_le hu (show 2 ^ 10 ≤ 2 ^ i from Nat.pow_le_pow_right (by omega) (by omega)))
      rw [this]; rfl
theorem dj_or {P : Nat → Bool} {u i : Nat} (h : dj P u) (hp : P i = true) : dj P (u ||| 2 ^ i) := fun z hz hb => by
  rw [Nat.testBit_or, Nat.testBit_two_pow] at hb
  by_cases e : i = z
  · subst e; exact hp
  · exact h z hz (by simpa [e] using hb)
theorem or_lt10 {u i : Nat} (hu : u < 1024) (hi : i < 10) : u ||| 2 ^ i < 1024 := Nat.or_lt_two_pow (n := 10) hu (Nat.pow_lt_pow_right (by omega) hi)
def SM (h : Hp) : Nat → Bool := fun a => shP h (5 - a)
/-- one place of the table -/
theorem f69 {hx hm : Hp} (hR : HR 1 1 hx hm) (hI : HI 1 hx) {fu np lo r k : Nat} (hfu : 12 ≤ fu) (np1 : np ≤ 10) (np2 : hx 1 10 = nI np) (hl : lo < 1024) (hk : r + k = 5) (k47 : Int32 → Int32 → Int32 → Hp → Option (Int32 × Hp)) {u : Nat} (hu : u < 1024) (h : Hp) (e : h 1 = hm 1)
    (hw : ∀ u, u < 1024 → dj (HB hx np lo) u → h 5 (1024 * (r + 1) + u) = nI (wN (RT hx) (SM hx) (HB hx np lo) np k u)) (x5 : Int32) (h5 : dj (HB hx np lo) u → x5 = nI (wN (RT hx) (SM hx) (HB hx np lo) np k u)) :
    ∃ w, X8_findMost_69 fu k47 fu (nI (x2m hx np lo)) (nI r) (nI u) x5 0 h = k47 (nI (x2m hx np lo)) (nI r) (nI (u + 1)) (up h 5 (1024 * r + u) w) ∧ (dj (HB hx np lo) u → w = nI (wN (RT hx) (SM hx) (HB hx np lo) np (k + 1) u)) := by
  have hRh : HR 1 1 hx h := hR.frame (fun _ _ => rfl) e
  have w1 : wN (RT hx) (SM hx) (HB hx np lo) np (k + 1) u = if SM hx k then mxF (fun i => HB hx np lo i && !u.testBit i) (fun i => RT hx i k + wN (RT hx) (SM hx) (HB hx np lo) np k (u ||| 2 ^ i)) (wN (RT hx) (SM hx) (HB hx np lo) np k u) np else wN (RT hx) (SM hx) (HB hx np lo) np k u := rfl
  have sk : SM hx k = shP hx r := by unfold SM; rw [show 5 - k = r by omega]
  obtain ⟨fu', rfl⟩ : ∃ m, fu = m + 1 := ⟨fu - 1, by omega⟩
  by_cases g : np ≠ 0 ∧ shP hx r = true ∧ dj (HB hx np lo) u
  · obtain ⟨g1, g2, g3⟩ := g
    rw [w1, sk, if_pos g2, h5 g3]
    have s0 : ¬ hx 8 r < 0 := by unfold shP at g2; simpa using g2
    have B : ∀ i, mxF (fun i => HB hx np lo i && !u.testBit i) (fun i => RT hx i k + wN (RT hx) (SM hx) (HB hx np lo) np k (u ||| 2 ^ i)) (wN (RT hx) (SM hx) (HB hx np lo) np k u) i ≤ 200 := fun i => mxF_b (by have := wN_b (S := SM hx) (P := HB hx np lo) (np := np) (RT_b hx) k u; omega) (fun j _ _ => by have := wN_b (S := SM hx) (P := HB hx np lo) (np := np) (RT_b hx) k (u ||| 2 ^ j); have := RT_b hx j k; omega)
    have loop : ∀ (d i n : Nat), i + d = np → d < n → X8_findMost_69 (fu' + 1) k47 n (nI (x2m hx np lo)) (nI r) (nI u) (nI (mxF (fun i => HB hx np lo i && !u.testBit i) (fun i => RT hx i k + wN (RT hx) (SM hx) (HB hx np lo) np k (u ||| 2 ^ i)) (wN (RT hx) (SM hx) (HB hx np lo) np k u) i)) (nI i) h = k47 (nI (x2m hx np lo)) (nI r) (nI (u + 1)) (up h 5 (1024 * r + u) (nI (mxF (fun i => HB hx np lo i && !u.testBit i) (fun i => RT hx i k + wN (RT hx) (SM hx) (HB hx np lo) np k (u ||| 2 ^ i)) (wN (RT hx) (SM hx) (HB hx np lo) np k u) np))) := by
      intro d
      induction d with
      | zero =>
        intro i n hi hn
        obtain ⟨m, rfl⟩ : ∃ m, n = m + 1 := ⟨n - 1, by omega⟩
        have : i = np := by omega
        subst this
        rw [X8_findMost_69, rnp hRh, np2, if_pos (nI_le (by omega) (by omega)), shl10 r (by omega), nI_add, ck_nI (by omega) (by decide), cl_nI (by omega), nI_1]
      | succ d ih =>
        intro i n hi hn
        obtain ⟨m, rfl⟩ : ∃ m, n = m + 1 := ⟨n - 1, by omega⟩
        obtain ⟨f, f1, f2, f3, f4⟩ := rt_ok hI (show i < 10 by omega) (show r < 6 by omega) g2
        have xl := x2_lt (h := hx) (np := np) hl
        rw [X8_findMost_69, rnp hRh, np2, if_neg (nI_ge (by omega) (by omega)), show (27 : Int32) + nI r = nI (27 + r) from nI_add 27 r]
        simp only [ck_nI (show 27 + r < 117 by omega) (show 117 < 2147483648 by decide), cl_nI (show 27 + r < 2147483648 by omega), rf7 hRh (show r < 6 by omega)]
        rw [if_neg s0, if_pos ((dj_z hl hu).mpr g3), nx_or, has_nI _ (Nat.or_lt_two_pow (n := 10) hu xl) i (by omega), Nat.testBit_or, x2_bit (by omega)]
        by_cases z : (HB hx np lo i && !u.testBit i) = true
        · have z' := z
          rw [Bool.and_eq_true] at z'
          rw [if_neg (show ¬ (u.testBit i || !HB hx np lo i) = true by
            have a := z'.1
            have b := z'.2
            revert a b
            cases u.testBit i <;> cases HB hx np lo i <;> decide), if_pos rfl, f2, likeM (by omega) hRh hI (by omega) f1, bnd_s, or_bit (by omega), nI_1 r, wAt (by omega) (or_lt10 hu (by omega)), bnd_s, hw _ (or_lt10 hu (by omega)) (dj_or g3 z'.1), f4, show 5 - r = k by omega, nI_add, nI_1 i]
          have b1 := B i
          have b2 := wN_b (S := SM hx) (P := HB hx np lo) (np := np) (RT_b hx) k (u ||| 2 ^ i)
          have b3 := RT_b hx i k
          rw [jmax_nI (by omega) (by omega)]
          rw [← mxF_t (P := fun i => HB hx np lo i && !u.testBit i) (f := fun i => RT hx i k + wN (RT hx) (SM hx) (HB hx np lo) np k (u ||| 2 ^ i)) z]
          exact ih (i + 1) m (by omega) (by omega)
        · rw [if_pos (show (u.testBit i || !HB hx np lo i) = true by
            revert z
            cases u.testBit i <;> cases HB hx np lo i <;> decide), if_neg n10, nI_1 i]
          rw [← mxF_f (P := fun i => HB hx np lo i && !u.testBit i) (f := fun i => RT hx i k + wN (RT hx) (SM hx) (HB hx np lo) np k (u ||| 2 ^ i)) z]
          exact ih (i + 1) m (by omega) (by omega)
    exact ⟨_, loop np 0 (fu' + 1) (by omega) (by omega), fun _ => rfl⟩
  · refine ⟨x5, ?_, fun d => ?_⟩
    · rw [X8_findMost_69, rnp hRh, np2, shl10 r (by omega), nI_add, ck_nI (by omega) (by decide), cl_nI (by omega), show (27 : Int32) + nI r = nI (27 + r) from nI_add 27 r, ck_nI (by omega) (by decide), cl_nI (show 27 + r < 2147483648 by omega), rf7 hRh (show r < 6 by omega), nI_1]
      by_cases z0 : np = 0
      · rw [if_pos (show nI np ≤ 0 by rw [z0]; decide)]
      · rw [if_neg (show ¬ nI np ≤ 0 from nI_ge (a := 0) (by omega) (by omega))]
        by_cases z1 : shP hx r = true
        · have s0 : ¬ hx 8 r < 0 := by unfold shP at z1; simpa using z1
          rw [if_neg s0, if_neg (fun q => g ⟨z0, z1, (dj_z hl hu).mp q⟩)]
        · have s0 : hx 8 r < 0 := by unfold shP at z1; simpa using z1
          rw [if_pos s0]
    · rw [h5 d, w1, sk]
      by_cases z1 : shP hx r = true
      · have z0 : np = 0 := by
          rcases Nat.eq_zero_or_pos np with q | q
          · exact q
          · exact absurd ⟨by omega, z1, d⟩ g
        rw [if_pos z1]
        subst z0
        rfl
      · rw [if_neg z1]
/-- a room of the table -/
theorem f47 {hx hm : Hp} (hR : HR 1 1 hx hm) (hI : HI 1 hx) {fu np lo r k : Nat} (hfu : 12 ≤ fu) (np1 : np ≤ 10) (np2 : hx 1 10 = nI np) (hl : lo < 1024) (hk : r + k = 5) (k40 : Int32 → Int32 → Hp → Option (Int32 × Hp)) : ∀ (d u n : Nat) (h : Hp), u + d = 1024 → d < n → h 1 = hm 1 → (∀ u, u < 1024 → dj (HB hx np lo) u → h 5 (1024 * (r + 1) + u) = nI (wN (RT hx) (SM hx) (HB hx np lo) np k u)) → ∃ h1, X8_findMost_47 fu k40 n (nI (x2m hx np lo)) (nI r) (nI u) h = k40 (nI (x2m hx np lo)) (nI r + (-1)) h1 ∧ (∀ q, u ≤ q → q < 1024 → dj (HB hx np lo) q → h1 5 (1024 * r + q) = nI (wN (RT hx) (SM hx) (HB hx np lo) np (k + 1) q)) ∧ (∀ j, j < 1024 * r + u ∨ 1024 * (r + 1) ≤ j → h1 5 j = h 5 j) ∧ (∀ c, c ≠ 5 → h1 c = h c) := by
  intro d
  induction d with
  | zero =>
    intro u n h hu hn e hw
    obtain ⟨m, rfl⟩ : ∃ m, n = m + 1 := ⟨n - 1, by omega⟩
    rw [X8_findMost_47, if_pos (show (1024 : Int32) ≤ nI u from nI_le (a := 1024) (by omega) (by omega))]
    exact ⟨h, rfl, fun q a b => by omega, fun _ _ => rfl, fun _ _ => rfl⟩
  | succ d ih =>
    intro u n h hu hn e hw
    obtain ⟨m, rfl⟩ : ∃ m, n = m + 1 := ⟨n - 1, by omega⟩
    rw [X8_findMost_47, if_neg (show ¬ (1024 : Int32) ≤ nI u from nI_ge (b := 1024) (by omega) (by omega)), nI_1, wAt (by omega) (by omega), bnd_s]
    obtain ⟨w, w1, w2⟩ := f69 hR hI hfu np1 np2 hl hk (X8_findMost_47 fu k40 m) (u := u) (by omega) h e hw (h 5 (1024 * (r + 1) + u)) (fun dd => hw u (by omega) dd)
    rw [w1]
    obtain ⟨h1, a1, a2, a3, a4⟩ := ih (u + 1) m (up h 5 (1024 * r + u) w) (by omega) (by omega) (by rw [up_ne (by decide)]; exact e) (fun q q1 q2 => by rw [up_nj (by omega)]; exact hw q q1 q2)
    refine ⟨h1, a1, fun q q1 q2 q3 => ?_, fun j hj => by rw [a3 j (by omega), up_nj (by omega)], fun c hc => by rw [a4 c hc, up_ne hc]⟩
    by_cases z : q = u
    · subst z; rw [a3 _ (by omega), up_eq]; exact w2 q3
    · exact a2 q (by omega) q2 q3
def tab (hx : Hp) (np lo : Nat) (h : Hp) (k : Nat) : Prop := ∀ a, a ≤ k → ∀ u, u < 1024 → dj (HB hx np lo) u → h 5 (1024 * (6 - a) + u) = nI (wN (RT hx) (SM hx) (HB hx np lo) np a u)
theorem f40 {hx hm : Hp} (hR : HR 1 1 hx hm) (hI : HI 1 hx) {fu np lo : Nat} (hfu : 1100 ≤ fu) (np1 : np ≤ 10) (np2 : hx 1 10 = nI np) (hl : lo < 1024) : ∀ (d k n : Nat) (x3 : Int32) (h : Hp), k + d = 6 → d < n → h 1 = hm 1 → tab hx np lo h k → (d = 0 → x3 = -1) → (∀ r, r + k = 5 → x3 = nI r) → ∃ h1, X8_findMost_40 fu n (nI (x2m hx np lo)) x3 h = some (nI (wN (RT hx) (SM hx) (HB hx np lo) np 6 0), h1) ∧ tab hx np lo h1 6 ∧ (∀ c, c ≠ 5 → h1 c = h c) := by
  intro d
  induction d with
  | zero =>
    intro k n x3 h hk hn e ht z1 z2
    obtain ⟨m, rfl⟩ : ∃ m, n = m + 1 := ⟨n - 1, by omega⟩
    have : k = 6 := by omega
    subst this
    rw [X8_findMost_40, z1 rfl, if_pos (by decide), show X8_worthAt 0 0 h = _ from wAt (r := 0) (u := 0) (by omega) (by omega), bnd_s]
    refine ⟨h, ?_, ht, fun _ _ => rfl⟩
    have := ht 6 (by omega) 0 (by omega) (fun i _ b => by rw [Nat.zero_testBit] at b; exact absurd b (by decide))
    rw [← this]
  | succ d ih =>
    intro k n x3 h hk hn e ht z1 z2
    obtain ⟨m, rfl⟩ : ∃ m, n = m + 1 := ⟨n - 1, by omega⟩
    obtain ⟨r, hr⟩ : ∃ r, r + k = 5 := ⟨5 - k, by omega⟩
    have ex := z2 r hr
    subst ex
    rw [X8_findMost_40, if_neg (nI_pos (by omega))]
    obtain ⟨g, g1, g2, g3, g4⟩ := f47 hR hI (fu := fu) (by omega) np1 np2 hl hr (X8_findMost_40 fu m) 1024 0 fu h (by omega) (by omega) e (fun u hu dd => by
      have := ht k (by omega) u hu dd
      rw [show 6 - k = r + 1 by omega] at this
      exact this)
    rw [show X8_findMost_47 fu (X8_findMost_40 fu m) fu (nI (x2m hx np lo)) (nI r) 0 h = _ from g1]
    obtain ⟨h1, a1, a2, a3⟩ := ih (k + 1) m (nI r + (-1)) g (by omega) (by omega) (by rw [g4 1 (by decide)]; exact e) (fun a ha u hu dd => by
      by_cases z : a = k + 1
      · subst z
        rw [show 6 - (k + 1) = r by omega]
        exact g2 u (by omega) hu dd
      · rw [g3 _ (by omega)]; exact ht a (by omega) u hu dd) (fun hd => by rw [show r = 0 by omega]; decide) (fun q hq => by rw [show r = q + 1 by omega, pk_m1])
    exact ⟨h1, a1, a2, fun c hc => by rw [a3 c hc, g4 c hc]⟩
theorem f14 {fu : Nat} (x2 : Int32) : ∀ (d u n : Nat) (h : Hp), u + d = 1024 → d < n → ∃ h1, X8_findMost_14 fu n x2 (nI u) h = X8_findMost_40 fu fu x2 5 h1 ∧ (∀ q, u ≤ q → q < 1024 → h1 5 (6144 + q) = 0) ∧ (∀ j, j < 6144 + u ∨ 7168 ≤ j → h1 5 j = h 5 j) ∧ (∀ c, c ≠ 5 → h1 c = h c) := by
  intro d
  induction d with
  | zero =>
    intro u n h hu hn
    obtain ⟨m, rfl⟩ : ∃ m, n = m + 1 := ⟨n - 1, by omega⟩
    rw [X8_findMost_14, if_pos (show (1024 : Int32) ≤ nI u from nI_le (a := 1024) (by omega) (by omega))]
    exact ⟨h, rfl, fun q a b => by omega, fun _ _ => rfl, fun _ _ => rfl⟩
  | succ d ih =>
    intro u n h hu hn
    obtain ⟨m, rfl⟩ : ∃ m, n = m + 1 := ⟨n - 1, by omega⟩
    rw [X8_findMost_14, if_neg (show ¬ (1024 : Int32) ≤ nI u from nI_ge (b := 1024) (by omega) (by omega)), show (6144 : Int32) + nI u = nI (6144 + u) from nI_add 6144 u, ck_nI (by omega) (by decide), cl_nI (by omega), nI_1]
    obtain ⟨h1, a1, a2, a3, a4⟩ := ih (u + 1) m (up h 5 (6144 + u) 0) (by omega) (by omega)
    refine ⟨h1, a1, fun q q1 q2 => ?_, fun j hj => by rw [a3 j (by omega), up_nj (by omega)], fun c hc => by rw [a4 c hc, up_ne hc]⟩
    by_cases z : q = u
    · subst z; rw [a3 _ (by omega), up_eq]
    · exact a2 q (by omega) q2
theorem findM {hx hm : Hp} (hR : HR 1 1 hx hm) (hI : HI 1 hx) {fu np lo : Nat} (hfu : 1100 ≤ fu) (np1 : np ≤ 10) (np2 : hx 1 10 = nI np) (hl : lo < 1024) : ∃ h1, X8_findMost fu (nI lo) hm = some (nI (wN (RT hx) (SM hx) (HB hx np lo) np 6 0), h1) ∧ tab hx np lo h1 6 ∧ h1 0 6 = nI lo ∧ (∀ j, j ≠ 6 → h1 0 j = hm 0 j) ∧ (∀ c, c ≠ 5 → c ≠ 0 → h1 c = hm c) := by
  unfold X8_findMost X8_noHeads
  have hR1 : HR 1 1 hx (up hm 0 6 (nI lo)) := hR.frame (fun _ _ => rfl) (up_ne (by decide))
  have a := nohL (fu := fu) hR1 hI (by omega) np1 np2 10 0 fu (by omega) (by omega)
  rw [show X8_noHeads_4 fu (up hm 0 6 (nI lo)) fu 0 0 = _ from a, bnd_s, nx_or]
  obtain ⟨g, g1, g2, g3, g4⟩ := f14 (fu := fu) (nI (x2m hx np lo)) 1024 0 fu (up hm 0 6 (nI lo)) (by omega) (by omega)
  rw [show X8_findMost_14 fu fu (nI (bs (nhP hx np) 10 ||| lo)) 0 (up hm 0 6 (nI lo)) = _ from g1]
  obtain ⟨h1, b1, b2, b3⟩ := f40 hR hI hfu np1 np2 hl 6 0 fu 5 g (by omega) (by omega) (by rw [g4 1 (by decide), up_ne (by decide)]) (fun q hq u hu _ => by
    have : q = 0 := by omega
    subst this
    exact g2 u (by omega) hu) (fun z => absurd z (by decide)) (fun r hr => by rw [show r = 5 by omega]; rfl)
  exact ⟨h1, b1, b2, by rw [b3 0 (by decide), g4 0 (by decide), up_eq], fun j hj => by rw [b3 0 (by decide), g4 0 (by decide), up_nj hj], fun c c1 c2 => by rw [b3 c c1, g4 c c1, up_ne c2]⟩
