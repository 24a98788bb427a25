def RT (h : Hp) (i a : Nat) : Nat := min 23 (lkH h i (h 8 (5 - a)).toNatClampNeg).toNatClampNeg
theorem RT_b (h : Hp) (i a : Nat) : RT h i a ≤ 23 := Nat.min_le_left _ _
theorem rt_ok {h : Hp} (hI : HI 1 h) {i r : Nat} (hi : i < 10) (hr : r < 6) (hs : shP h r = true) : ∃ f, f < 6 ∧ h 8 r = nI f ∧ ¬ h 8 r < 0 ∧ lkH h i f = nI (RT h i (5 - r)) := by
  have hs' : ¬ h 8 r < 0 := by unfold shP at hs; simpa using hs
  rcases shF hI hr with ⟨a, -⟩ | ⟨f, f1, f2, f3⟩
  · exact absurd a hs'
  · refine ⟨f, f1, f2, f3, ?_⟩
    obtain ⟨v, v1, v2⟩ := lkH_n hI hi f1
    unfold RT
    rw [show 5 - (5 - r) = r by omega, f2, cl_nI (show f < 2147483648 by omega), v2, cl_nI (by omega), show min 23 v = v by omega]
theorem sv45 {hx : Hp} (hI : HI 1 hx) {fu i : Nat} (hi : i < 10) (k15 : Int32 → Hp → Option Hp) : ∀ (k r n : Nat) (h : Hp), (∀ c, c ≤ 33 → h c = hx c) → r + k = 6 → k < n → ∃ h1, X0_survey_45 fu k15 n (nI i) (nI r) h = k15 (nI (i + 1)) h1 ∧ (∀ q, r ≤ q → q < 6 → shP hx q = true → h1 35 (6 * i + q) = nI (RT hx i (5 - q))) ∧ (∀ j, j < 6 * i + r ∨ 6 * i + 6 ≤ j → h1 35 j = h 35 j) ∧ (∀ c, c ≠ 35 → h1 c = h c) := by
  intro k
  induction k with
  | zero =>
    intro r n h e hr hn
    obtain ⟨m, rfl⟩ : ∃ m, n = m + 1 := ⟨n - 1, by omega⟩
    rw [X0_survey_45, if_pos (show (6 : Int32) ≤ nI r from nI_le (a := 6) (by omega) (by omega)), nI_1]
    exact ⟨h, rfl, fun q a b => by omega, fun _ _ => rfl, fun _ _ => rfl⟩
  | succ k ih =>
    intro r n h e hr hn
    obtain ⟨m, rfl⟩ : ∃ m, n = m + 1 := ⟨n - 1, by omega⟩
    have go : ∀ w : Int32, (shP hx r = true → w = nI (RT hx i (5 - r))) → ∃ h1, X0_survey_45 fu k15 m (nI i) (nI (r + 1)) (up h 35 (6 * i + r) w) = k15 (nI (i + 1)) h1 ∧ (∀ q, r ≤ q → q < 6 → shP hx q = true → h1 35 (6 * i + q) = nI (RT hx i (5 - q))) ∧ (∀ j, j < 6 * i + r ∨ 6 * i + 6 ≤ j → h1 35 j = h 35 j) ∧ (∀ c, c ≠ 35 → h1 c = h c) := by
      intro w hw
      obtain ⟨h1, a, b, c, d⟩ := ih (r + 1) m (up h 35 (6 * i + r) w) (fun c hc => by rw [up_ne (by omega)]; exact e c hc) (by omega) (by omega)
      refine ⟨h1, a, fun q q1 q2 q3 => ?_, fun j hj => by rw [c j (by omega), up_nj (by omega)], fun c hc => by rw [d c hc, up_ne hc]⟩
      by_cases z : q = r
      · subst z; rw [c _ (by omega), up_eq]; exact hw q3
      · exact b q (by omega) q2 q3
    rw [X0_survey_45, if_neg (show ¬ (6 : Int32) ≤ nI r from nI_ge (b := 6) (by omega) (by omega)), ck_nI (by omega) (by decide), cl_nI (show r < 2147483648 by omega), e 8 (by omega), isF hI (by omega), show nI i * (6 : Int32) = nI (i * 6) from pk_mul i 6, nI_add, show i * 6 + r = 6 * i + r by omega, nI_1]
    simp only [ck_nI (show 6 * i + r < 60 by omega) (show 60 < 2147483648 by decide), cl_nI (show 6 * i + r < 2147483648 by omega)]
    by_cases s : shP hx r = true
    · obtain ⟨f, f1, f2, f3, f4⟩ := rt_ok hI hi (show r < 6 by omega) s
      rw [if_pos s, if_neg n10, f2, likeX hi f1, bnd_s]
      exact go _ (fun _ => by rw [← f4]; unfold lkH; rw [e 2 (by omega), e 3 (by omega), e 6 (by omega)])
    · rw [if_neg s, if_pos rfl]
      exact go _ (fun z => absurd z s)
theorem isH_e {h hx : Hp} (e : h 2 = hx 2) (i : Nat) : isH h i = isH hx i := by unfold isH; rw [e]
theorem sv15 {hx : Hp} (hI : HI 1 hx) {fu np : Nat} (hfu : 12 ≤ fu) (np1 : np ≤ 10) (np2 : hx 1 10 = nI np) : ∀ (k i n : Nat) (h : Hp), (∀ c, c ≤ 33 → h c = hx c) → h 34 2 = nI (bs (isH hx) i) → (∀ j r, j < i → isH hx j = true → r < 6 → shP hx r = true → h 35 (6 * j + r) = nI (RT hx j (5 - r))) → i + k = np → k < n → ∃ h1, X0_survey_15 fu n (nI i) h = some h1 ∧ h1 34 3 = h 34 3 ∧ h1 34 2 = nI (bs (isH hx) np) ∧ (∀ j r, j < np → isH hx j = true → r < 6 → shP hx r = true → h1 35 (6 * j + r) = nI (RT hx j (5 - r))) ∧ (∀ c, c ≠ 34 → c ≠ 35 → h1 c = h c) := by
  intro k
  induction k with
  | zero =>
    intro i n h e e2 e3 hi hn
    obtain ⟨m, rfl⟩ : ∃ m, n = m + 1 := ⟨n - 1, by omega⟩
    have : i = np := by omega
    subst this
    rw [X0_survey_15, e 1 (by omega), np2, if_pos (nI_le (by omega) (by omega))]
    exact ⟨h, rfl, rfl, e2, e3, fun _ _ _ => rfl⟩
  | succ k ih =>
    intro i n h e e2 e3 hi hn
    obtain ⟨m, rfl⟩ : ∃ m, n = m + 1 := ⟨n - 1, by omega⟩
    have hIh : HI 1 h := hI.frame (fun f hf => e _ (by omega))
    rw [X0_survey_15, e 1 (by omega), np2, if_neg (nI_ge (by omega) (by omega)), headX (by omega) hIh (by omega), bnd_s, isH_e (e 2 (by omega)), nI_1, e2]
    by_cases s : isH hx i = true
    · rw [if_pos s, if_neg n10, or_bit (by omega), ← bs_t s]
      obtain ⟨g, g1, g2, g3, g4⟩ := sv45 hI (fu := fu) (show i < 10 by omega) (X0_survey_15 fu m) 6 0 fu (up h 34 2 (nI (bs (isH hx) (i + 1)))) (fun c hc => by rw [up_ne (by omega)]; exact e c hc) (by omega) (by omega)
      rw [show X0_survey_45 fu (X0_survey_15 fu m) fu (nI i) 0 (up h 34 2 (nI (bs (isH hx) (i + 1)))) = _ from g1]
      obtain ⟨h1, a1, a2, a3, a4, a5⟩ := ih (i + 1) m g (fun c hc => by rw [g4 c (by omega), up_ne (by omega)]; exact e c hc) (by rw [g4 34 (by decide), up_eq]) (fun j r j1 j2 r1 r2 => by
        by_cases z : j = i
        · subst z; exact g2 r (by omega) r1 r2
        · rw [g3 _ (by omega), up_ne (by decide)]; exact e3 j r (by omega) j2 r1 r2) (by omega) (by omega)
      exact ⟨h1, a1, by rw [a2, g4 34 (by decide), up_nj (by decide)], a3, a4, fun c c1 c2 => by rw [a5 c c1 c2, g4 c c2, up_ne c1]⟩
    · rw [if_neg s, if_pos rfl]
      exact ih (i + 1) m h e (by rw [e2, bs_f s]) (fun j r j1 j2 r1 r2 => by
        by_cases z : j = i
        · subst z; exact absurd j2 s
        · exact e3 j r (by omega) j2 r1 r2) (by omega) (by omega)
theorem svX {hx : Hp} (hI : HI 1 hx) {fu np : Nat} (hfu : 12 ≤ fu) (np1 : np ≤ 10) (np2 : hx 1 10 = nI np) : ∃ h1, X0_survey fu hx = some h1 ∧ h1 34 3 = nI (bs (shP hx) 6) ∧ h1 34 2 = nI (bs (isH hx) np) ∧ (∀ j r, j < np → isH hx j = true → r < 6 → shP hx r = true → h1 35 (6 * j + r) = nI (RT hx j (5 - r))) ∧ (∀ c, c ≠ 34 → c ≠ 35 → h1 c = hx c) := by
  unfold X0_survey
  rw [rs_ok hI (by omega), bnd_s]
  obtain ⟨h1, a1, a2, a3, a4, a5⟩ := sv15 hI hfu np1 np2 np 0 fu (up (up hx 34 3 (nI (bs (shP hx) 6))) 34 2 0) (fun c hc => by rw [up_ne (by omega), up_ne (by omega)]) (by rw [up_eq]; rfl) (fun j r j1 => by omega) (by omega) (by omega)
  exact ⟨h1, a1, by rw [a2, up_nj (by decide), up_eq], a3, a4, fun c c1 c2 => by rw [a5 c c1 c2, up_ne c1, up_ne c1]⟩
/-! the reference's table -/
def wN (rt : Nat → Nat → Nat) (S P : Nat → Bool) (np : Nat) : Nat → Nat → Nat
  | 0, _ => 0
  | k + 1, u => if S k then mxF (fun i => P i && !u.testBit i) (fun i => rt i k + wN rt S P np k (u ||| 2 ^ i)) (wN rt S P np k u) np else wN rt S P np k u
def Hu (P : Nat → Bool) (u : Nat) : Nat → Bool := fun i => P i && !u.testBit i
theorem Hu_or {P : Nat → Bool} {u i : Nat} : Hu P (u ||| 2 ^ i) = rmv (Hu P u) i := by
  funext z
  unfold Hu rmv
  rw [Nat.testBit_or, Nat.testBit_two_pow]
  by_cases e : z = i
  · subst e; simp
  · have : ¬ i = z := fun q => e q.symm
    simp [e, this]
theorem wN_b {rt : Nat → Nat → Nat} {S P : Nat → Bool} {np : Nat} (hr : ∀ i a, rt i a ≤ 23) : ∀ k u, wN rt S P np k u ≤ 23 * k := by
  intro k
  induction k with
  | zero => intro u; exact Nat.le_refl 0
  | succ k ih =>
    intro u
    show (if S k then mxF _ _ _ np else wN rt S P np k u) ≤ _
    by_cases z : S k = true
    · rw [if_pos z]
      exact mxF_b (by have := ih u; omega) (fun i _ _ => by have := ih (u ||| 2 ^ i); have := hr i k; omega)
    · rw [if_neg z]; have := ih u; omega
theorem wN_V {rt : Nat → Nat → Nat} {S P : Nat → Bool} {np : Nat} (hP : ∀ i, P i = true → i < np) : ∀ k u, VF rt S k (Hu P u) (wN rt S P np k u) := by
  intro k
  induction k with
  | zero => intro u c v; exact Iff.rfl
  | succ k ih =>
    intro u c v
    show c + (if S k then mxF (fun i => P i && !u.testBit i) (fun i => rt i k + wN rt S P np k (u ||| 2 ^ i)) (wN rt S P np k u) np else wN rt S P np k u) ≤ v ↔ (UF rt S k (Hu P u) c v ∧ (S k = true → ∀ i, Hu P u i = true → UF rt S k (rmv (Hu P u) i) (c + rt i k) v))
    by_cases z : S k = true
    · rw [if_pos z, mxF_le, ih u c v]
      constructor
      · rintro ⟨a, b⟩
        refine ⟨a, fun _ i hi => ?_⟩
        rw [← Hu_or, ← ih]
        have := b i (hP i (by unfold Hu at hi; rw [Bool.and_eq_true] at hi; exact hi.1)) hi
        omega
      · rintro ⟨a, b⟩
        refine ⟨a, fun i _ hi => ?_⟩
        have := b z i hi
        rw [← Hu_or, ← ih] at this
        omega
    · rw [if_neg z, ih u c v]
      exact ⟨fun a => ⟨a, fun q => absurd q z⟩, fun a => a.1⟩
