theorem has_nI : ∀ x, x < 1024 → ∀ p, p < 10 → X8_has (nI x) (nI p) = if x.testBit p then 1 else 0 := by decide +kernel
def allF (P : Nat → Bool) (v : Nat) : Nat → Bool
  | 0 => true
  | k + 1 => P v && allF P (v + 1) k
theorem allF_ext {P Q : Nat → Bool} : ∀ (k v : Nat), (∀ u, v ≤ u → u < v + k → P u = Q u) → allF P v k = allF Q v k := by
  intro k
  induction k with
  | zero => intro v _; rfl
  | succ k ih =>
    intro v h
    show (P v && allF P (v + 1) k) = (Q v && allF Q (v + 1) k)
    rw [h v (by omega) (by omega), ih (v + 1) (fun u a b => h u (by omega) (by omega))]
def srP (h : Hp) (v : Nat) (x : Int32) : Nat → Bool := fun p => !decide (J6_bitCount_0f7a4 (h 1 (77 + 10 * v + p)) < x)
theorem sgR {h : Hp} {fu v : Nat} (hfu : 11 ≤ fu) (hv : v < 4) (x : Int32) (hs : ∀ q, q < 10 → ∃ s, s < 64 ∧ h 1 (77 + 10 * v + q) = nI s) : ∀ (k p n : Nat), p + k = 10 → k < n → X8_seenIn_5 fu h n (nI v) x (nI (bs (srP h v x) p)) (nI p) = some (nI (bs (srP h v x) 10)) := by
  intro k
  induction k with
  | zero =>
    intro p n hp hn1
    obtain ⟨m, rfl⟩ : ∃ m, n = m + 1 := ⟨n - 1, by omega⟩
    rw [X8_seenIn_5, if_pos (show (10 : Int32) ≤ nI p from nI_le (a := 10) (by omega) (by omega)), show p = 10 by omega]
  | succ k ih =>
    intro p n hp hn1
    obtain ⟨m, rfl⟩ : ∃ m, n = m + 1 := ⟨n - 1, by omega⟩
    obtain ⟨s, s1, s2⟩ := hs p (by omega)
    rw [X8_seenIn_5, if_neg (show ¬ (10 : Int32) ≤ nI p from nI_ge (b := 10) (by omega) (by omega)), show (10 : Int32) * nI v = nI (10 * v) from pk_mul 10 v, show (77 : Int32) + nI (10 * v) = nI (77 + 10 * v) from nI_add 77 (10 * v), nI_add, ck_nI (by omega) (by decide), cl_nI (by omega), s2, bits_nI hfu (by omega), bnd_s, nI_1, or_0, ← s2]
    by_cases c : J6_bitCount_0f7a4 (h 1 (77 + 10 * v + p)) < x
    · rw [if_pos c, ← bs_f (show ¬ srP h v x p = true by unfold srP; simp [c])]; exact ih (p + 1) m (by omega) (by omega)
    · rw [if_neg c, or_bit (by omega), ← bs_t (show srP h v x p = true by unfold srP; simp [c])]; exact ih (p + 1) m (by omega) (by omega)
theorem seenR {h : Hp} {fu v : Nat} (hfu : 11 ≤ fu) (hv : v < 4) (x : Int32) (hs : ∀ q, q < 10 → ∃ s, s < 64 ∧ h 1 (77 + 10 * v + q) = nI s) : X8_seenIn fu (nI v) x h = some (nI (bs (srP h v x) 10)) := sgR hfu hv x hs 10 0 fu (by omega) (by omega)
theorem hasS {h : Hp} {v p : Nat} {x : Int32} (hp : p < 10) : X8_has (nI (bs (srP h v x) 10)) (nI p) = if srP h v x p then 1 else 0 := by
  rw [has_nI _ (bs_lt _ _) p hp, bs_bit]
  simp [hp]
theorem hasW {W : Nat → Bool} {nv v : Nat} (hn : nv ≤ 4) (hv : v < nv) : X8_has (nI (bs W nv)) (nI v) = if W v then 1 else 0 := by
  rw [has_nI _ (Nat.lt_of_lt_of_le (bs_lt _ _) (Nat.le_trans (Nat.pow_le_pow_right (by omega) hn) (by decide))) v (by omega), bs_bit]
  simp [hv]
def okM (h : Hp) (W : Nat → Bool) (p : Nat) : Nat → Bool := fun v => !(W v && srP h v 2 p)
theorem un45 {h : Hp} {W : Nat → Bool} {fu nv p : Nat} (hfu : 11 ≤ fu) (hp : p < 10) (e : h 1 3 = nI nv) (hn : nv ≤ 4) (hs : ∀ v q, v < 4 → q < 10 → ∃ s, s < 64 ∧ h 1 (77 + 10 * v + q) = nI s) : ∀ (k v n : Nat) (a : Bool), v + k = nv → k < n → X8_isUnseen_45 fu n (nI p) (nI (bs W nv)) (if a then 1 else 0) (nI v) h = bnd (X8_copyRow fu 3 1 h) (fun h3 => some (if a && allF (okM h W p) v k then 1 else 0, h3)) := by
  intro k
  induction k with
  | zero =>
    intro v n a hv hk
    obtain ⟨m, rfl⟩ : ∃ m, n = m + 1 := ⟨n - 1, by omega⟩
    rw [X8_isUnseen_45, e, if_pos (nI_le (by omega) (by omega))]
    show _ = bnd (X8_copyRow fu 3 1 h) (fun h3 => some (if a && true then 1 else 0, h3))
    rw [Bool.and_true]
  | succ k ih =>
    intro v n a hv hk
    obtain ⟨m, rfl⟩ : ∃ m, n = m + 1 := ⟨n - 1, by omega⟩
    rw [X8_isUnseen_45, e, if_neg (nI_ge (by omega) (by omega)), nI_1]
    have go : ∀ b : Bool, b = (a && okM h W p v) → X8_isUnseen_45 fu m (nI p) (nI (bs W nv)) (if b then 1 else 0) (nI (v + 1)) h = bnd (X8_copyRow fu 3 1 h) (fun h3 => some (if a && allF (okM h W p) v (k + 1) then 1 else 0, h3)) := by
      intro b hb
      rw [ih (v + 1) m b (by omega) (by omega), hb]
      show _ = bnd (X8_copyRow fu 3 1 h) (fun h3 => some (if a && (okM h W p v && allF (okM h W p) (v + 1) k) then 1 else 0, h3))
      rw [Bool.and_assoc]
    rw [hasW hn (by omega), seenR hfu (by omega) 2 (fun q hq => hs v q (by omega) hq), bnd_s, hasS hp]
    cases a with
    | false => rw [if_pos (show (if false = true then (1 : Int32) else 0) = 0 from rfl)]; exact go false rfl
    | true =>
      rw [if_neg (show ¬ (if true = true then (1 : Int32) else 0) = 0 from n10)]
      by_cases w : W v = true
      · rw [if_pos w, if_neg n10]
        by_cases s : srP h v 2 p = true
        · rw [if_pos s, if_neg n10]; exact go false (by unfold okM; simp [w, s])
        · rw [if_neg s, if_pos rfl]; exact go true (by unfold okM; simp [w, s])
      · rw [if_neg w, if_pos rfl]; exact go true (by unfold okM; simp [w])
def thR (w : Nat → Int32) (pa ck : Nat) : Nat → Bool := fun v => decide ((ck - cmR w v) / pa < 6)
theorem thM1 {h : Hp} {fu np nv pa ck : Nat} (hM : MI1 (h 1) np nv pa ck) : ∀ (k p n : Nat), p + k = nv → k < n → X8_allThere_4 fu h n (nI (bs (thR (h 1) pa ck) p)) (nI p) = some (nI (bs (thR (h 1) pa ck) nv)) := by
  have hM' := hM
  obtain ⟨a0, a1, a2, a3, a4, a5, a6, a7, a8, a9⟩ := hM
  intro k
  induction k with
  | zero =>
    intro p n hp hn1
    obtain ⟨m, rfl⟩ : ∃ m, n = m + 1 := ⟨n - 1, by omega⟩
    rw [X8_allThere_4, a3, if_pos (nI_le (by omega) (by omega)), show p = nv by omega]
  | succ k ih =>
    intro p n hp hn1
    obtain ⟨m, rfl⟩ : ∃ m, n = m + 1 := ⟨n - 1, by omega⟩
    rw [X8_allThere_4, a3, if_neg (nI_ge (by omega) (by omega)), roomR hM' (by omega), bnd_s, nI_1, or_0]
    unfold rq
    by_cases c : (ck - cmR (h 1) p) / pa < 6
    · rw [if_pos c, if_neg (nI_pos (by omega)), or_bit (by omega), ← bs_t (show thR (h 1) pa ck p = true from decide_eq_true c)]; exact ih (p + 1) m (by omega) (by omega)
    · rw [if_neg c, if_pos (by decide), ← bs_f (show ¬ thR (h 1) pa ck p = true by unfold thR; simp [c])]; exact ih (p + 1) m (by omega) (by omega)
theorem allR {h : Hp} {fu np nv pa ck : Nat} (hfu : 11 ≤ fu) (hM : MI1 (h 1) np nv pa ck) : X8_allThere fu h = some (nI (bs (thR (h 1) pa ck) nv)) := thM1 hM nv 0 fu (by omega) (by have := hM.2.2.2.2.2.1; omega)
theorem andz {P W : Nat → Bool} {nv : Nat} (hn : nv ≤ 4) : nI (bs P nv) &&& nI (bs W nv) = 0 ↔ ∀ v, v < nv → W v = true → P v = false := by
  have l16 : ∀ P : Nat → Bool, bs P nv < 16 := fun P => Nat.lt_of_lt_of_le (bs_lt _ _) (show 2 ^ nv ≤ 2 ^ 4 from Nat.pow_le_pow_right (by omega) hn)
  have l : bs P nv &&& bs W nv < 16 := Nat.lt_of_le_of_lt Nat.and_le_left (l16 P)
  rw [nx_and]
  constructor
  · intro h v hv hw
    have z : bs P nv &&& bs W nv = 0 := (nI_eq (b := 0) (by omega) (by omega)).mp h
    have t : (bs P nv &&& bs W nv).testBit v = false := by rw [z]; exact Nat.zero_testBit v
    rw [Nat.testBit_and, bs_bit, bs_bit] at t
    simpa [hv, hw] using t
  · intro h
    have z : bs P nv &&& bs W nv = 0 := by
      apply Nat.eq_of_testBit_eq
      intro i
      rw [Nat.testBit_and, bs_bit, bs_bit, Nat.zero_testBit]
      by_cases hi : i < nv
      · by_cases hw : W i = true
        · simp [h i hi hw]
        · simp [hw]
      · simp [hi]
    rw [z]; rfl
theorem acc_S {w w' : Nat → Int32} {pa ck u q : Nat} (e1 : w' (36 + 4 * q) = w (36 + 4 * q)) (e2 : w' (73 + u) = w (73 + u)) : ∀ k, sb (rq w pa ck u) (w (36 + 4 * q)) ||| acc w' pa (ck + 1) u q k = acc w pa ck u q (k + 1) := by
  intro k
  induction k with
  | zero =>
    show sb (rq w pa ck u) (w (36 + 4 * q)) ||| 0 = 0 ||| sb (rq w pa (ck + 0) u) (w (36 + 4 * q))
    rw [or0, Int32.zero_or, Nat.add_zero]
  | succ k ih2 =>
    show sb (rq w pa ck u) (w (36 + 4 * q)) ||| (acc w' pa (ck + 1) u q k ||| sb (rq w' pa (ck + 1 + k) u) (w' (36 + 4 * q))) = acc w pa ck u q (k + 1) ||| sb (rq w pa (ck + (k + 1)) u) (w (36 + 4 * q))
    rw [← orA, ih2, e1, show ck + 1 + k = ck + (k + 1) by omega]
    congr 2
    unfold rq cmR
    rw [e2]
/-- the reference lets minutes pass until all who count are gone -/
theorem un22 {W : Nat → Bool} {fu np nv pa p c0 : Nat} (hfu : 11 ≤ fu) (hc0 : c0 ≤ 9000) : ∀ (D T n : Nat) (h : Hp), MI1 (h 1) np nv pa T → T + D = 9200 → D < n → (∀ v, v < nv → W v = true → cmR (h 1) v ≤ c0) → ∃ k h1, X8_isUnseen_22 fu n (nI p) (nI (bs W nv)) h = X8_isUnseen_45 fu fu (nI p) (nI (bs W nv)) 1 0 h1 ∧ MI1 (h1 1) np nv pa (T + k) ∧ T + k ≤ 9200 ∧ (∀ u q, u < nv → q < np → h1 1 (77 + 10 * u + q) = h 1 (77 + 10 * u + q) ||| acc (h 1) pa T u q k) ∧ (∀ j, j ≠ 0 → j < 77 → h1 1 j = h 1 j) ∧ (∀ u q, u < 4 → q < 10 → (nv ≤ u ∨ np ≤ q) → h1 1 (77 + 10 * u + q) = h 1 (77 + 10 * u + q)) ∧ (∀ c, c ≠ 1 → h1 c = h c) ∧ (∀ v, v < nv → W v = true → 6 ≤ (T + k - cmR (h 1) v) / pa) := by
  intro D
  induction D with
  | zero =>
    intro T n h hM hT hn hW
    obtain ⟨m, rfl⟩ : ∃ m, n = m + 1 := ⟨n - 1, by omega⟩
    have gone : ∀ v, v < nv → W v = true → 6 ≤ (T - cmR (h 1) v) / pa := fun v hv hw => by
      have := hW v hv hw
      have p1 := hM.2.2.2.2.2.2.1
      have p2 := hM.2.2.2.2.2.2.2.1
      exact (Nat.le_div_iff_mul_le (by omega)).mpr (by omega)
    rw [X8_isUnseen_22, allR hfu hM, bnd_s, if_pos ((andz hM.2.2.2.2.2.1).mpr (fun v hv hw => by unfold thR; have := gone v hv hw; simp; omega))]
    exact ⟨0, h, rfl, hM, by omega, fun u q _ _ => (or0 _).symm, fun _ _ _ => rfl, fun _ _ _ _ _ => rfl, fun _ _ => rfl, gone⟩
  | succ D ih =>
    intro T n h hM hT hn hW
    obtain ⟨m, rfl⟩ : ∃ m, n = m + 1 := ⟨n - 1, by omega⟩
    rw [X8_isUnseen_22, allR hfu hM, bnd_s]
    by_cases z : nI (bs (thR (h 1) pa T) nv) &&& nI (bs W nv) = 0
    · rw [if_pos z]
      have zz := (andz hM.2.2.2.2.2.1).mp z
      refine ⟨0, h, rfl, hM, by omega, fun u q _ _ => (or0 _).symm, fun _ _ _ => rfl, fun _ _ _ _ _ => rfl, fun _ _ => rfl, fun v hv hw => ?_⟩
      have := zz v hv hw
      unfold thR at this
      simp only [decide_eq_false_iff_not] at this
      rw [Nat.add_zero]; omega
    · rw [if_neg z]
      have hM' := hM
      obtain ⟨a0, a1, a2, a3, a4, a5, a6, a7, a8, a9⟩ := hM
      unfold X8_minute
      obtain ⟨g, b1, b2, b3, b4, b5, b6⟩ := m2 (fu := fu) (np := np) (pa := pa) (ck := T) hfu nv 0 fu h hM' (by omega) (by omega)
      rw [show X8_minute_2 fu fu 0 h = _ from b1, bnd_s]
      have gM : MI1 (g 1) np nv pa (T + 1) := ⟨b2, by rw [b4 1 (by omega) (by omega)]; exact a1, by rw [b4 2 (by omega) (by omega)]; exact a2, by rw [b4 3 (by omega) (by omega)]; exact a3, a4, a5, a6, a7, by omega, fun u hu => by
        rw [b4 (73 + u) (by omega) (by omega)]
        obtain ⟨c, c1, c2⟩ := a9 u hu
        exact ⟨c, by omega, c2⟩⟩
      have ce : ∀ v, v < nv → cmR (g 1) v = cmR (h 1) v := fun v hv => by unfold cmR; rw [b4 (73 + v) (by omega) (by omega)]
      obtain ⟨k, h1, c1, c2, c3, c4, c5, c6, c7, c8⟩ := ih (T + 1) m g gM (by omega) (by omega) (fun v hv hw => by rw [ce v hv]; exact hW v hv hw)
      refine ⟨k + 1, h1, c1, by rw [show T + (k + 1) = T + 1 + k by omega]; exact c2, by omega, fun u q d1 d2 => ?_, fun j d1 d2 => by rw [c5 j d1 d2, b4 j d1 d2], fun u q d1 d2 d3 => by rw [c6 u q d1 d2 d3, b5 u q d1 d2 (by omega)], fun c hc => by rw [c7 c hc, b6 c hc], fun v hv hw => ?_⟩
      · rw [c4 u q d1 d2, b3 u q (by omega) d1 d2, orA, acc_S (b4 _ (by omega) (by omega)) (b4 _ (by omega) (by omega))]
      · have := c8 v hv hw
        rw [ce v hv] at this
        rw [show T + (k + 1) = T + 1 + k by omega]; exact this
