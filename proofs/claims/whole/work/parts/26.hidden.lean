def wcP (h : Hp) (p : Nat) : Nat → Bool := fun v => thP h 6 v && !(snP h v 2 p)
theorem and16 : ∀ x, x < 16 → ∀ v, v < 4 → ∃ y, y < 16 ∧ nI x &&& (((1 : Int32) <<< (nI v &&& 31)) ^^^ (-1 : Int32)) = nI y ∧ ∀ i, i < 4 → y.testBit i = (x.testBit i && !decide (i = v)) := by decide +kernel
theorem andm1 (x : Int32) : x &&& (-1 : Int32) = x := by rw [Int32.and_comm]; exact Int32.neg_one_and
theorem bs16 {P : Nat → Bool} {nv y : Nat} (hn : nv ≤ 4) (hy : y < 16) (h : ∀ i, i < 4 → y.testBit i = (decide (i < nv) && P i)) : y = bs P nv := by
  apply Nat.eq_of_testBit_eq
  intro i
  rw [bs_bit]
  by_cases c : i < 4
  · exact h i c
  · have c1 : y.testBit i = false := Nat.testBit_lt_two_pow (Nat.lt_of_lt_of_le hy (show 2 ^ 4 ≤ 2 ^ i from Nat.pow_le_pow_right (by omega) (by omega)))
    rw [c1]
    simp; omega
def wcV (h : Hp) (p v : Nat) : Nat → Bool := fun u => thP h 6 u && (decide (v ≤ u) || !(snP h u 2 p))
theorem who7 {hx hm : Hp} (h : R hx hm) {fu nv np p : Nat} (hfu : 12 ≤ fu) (e : hx 1 11 = nI nv) (hn : nv ≤ 4) (ep : hx 1 10 = nI np) (hp : np ≤ 10) (pp : p < np) : ∀ (k v n : Nat), v + k = nv → k < n → X8_whoCount_7 fu hm n (nI p) (nI (bs (wcV hx p v) nv)) (nI v) = some (nI (bs (wcP hx p) nv)) := by
  have l16 : ∀ P : Nat → Bool, bs P nv < 16 := fun P => Nat.lt_of_lt_of_le (bs_lt _ _) (show 2 ^ nv ≤ 2 ^ 4 from Nat.pow_le_pow_right (by omega) hn)
  intro k
  induction k with
  | zero =>
    intro v n hv hk
    obtain ⟨m, rfl⟩ : ∃ m, n = m + 1 := ⟨n - 1, by omega⟩
    rw [X8_whoCount_7, rnv h.1, e, if_pos (nI_le (by omega) (by omega)), bs_ext (P := wcV hx p v) (Q := wcP hx p) (fun u hu => by
      unfold wcV wcP
      rw [show decide (v ≤ u) = false from decide_eq_false (by omega), Bool.false_or])]
  | succ k ih =>
    intro v n hv hk
    obtain ⟨m, rfl⟩ : ∃ m, n = m + 1 := ⟨n - 1, by omega⟩
    obtain ⟨-, s2⟩ := sg_eq hfu h (show v < 4 by omega) (Or.inr rfl) ep hp
    rw [X8_whoCount_7, rnv h.1, e, if_neg (nI_ge (by omega) (by omega)), s2, bnd_s, andm1, nI_1, has_nI _ (Nat.lt_of_lt_of_le (bs_lt _ _) (show 2 ^ np ≤ 2 ^ 10 from Nat.pow_le_pow_right (by omega) hp)) p (by omega), bs_bit, show decide (p < np) = true from decide_eq_true pp, Bool.true_and]
    by_cases c : snP hx v 2 p = true
    · rw [if_pos c, if_neg n10]
      obtain ⟨y, y1, y2, y3⟩ := and16 _ (l16 (wcV hx p v)) v (by omega)
      rw [y2, bs16 (P := wcV hx p (v + 1)) hn y1 (fun i hi => ?_)]
      · exact ih (v + 1) m (by omega) (by omega)
      · rw [y3 i hi, bs_bit]
        unfold wcV
        by_cases z : i = v
        · subst z
          simp [c]
        · by_cases y : v ≤ i
          · have : v + 1 ≤ i := by omega
            simp [z, y, this]
          · have : ¬ v + 1 ≤ i := by omega
            simp [z, y, this]
    · rw [if_neg c, if_pos rfl, bs_ext (P := wcV hx p v) (Q := wcV hx p (v + 1)) (fun u hu => ?_)]
      · exact ih (v + 1) m (by omega) (by omega)
      · unfold wcV
        by_cases z : u = v
        · subst z; simp [c]
        · by_cases y : v ≤ u
          · have : v + 1 ≤ u := by omega
            simp [y, this]
          · have : ¬ v + 1 ≤ u := by omega
            simp [y, this]
theorem who_ok {hx hm : Hp} (h : R hx hm) {fu nv np p : Nat} (hfu : 12 ≤ fu) (e : hx 1 11 = nI nv) (hn : nv ≤ 4) (ep : hx 1 10 = nI np) (hp : np ≤ 10) (pp : p < np) : X8_whoCount fu (nI p) hm = some (nI (bs (wcP hx p) nv)) := by
  unfold X8_whoCount
  rw [(there_eq hfu h e hn).2, bnd_s, bs_ext (P := thP hx 6) (Q := wcV hx p 0) (fun u hu => by unfold wcV; simp)]
  exact who7 h hfu e hn ep hp pp nv 0 fu (by omega) (by omega)
/-- what the class asks of a visitor -/
def sX (h : Hp) (p pa ck w f K v : Nat) (y : Int32) : Int32 := h 10 (10 * v + p) ||| nI (pb (h 9 v).toNatClampNeg pa ck w (h 5 p)) ||| nI (pb (h 9 v).toNatClampNeg pa f K y)
def okX (h : Hp) (p pa ck w f K : Nat) (y : Int32) : Nat → Bool := fun v => !(wcP h p v && !decide (J6_bitCount_0f7a4 (sX h p pa ck w f K v y) < 2))
theorem shp {c pa ck k : Nat} {pl : Int32} (hl : pl.toInt ≤ 5) (z : ¬ pb c pa ck k pl = 0) : (1 : Int32) <<< (pl &&& 31) = nI (pb c pa ck k pl) := by
  by_cases a : 0 ≤ pl
  · obtain ⟨r, r1, r2⟩ := ti_ex (x := pl) (b := 5) (by rw [ti_le, ti_lit0] at a; exact a) hl
    rw [r2, pb_r (by omega)] at z
    rw [r2, pb_r (by omega), shl1 r (by omega)]
    by_cases y : ps c r pa ck k = true
    · rw [if_pos y]
    · rw [if_neg y] at z; exact absurd rfl z
  · exact absurd (pb_n a) z
theorem su22 {h : Hp} (hI : HI 1 h) {fu np nv ck pa p w f K : Nat} {y : Int32} (hK : K = 1000000 - f) (np2 : h 1 10 = nI np) (nv1 : nv ≤ 4) (nv2 : h 1 11 = nI nv) (pa2 : pa ≤ 20) (pa3 : h 1 13 = nI pa) (ck1 : ck ≤ 9999) (ck2 : h 1 12 = nI ck) (hp : p < 10) (hy : y.toInt ≤ 5) (hw : w ≤ 60) (hf : f ≤ 30000) : ∀ (k v n : Nat), v + k = nv → k < n → X1_staysUnseen_22 fu h n (nI p) y (nI (ck + w)) (nI f) (nI v) = some (if allF (okX h p pa ck w f K y) v k then 1 else 0) := by
  intro k
  induction k with
  | zero =>
    intro v n hv hk
    obtain ⟨m, rfl⟩ : ∃ m, n = m + 1 := ⟨n - 1, by omega⟩
    rw [X1_staysUnseen_22, nv2, if_pos (nI_le (by omega) (by omega))]
    rfl
  | succ k ih =>
    intro v n hv hk
    obtain ⟨m, rfl⟩ : ∃ m, n = m + 1 := ⟨n - 1, by omega⟩
    have go : okX h p pa ck w f K y v = true → X1_staysUnseen_22 fu h m (nI p) y (nI (ck + w)) (nI f) (nI (v + 1)) = some (if allF (okX h p pa ck w f K y) v (k + 1) then 1 else 0) := by
      intro o
      rw [ih (v + 1) m (by omega) (by omega)]
      show _ = some (if okX h p pa ck w f K y v && allF (okX h p pa ck w f K y) (v + 1) k then 1 else 0)
      rw [o, Bool.true_and]
    have no : okX h p pa ck w f K y v = false → some 0 = some (if allF (okX h p pa ck w f K y) v (k + 1) then (1 : Int32) else 0) := by
      intro o
      show _ = some (if okX h p pa ck w f K y v && allF (okX h p pa ck w f K y) (v + 1) k then 1 else 0)
      rw [o, Bool.false_and]; rfl
    obtain ⟨c, c1, c2⟩ : ∃ c, c ≤ 9999 ∧ h 9 v = nI c := by
      obtain ⟨c, ck', c1, c2, c3, c4⟩ := cmN hI (show v < 4 by omega)
      exact ⟨c, by omega, c3⟩
    rw [X1_staysUnseen_22, nv2, if_neg (nI_ge (by omega) (by omega)), show nI v * (10 : Int32) = nI (v * 10) from pk_mul v 10, nI_add, show v * 10 + p = 10 * v + p by omega, ck_nI (by omega) (by decide), cl_nI (show 10 * v + p < 2147483648 by omega), roomX hI (by omega), bnd_s, nI_1, ck2]
    simp only [ck10 hp, cl_nI (show p < 2147483648 by omega)]
    by_cases a : rmV h v < 0
    · rw [if_pos a]
      have := (rm_lt (rm_b hI v)).mp a
      exact go (by unfold okX wcP thP; simp [this])
    rw [if_neg a]
    have th : thP h 6 v = true := decide_eq_true (by
      rcases Nat.lt_or_ge (rmN h v) 6 with z | z
      · exact z
      · exact absurd ((rm_lt (rm_b hI v)).mpr (by omega)) a)
    by_cases b : (2 : Int32) ≤ J6_bitCount_0f7a4 (h 10 (10 * v + p))
    · rw [if_pos b]
      have b' : ¬ J6_bitCount_0f7a4 (h 10 (10 * v + p)) < 2 := by rw [ti_lt]; rw [ti_le] at b; omega
      exact go (by unfold okX wcP snP; simp [b'])
    rw [if_neg b]
    have b' : J6_bitCount_0f7a4 (h 10 (10 * v + p)) < 2 := by rw [ti_lt]; rw [ti_le] at b; omega
    have wc : wcP h p v = true := by unfold wcP snP; simp [b', th]
    have e97 : ∀ s : Int32, s = h 10 (10 * v + p) ||| nI (pb c pa ck w (h 5 p)) → X1_staysUnseen_97 fu (X1_staysUnseen_22 fu h m) h (nI p) y (nI (ck + w)) (nI f) (nI v) s = some (if allF (okX h p pa ck w f K y) v (k + 1) then 1 else 0) := by
      intro s hs
      unfold X1_staysUnseen_97
      rw [show (1000000 : Int32) = nI 1000000 from rfl, passX (by omega) pa2 pa3 c2 (by omega) hy (by omega) (by omega), bnd_s, nI_1, ← hK]
      have sx : sX h p pa ck w f K v y = s ||| nI (pb c pa f K y) := by unfold sX; rw [hs, c2, cl_nI (by omega)]
      have fin : ∀ t, t = sX h p pa ck w f K v y → (if J6_bitCount_0f7a4 t < 2 then X1_staysUnseen_22 fu h m (nI p) y (nI (ck + w)) (nI f) (nI (v + 1)) else some 0) = some (if allF (okX h p pa ck w f K y) v (k + 1) then (1 : Int32) else 0) := by
        intro t ht
        by_cases q : J6_bitCount_0f7a4 t < 2
        · rw [if_pos q]; exact go (by unfold okX; rw [← ht]; simp [q])
        · rw [if_neg q]; exact no (by unfold okX; rw [← ht]; simp [q, wc])
      by_cases z : pb c pa f K y = 0
      · rw [if_pos z, if_pos rfl]
        exact fin s (by rw [sx, z]; exact (or0 _).symm)
      · rw [if_neg z, if_neg n10, shp hy z]
        exact fin _ sx.symm
    rw [passX (by omega) pa2 pa3 c2 (by omega) (plB hI hp).2 (by omega) (by omega), bnd_s, show ck + w - ck = w by omega]
    by_cases z : pb c pa ck w (h 5 p) = 0
    · rw [if_pos z, if_pos rfl]
      exact e97 _ (by rw [z]; exact (or0 _).symm)
    · rw [if_neg z, if_neg n10, shp (plB hI hp).2 z]
      exact e97 _ rfl
/-- minutes beyond what matters -/
theorem ps_far {c r pa f k K : Nat} (hr : r < 6) (hp : 1 ≤ pa) (h : 6 ≤ (f + k - c) / pa) (hk : k ≤ K) : ps c r pa f k = ps c r pa f K := by
  have a : 6 * pa ≤ f + k - c := (Nat.le_div_iff_mul_le (by omega)).mp h
  have b : r * pa + pa ≤ 6 * pa := by
    have : (r + 1) * pa ≤ 6 * pa := Nat.mul_le_mul_right pa (by omega)
    rw [Nat.add_mul, Nat.one_mul] at this
    exact this
  unfold ps
  generalize r * pa = Q at *
  generalize 6 * pa = Z at *
  congr 1
  apply propext
  omega
theorem pb_far {c pa f k K : Nat} {y : Int32} (hy : y.toInt ≤ 5) (hp : 1 ≤ pa) (h : 6 ≤ (f + k - c) / pa) (hk : k ≤ K) : pb c pa f k y = pb c pa f K y := by
  by_cases a : 0 ≤ y
  · obtain ⟨r, r1, r2⟩ := ti_ex (x := y) (b := 5) (by rw [ti_le, ti_lit0] at a; exact a) hy
    rw [r2, pb_r (by omega), pb_r (by omega), ps_far (by omega) hp h hk]
  · rw [pb_n a, pb_n a]
theorem carF {h h' : Hp} {p : Nat} (hp : p < 10) (e : ∀ j, 33 ≤ j → j < 73 → h' 1 j = h 1 j) (y : Int32) : X8_carryOf (nI p) y h' = X8_carryOf (nI p) y h := by
  have k : ∀ f, f < 4 → X8_partIs (nI p) (nI f) h' = X8_partIs (nI p) (nI f) h := fun f hf => by
    unfold X8_partIs
    rw [at_nI, ck_nI (by omega) (by decide), ck_nI (by omega) (by decide), cl_nI (by omega), e _ (by omega) (by omega)]
  have k0 : X8_partIs (nI p) 0 h' = X8_partIs (nI p) 0 h := k 0 (by omega)
  have k2 : X8_partIs (nI p) 2 h' = X8_partIs (nI p) 2 h := k 2 (by omega)
  have k3 : X8_partIs (nI p) 3 h' = X8_partIs (nI p) 3 h := k 3 (by omega)
  unfold X8_carryOf X8_carryOf_26
  rw [k0, k2, k3]
