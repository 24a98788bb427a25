theorem pb_r {c pa ck k r : Nat} (hr : r < 6) : pb c pa ck k (nI r) = if ps c r pa ck k then 2 ^ r else 0 := by
  unfold pb
  rw [if_pos (nI_pos' (by omega)), cl_nI (by omega)]
  simp only [hr, decide_true, Bool.and_true]
theorem pb_n {c pa ck k : Nat} {pl : Int32} (h : ¬ 0 ≤ pl) : pb c pa ck k pl = 0 := by unfold pb; rw [if_neg h]
theorem pb_lt {c pa ck k : Nat} {pl : Int32} (h : pl.toInt ≤ 5) : pb c pa ck k pl < 64 := by
  by_cases a : 0 ≤ pl
  · obtain ⟨r, r1, r2⟩ := ti_ex (x := pl) (b := 5) (by rw [ti_le, ti_lit0] at a; exact a) h
    rw [r2, pb_r (by omega)]
    have : 2 ^ r < 2 ^ 6 := Nat.pow_lt_pow_right (by omega) (by omega)
    by_cases z : ps c r pa ck k = true
    · rw [if_pos z]; omega
    · rw [if_neg z]; omega
  · rw [pb_n a]; omega
theorem passX {h : Hp} {v c pa f t : Nat} {pl : Int32} (hv : v < 4) (hp : pa ≤ 20) (e : h 1 13 = nI pa) (ec : h 9 v = nI c) (hc : c ≤ 30000) (hl : pl.toInt ≤ 5) (hf : f ≤ t) (ht : t < 2147483648) : X1_passes (nI v) pl (nI f) (nI t) h = some (if pb c pa f (t - f) pl = 0 then 0 else 1) := by
  unfold X1_passes X7_isRoom
  rw [ck_nI (by omega) (by decide), cl_nI (by omega), e, ec]
  rcases wn pl (M := 5) 6 (by decide) (by decide) with ⟨a, b⟩ | ⟨r, r1, r2, r3⟩
  · rw [if_pos a]
    have : ¬ 0 ≤ pl := by
      intro z
      obtain ⟨r, r1, r2⟩ := ti_ex (x := pl) (b := 5) (by rw [ti_le, ti_lit0] at z; exact z) hl
      exact b r (by omega) r2
    rw [pb_n this, if_pos rfl]
  · rw [if_neg (by rw [r3]; decide), r2, pb_r r1]
    have hb : r * pa ≤ 5 * 20 := Nat.mul_le_mul (by omega) hp
    rw [pk_mul, nI_add, nI_add, jmin_nI (by omega) (by omega), jmax_nI (by omega) (by omega)]
    have hpow : 2 ^ r ≠ 0 := by have := Nat.two_pow_pos r; omega
    by_cases z : max (c + r * pa) f < min (c + r * pa + pa) t
    · have : ps c r pa f (t - f) = true := by unfold ps; rw [show f + (t - f) = t by omega]; exact decide_eq_true z
      rw [if_neg (nI_ge z (by omega)), if_pos this, if_neg hpow]
    · have : ¬ ps c r pa f (t - f) = true := by unfold ps; rw [show f + (t - f) = t by omega]; simpa using z
      rw [if_pos (nI_le (by omega) (by omega)), if_neg this, if_pos rfl]
/-- the class spends K minutes -/
theorem sp12 {fu v np ck pa c K : Nat} (hv : v < 4) (hn : np ≤ 10) (hp : pa ≤ 20) (hc : c ≤ 30000) (hk0 : ck + K ≤ 30000) (k2 : Int32 → Int32 → Hp → Option Hp) : ∀ (k p n : Nat) (h : Hp), h 1 10 = nI np → h 1 12 = nI ck → h 1 13 = nI pa → h 9 v = nI c → (∀ q, q < np → (h 5 q).toInt ≤ 5) → p + k = np → k < n → ∃ h1, X1_spend_12 fu k2 n (nI K) (nI v) (nI p) h = k2 (nI K) (nI (v + 1)) h1 ∧ (∀ q, p ≤ q → q < np → h1 10 (10 * v + q) = h 10 (10 * v + q) ||| nI (pb c pa ck K (h 5 q))) ∧ (∀ j, j < 10 * v + p ∨ 10 * v + np ≤ j → h1 10 j = h 10 j) ∧ (∀ z, z ≠ 10 → h1 z = h z) := by
  intro k
  induction k with
  | zero =>
    intro p n h e1 e2 e3 e4 e5 hpk hk
    obtain ⟨m, rfl⟩ : ∃ m, n = m + 1 := ⟨n - 1, by omega⟩
    rw [X1_spend_12, e1, if_pos (nI_le (by omega) (by omega)), nI_1]
    exact ⟨h, rfl, fun q a b => by omega, fun j _ => rfl, fun c _ => rfl⟩
  | succ k ih =>
    intro p n h e1 e2 e3 e4 e5 hpk hk
    obtain ⟨m, rfl⟩ : ∃ m, n = m + 1 := ⟨n - 1, by omega⟩
    rw [X1_spend_12, e1, if_neg (nI_ge (by omega) (by omega)), e2, nI_add, show nI v * (10 : Int32) = nI (v * 10) from pk_mul v 10, nI_add]
    simp only [ck_nI (show p < 10 by omega) (show 10 < 2147483648 by decide), ck_nI (show v * 10 + p < 40 by omega) (show 40 < 2147483648 by decide), cl_nI (show p < 2147483648 by omega), cl_nI (show v * 10 + p < 2147483648 by omega), nI_1]
    rw [passX hv hp e3 e4 hc (e5 p (by omega)) (by omega) (by omega), bnd_s, show ck + K - ck = K by omega]
    by_cases z : pb c pa ck K (h 5 p) = 0
    · rw [if_pos z, if_pos rfl]
      obtain ⟨h1, a, b, d, g⟩ := ih (p + 1) m h e1 e2 e3 e4 e5 (by omega) (by omega)
      refine ⟨h1, a, fun q q1 q2 => ?_, fun j hj => d j (by omega), g⟩
      by_cases y : q = p
      · subst y; rw [d _ (by omega), z]; exact (or0 _).symm
      · exact b q (by omega) q2
    · rw [if_neg z, if_neg n10]
      have hs : (1 : Int32) <<< (h 5 p &&& 31) = nI (pb c pa ck K (h 5 p)) := by
        by_cases a : 0 ≤ h 5 p
        · obtain ⟨r, r1, r2⟩ := ti_ex (x := h 5 p) (b := 5) (by rw [ti_le, ti_lit0] at a; exact a) (e5 p (by omega))
          rw [r2, pb_r (by omega)] at z
          rw [r2, pb_r (by omega), shl1 r (by omega)]
          by_cases y : ps c r pa ck K = true
          · rw [if_pos y]
          · rw [if_neg y] at z; exact absurd rfl z
        · exact absurd (pb_n a) z
      rw [hs, show v * 10 + p = 10 * v + p by omega]
      obtain ⟨h1, a, b, d, g⟩ := ih (p + 1) m (up h 10 (10 * v + p) (h 10 (10 * v + p) ||| nI (pb c pa ck K (h 5 p)))) (by rw [up_ne (by decide)]; exact e1) (by rw [up_ne (by decide)]; exact e2) (by rw [up_ne (by decide)]; exact e3) (by rw [up_ne (by decide)]; exact e4) (by rw [up_ne (by decide)]; exact e5) (by omega) (by omega)
      refine ⟨h1, a, fun q q1 q2 => ?_, fun j hj => ?_, fun j hj => by rw [g j hj, up_ne hj]⟩
      · by_cases y : q = p
        · subst y; rw [d _ (by omega), up_eq]
        · rw [b q (by omega) q2, up_nj (by omega), up_ne (by decide)]
      · rw [d j (by omega), up_nj (by omega)]
theorem sp2 {fu np nv ck pa K : Nat} {c : Nat → Nat} (hfu : 11 ≤ fu) (hn : np ≤ 10) (hnv : nv ≤ 4) (hp : pa ≤ 20) (hc : ∀ v, v < nv → c v ≤ 30000) (hk0 : ck + K ≤ 30000) : ∀ (k v n : Nat) (h : Hp), h 1 10 = nI np → h 1 11 = nI nv → h 1 12 = nI ck → h 1 13 = nI pa → (∀ v, v < nv → h 9 v = nI (c v)) → (∀ q, q < np → (h 5 q).toInt ≤ 5) → v + k = nv → k < n → ∃ h1, X1_spend_2 fu n (nI K) (nI v) h = some h1 ∧ (∀ u q, v ≤ u → u < nv → q < np → h1 10 (10 * u + q) = h 10 (10 * u + q) ||| nI (pb (c u) pa ck K (h 5 q))) ∧ (∀ u q, q < 10 → (u < v ∨ nv ≤ u ∨ np ≤ q) → h1 10 (10 * u + q) = h 10 (10 * u + q)) ∧ h1 1 12 = nI (ck + K) ∧ (∀ j, j ≠ 12 → h1 1 j = h 1 j) ∧ (∀ z, z ≠ 10 → z ≠ 1 → h1 z = h z) := by
  intro k
  induction k with
  | zero =>
    intro v n h e1 e2 e3 e4 e5 e6 hv hk
    obtain ⟨m, rfl⟩ : ∃ m, n = m + 1 := ⟨n - 1, by omega⟩
    rw [X1_spend_2, e2, if_pos (nI_le (by omega) (by omega)), e3, nI_add]
    exact ⟨_, rfl, fun u q a b => by omega, fun u q _ _ => by rw [up_ne (by decide)], up_eq, fun j hj => up_nj hj, fun z _ hz => up_ne hz⟩
  | succ k ih =>
    intro v n h e1 e2 e3 e4 e5 e6 hv hk
    obtain ⟨m, rfl⟩ : ∃ m, n = m + 1 := ⟨n - 1, by omega⟩
    rw [X1_spend_2, e2, if_neg (nI_ge (by omega) (by omega))]
    obtain ⟨g, g1, g2, g3, g4⟩ := sp12 (fu := fu) (v := v) (c := c v) (by omega) hn hp (hc v (by omega)) hk0 (X1_spend_2 fu m) np 0 fu h e1 e3 e4 (e5 v (by omega)) e6 (by omega) (by omega)
    rw [show X1_spend_12 fu (X1_spend_2 fu m) fu (nI K) (nI v) 0 h = _ from g1]
    obtain ⟨h1, b1, b2, b3, b4, b5, b6⟩ := ih (v + 1) m g (by rw [g4 1 (by decide)]; exact e1) (by rw [g4 1 (by decide)]; exact e2) (by rw [g4 1 (by decide)]; exact e3) (by rw [g4 1 (by decide)]; exact e4) (by rw [g4 9 (by decide)]; exact e5) (by rw [g4 5 (by decide)]; exact e6) (by omega) (by omega)
    refine ⟨h1, b1, fun u q c1 c2 c3 => ?_, fun u q c1 c2 => ?_, b4, fun j hj => by rw [b5 j hj, g4 1 (by decide)], fun z z1 z2 => by rw [b6 z z1 z2, g4 z z1]⟩
    · by_cases z : u = v
      · subst z
        rw [b3 u q (by omega) (by omega), g2 q (by omega) c3]
      · rw [b2 u q (by omega) c2 c3, g3 _ (by omega), g4 5 (by decide)]
    · rw [b3 u q c1 (by omega)]
      exact g3 _ (by omega)
/-- both spend K minutes, one part perhaps in nobody's room -/
def plc (j : Nat) : Prop := ∃ q, q < 10 ∧ j = 36 + 4 * q
theorem spendB {hx hm hx' hm' : Hp} {fu K ck : Nat} (hf : 118 ≤ fu) (h : R hx hm) (ek : hx 1 12 = nI ck) (hK : ck + K ≤ 9999) (hKf : K < fu)
    (a1 : ∀ c, c ≠ 5 → hx' c = hx c) (a2 : ∀ j, ¬ plc j → hm' 1 j = hm 1 j) (a3 : ∀ c, c ≠ 1 → hm' c = hm c)
    (a4 : ∀ q, q < 10 → (hx' 5 q).toInt ≤ 5 ∧ (hm' 1 (36 + 4 * q) = hx' 5 q ∨ (¬ 0 ≤ hm' 1 (36 + 4 * q) ∧ ¬ 0 ≤ hx' 5 q))) :
    ∃ hx1 hm1, X1_spend fu (nI K) hx' = some hx1 ∧ X8_minutes fu (nI K) hm' = some hm1 ∧ hx1 5 = hx' 5 ∧ (∀ q, q < 10 → hm1 1 (36 + 4 * q) = hm' 1 (36 + 4 * q)) ∧ hx1 1 12 = nI (ck + K) ∧ hm1 1 0 = nI (ck + K) ∧
      ∀ hx2 hm2, (∀ c, c ≠ 5 → hx2 c = hx1 c) → (∀ j, ¬ plc j → hm2 1 j = hm1 1 j) → (∀ c, c ≠ 1 → hm2 c = hm1 c) → (∀ q, q < 10 → -1 ≤ (hx2 5 q).toInt ∧ (hx2 5 q).toInt ≤ 5 ∧ hm2 1 (36 + 4 * q) = hx2 5 q) → R hx2 hm2 := by
  have hR := h.1
  have hI := h.2.1
  obtain ⟨np, np1, np2⟩ := npN hI
  obtain ⟨nv, nv1, nv2⟩ := nvN hI
  obtain ⟨pa, pa1, pa2, pa3⟩ := paN hI
  have np' : ∀ j, plc j → 36 ≤ j ∧ j < 73 ∧ j % 4 = 0 := by rintro j ⟨q, q1, rfl⟩; omega
  have nl : ∀ j, (j < 36 ∨ 73 ≤ j) → ¬ plc j := fun j hj z => by have := np' j z; omega
  have cm : ∀ v, v < 4 → ∃ c, c ≤ ck ∧ hx 9 v = nI c := fun v hv => by
    obtain ⟨c, ck', c1, c2, c3, c4⟩ := cmN hI hv
    have : ck' = ck := (nI_eq (by omega) (by omega)).mp (c4.symm.trans ek)
    exact ⟨c, by omega, c3⟩
  have hcl : ∀ v, v < 4 → hx 9 v = nI (hx 9 v).toNatClampNeg ∧ (hx 9 v).toNatClampNeg ≤ ck := fun v hv => by
    obtain ⟨c, c1, c2⟩ := cm v hv
    rw [c2, cl_nI (by omega)]
    exact ⟨rfl, c1⟩
  obtain ⟨hx1, x1, x2, x3, x4, x5, x6⟩ := sp2 (fu := fu) (np := np) (nv := nv) (ck := ck) (pa := pa) (K := K) (c := fun v => (hx 9 v).toNatClampNeg) (by omega) np1 nv1 pa2 (fun v hv => by have := (hcl v (by omega)).2; show (hx 9 v).toNatClampNeg ≤ 30000; omega) (by omega) nv 0 fu hx' (by rw [a1 1 (by decide)]; exact np2) (by rw [a1 1 (by decide)]; exact nv2) (by rw [a1 1 (by decide)]; exact ek) (by rw [a1 1 (by decide)]; exact pa3) (fun v hv => by rw [a1 9 (by decide)]; exact (hcl v (by omega)).1) (fun q hq => (a4 q (by omega)).1) (by omega) (by omega)
  have mI : MI1 (hm' 1) np nv pa ck := ⟨by rw [a2 0 (nl 0 (by omega)), rck hR]; exact ek, by rw [a2 1 (nl 1 (by omega)), rpa hR]; exact pa3, by rw [a2 2 (nl 2 (by omega)), rnp hR]; exact np2, by rw [a2 3 (nl 3 (by omega)), rnv hR]; exact nv2, np1, nv1, pa1, pa2, by omega, fun v hv => ⟨(hx 9 v).toNatClampNeg, (hcl v (by omega)).2, by rw [a2 (73 + v) (nl _ (by omega)), rf8 hR (by omega)]; exact (hcl v (by omega)).1⟩⟩
  obtain ⟨hm1, m1, m2, m3, m4, m5, m6⟩ := mns (fu := fu) (by omega) K 0 fu K ck hm' mI (by omega) (by omega) (by omega) hKf
  refine ⟨hx1, hm1, x1, m1, x6 5 (by decide) (by decide), fun q hq => m4 _ (by omega) (by omega), x4, m2.1, ?_⟩
  intro hx2 hm2 b1 b2 b3 b4
  -- what is seen, alike
  have see : ∀ v q, v < 4 → q < 10 → hm1 1 (77 + 10 * v + q) = hx1 10 (10 * v + q) ∧ ∃ s, s < 64 ∧ hx1 10 (10 * v + q) = nI s := by
    intro v q hv hq
    have e0 : hm' 1 (77 + 10 * v + q) = hx' 10 (10 * v + q) := by
      rw [a2 _ (nl _ (by omega)), a1 10 (by decide), show 77 + 10 * v + q = 77 + (10 * v + q) by omega]
      exact rf9 hR (by omega)
    obtain ⟨s, s1, s2⟩ := sgN hI (i := 10 * v + q) (by omega)
    have s3 : hx' 10 (10 * v + q) = nI s := by rw [a1 10 (by decide)]; exact s2
    by_cases z : v < nv ∧ q < np
    · have ec : cmR (hm' 1) v = (hx 9 v).toNatClampNeg := by unfold cmR; rw [a2 (73 + v) (nl _ (by omega)), rf8 hR (by omega)]
      have eb : pb (hx 9 v).toNatClampNeg pa ck K (hm' 1 (36 + 4 * q)) = pb (hx 9 v).toNatClampNeg pa ck K (hx' 5 q) := by
        rcases (a4 q hq).2 with y | ⟨y1, y2⟩
        · rw [y]
        · rw [pb_n y1, pb_n y2]
      have hle : (hm' 1 (36 + 4 * q)).toInt ≤ 5 := by
        rcases (a4 q hq).2 with y | ⟨y1, y2⟩
        · rw [y]; exact (a4 q hq).1
        · rw [ti_le, ti_lit0] at y1; omega
      rw [m3 v q z.1 z.2, acc_pb pa1 ec (hcl v hv).2 hle K (by omega), eb, x2 v q (by omega) z.1 z.2, e0, s3, nx_or]
      exact ⟨rfl, _, Nat.or_lt_two_pow (n := 6) s1 (pb_lt (a4 q hq).1), rfl⟩
    · rw [m5 v q hv hq (by omega), x3 v q hq (by omega), e0]
      exact ⟨rfl, s, s1, s3⟩
  have seen0 : ∀ v q, v < 4 → q < 10 → (nv ≤ v ∨ np ≤ q) → hx1 10 (10 * v + q) = hx 10 (10 * v + q) := fun v q hv hq z => by rw [x3 v q hq (by omega), a1 10 (by decide)]
  have hx21 : ∀ j, j ≠ 12 → hx2 1 j = hx 1 j := fun j hj => by rw [b1 1 (by decide), x5 j hj, a1 1 (by decide)]
  have hx2c : hx2 1 12 = nI (ck + K) := by rw [b1 1 (by decide)]; exact x4
  have hxo : ∀ c, c ≠ 5 → c ≠ 10 → c ≠ 1 → hx2 c = hx c := fun c c1 c2 c3 => by rw [b1 c c1, x6 c c2 c3, a1 c c1]
  have hx29 : ∀ i, hx2 10 i = hx1 10 i := fun i => by rw [b1 10 (by decide)]
  have hmo : ∀ j, ¬ plc j → j ≠ 0 → j < 77 → hm2 1 j = hm 1 j := fun j j1 j2 j3 => by rw [b2 j j1, m4 j j2 j3, a2 j j1]
  refine h.house (fun k _ hk => hxo k (by omega) (by omega) (by omega)) (fun k _ hk => by rw [b3 k hk, m6 k hk, a3 k hk]) (by rw [b3 0 (by decide), m6 0 (by decide), a3 0 (by decide)]) (by rw [b3 0 (by decide), m6 0 (by decide), a3 0 (by decide)]) ?_ ?_
  · intro f i v
    have fb := vl_b v
    by_cases f4 : f = 4
    · subst f4
      have hi : i < 10 := by rcases v with ⟨z, _⟩ | ⟨_, _, z⟩; exact absurd z (by decide); exact z
      exact (b4 i hi).2.2
    · have hnp : ¬ plc (ix f i) := by
        rintro ⟨q, q1, q2⟩
        exact f4 (ix_inj v (vl14 (f := 4) (by omega) (by omega) q1) q2).1
      by_cases f9 : f = 9
      · subst f9
        have hi : i < 40 := fb.2
        have := see (i / 10) (i % 10) (by omega) (by omega)
        rw [show 77 + 10 * (i / 10) + i % 10 = 77 + i by omega, show 10 * (i / 10) + i % 10 = i by omega] at this
        show hm2 1 (77 + i) = hx2 10 i
        rw [show hm2 1 (77 + i) = hm1 1 (77 + i) from b2 _ hnp, hx29]
        exact this.1
      · by_cases f0 : ix f i = 0
        · obtain ⟨rfl, rfl⟩ := ix_inj v (show vl 0 12 from Or.inl ⟨rfl, by omega, by omega⟩) f0
          show hm2 1 0 = hx2 1 12
          rw [hx2c, b2 0 hnp]; exact m2.1
        · have lt : ix f i < 77 := by
            rcases Nat.lt_or_ge (ix f i) 77 with z | z
            · exact z
            · have := ix_lt v
              exact absurd (ix_inj v (show vl 9 (ix f i - 77) from Or.inr ⟨by omega, by omega, show ix f i - 77 < 40 by omega⟩) (show ix f i = 77 + (ix f i - 77) by omega)).1 f9
          rw [hmo _ hnp f0 lt, hR f i v]
          by_cases f00 : f = 0
          · subst f00
            rw [show 1 + 0 = 1 from rfl, hx21 i (fun z => f0 (by rw [z]; rfl))]
          · rw [hxo (1 + f) (by omega) (by omega) (by omega)]
  · refine ⟨fun f i v => ?_, fun v hv => ?_, fun v p hv hp z => ?_, fun s hs => ?_⟩
    · have fb := vl_b v
      by_cases f4 : f = 4
      · subst f4
        have hi : i < 10 := by rcases v with ⟨z, _⟩ | ⟨_, _, z⟩; exact absurd z (by decide); exact z
        exact ⟨(b4 i hi).1, (b4 i hi).2.1⟩
      · by_cases f9 : f = 9
        · subst f9
          have hi : i < 40 := fb.2
          obtain ⟨-, s, s1, s2⟩ := see (i / 10) (i % 10) (by omega) (by omega)
          rw [show 10 * (i / 10) + i % 10 = i by omega] at s2
          show (0 : Int) ≤ (hx2 10 i).toInt ∧ (hx2 10 i).toInt ≤ 63
          rw [hx29, s2, ti_nI (by omega)]
          omega
        · by_cases f0 : f = 0
          · subst f0
            by_cases i12 : i = 12
            · subst i12
              show (0 : Int) ≤ (hx2 1 12).toInt ∧ (hx2 1 12).toInt ≤ 9999
              rw [hx2c, ti_nI (by omega)]
              omega
            · rw [show 1 + 0 = 1 from rfl, hx21 i i12]; exact hI.1 0 i v
          · rw [hxo (1 + f) (by omega) (by omega) (by omega)]; exact hI.1 f i v
    · show (hx2 9 v).toInt ≤ (hx2 1 12).toInt
      obtain ⟨c, c1, c2⟩ := cm v hv
      rw [hxo 9 (by decide) (by decide) (by decide), hx2c, c2, ti_nI (by omega), ti_nI (by omega)]
      omega
    · have z' : (hx 1 11).toInt ≤ (v : Int) ∨ (hx 1 10).toInt ≤ (p : Int) := by
        rw [hx21 11 (by decide), hx21 10 (by decide)] at z; exact z
      show hx2 10 (10 * v + p) = 0
      rw [hx29, seen0 v p hv hp (by rw [np2, nv2, ti_nI (by omega), ti_nI (by omega)] at z'; omega)]
      exact hI.2.2.1 v p hv hp z'
    · show (hx2 11 s).toInt < (hx2 1 10).toInt
      rw [hxo 11 (by decide) (by decide) (by decide), hx21 10 (by decide)]
      exact hI.2.2.2 s hs
theorem tw_n {hx hm : Hp} (h : R hx hm) {fu nv np : Nat} (hfu : 12 ≤ fu) (e : hx 1 11 = nI nv) (hn : nv ≤ 4) (ep : hx 1 10 = nI np) (hp : np ≤ 10) : ∀ (k v n a : Nat), v + k = nv → k < n → a < 1024 → ∃ r, r < 1024 ∧ X1_sightedTwice_4 fu hx n (nI a) (nI v) = some (nI r) ∧ X8_seenTwice_4 fu hm n (nI a) (nI v) = some (nI r) := by
  intro k
  induction k with
  | zero =>
    intro v n a hv hk ha
    obtain ⟨m, rfl⟩ : ∃ m, n = m + 1 := ⟨n - 1, by omega⟩
    rw [X1_sightedTwice_4, X8_seenTwice_4, rnv h.1, e, if_pos (nI_le (by omega) (by omega)), if_pos (nI_le (by omega) (by omega))]
    exact ⟨a, ha, rfl, rfl⟩
  | succ k ih =>
    intro v n a hv hk ha
    obtain ⟨m, rfl⟩ : ∃ m, n = m + 1 := ⟨n - 1, by omega⟩
    obtain ⟨s1, s2⟩ := sg_eq hfu h (show v < 4 by omega) (Or.inr rfl) ep hp
    rw [X1_sightedTwice_4, X8_seenTwice_4, rnv h.1, e, if_neg (nI_ge (by omega) (by omega)), if_neg (nI_ge (by omega) (by omega)), s1, s2, bnd_s, bnd_s, nx_or, nI_1]
    have : bs (snP hx v 2) np < 2 ^ 10 := Nat.lt_of_lt_of_le (bs_lt _ _) (Nat.pow_le_pow_right (by omega) hp)
    exact ih (v + 1) m _ (by omega) (by omega) (Nat.or_lt_two_pow (n := 10) ha this)
theorem o_waits {hx hm : Hp} {fu : Nat} (hf : 118 ≤ fu) (h : R hx hm) (x : Int32) : Eqv (X7_waits fu x hx) (X8_waits fu x hm) := by
  obtain ⟨ck, ck1, ck2⟩ := ckN h.2.1
  unfold X7_waits X8_waits
  rw [w8]
  rcases wr x 1 60 with ⟨a, -⟩ | ⟨a, b, c⟩
  · rw [if_pos a, if_pos a]; exact fB h
  · have a' : ¬ X7_within x 1 60 = 0 := by rw [a]; decide
    rw [if_neg a', if_neg a']
    rw [show (1 : Int32).toInt = 1 from rfl] at b
    rw [show (60 : Int32).toInt = 60 from rfl] at c
    obtain ⟨K, K1, rfl⟩ := ti_ex (x := x) (b := 60) (by omega) c
    simp only [rck h.1, ck2, nI_add]
    by_cases z : ck + K ≤ 9999
    · rw [if_pos (show nI (ck + K) ≤ (9999 : Int32) from nI_le (b := 9999) z (by omega)), if_pos (show nI (ck + K) ≤ (9999 : Int32) from nI_le (b := 9999) z (by omega))]
      obtain ⟨hx1, hm1, p1, p2, p3, p4, p5, p6, p7⟩ := spendB hf h ck2 z (by omega) (hx' := hx) (hm' := hm) (fun _ _ => rfl) (fun _ _ => rfl) (fun _ _ => rfl) (fun q hq => ⟨(plB h.2.1 hq).2, Or.inl (h.1 4 q (vl14 (by omega) (by omega) hq))⟩)
      have R1 : R hx1 hm1 := p7 hx1 hm1 (fun _ _ => rfl) (fun _ _ => rfl) (fun _ _ => rfl) (fun q hq => by
        have := plB h.2.1 hq
        rw [p3, p4 q hq]
        exact ⟨this.1, this.2, h.1 4 q (vl14 (by omega) (by omega) hq)⟩)
      obtain ⟨np, np1, np2⟩ := npN R1.2.1
      obtain ⟨nv, nv1, nv2⟩ := nvN R1.2.1
      obtain ⟨r, r1, r2, r3⟩ := tw_n R1 (fu := fu) (by omega) nv2 nv1 np2 np1 nv 0 fu 0 (by omega) (by omega) (by omega)
      rw [p1, p2, bnd_s, bnd_s]
      unfold X1_sightedTwice X8_seenTwice
      rw [show X1_sightedTwice_4 fu hx1 fu 0 0 = _ from r2, show X8_seenTwice_4 fu hm1 fu 0 0 = _ from r3, bnd_s, bnd_s, bits_nI (by omega) r1, bnd_s]
      exact ⟨_, _, _, rfl, rfl, R1⟩
    · rw [if_neg (show ¬ nI (ck + K) ≤ (9999 : Int32) from nI_ge (a := 9999) (by omega) (by omega)), if_neg (show ¬ nI (ck + K) ≤ (9999 : Int32) from nI_ge (a := 9999) (by omega) (by omega))]; exact fS h
