theorem up_nj {h : Hp} {k i j : Nat} {v : Int32} (hj : j ≠ i) : up h k i v k j = h k j := up_ni (fun z => hj z.2)
theorem cpy0 {f g : Nat → Int32} {n i : Nat} (hi : i < n) : va_cpy f g 0 0 n i = f i := by
  unfold va_cpy
  rw [if_pos ⟨by omega, by omega⟩, Nat.zero_add, Nat.sub_zero]
/-- the first m rows are copied -/
def cpd (c0 c1 : Nat) (h0 h : Hp) (m : Nat) : Prop := (∀ j i, 1 ≤ j → j ≤ m → i < lnH j → h (c0 + j) i = h0 (c1 + j) i) ∧ (∀ k, k < c0 + 1 ∨ c0 + m < k → h k = h0 k)
theorem cp_step {c0 c1 m : Nat} {h0 h : Hp} (hd : c0 + 11 ≤ c1 ∨ c1 + 11 ≤ c0) (s : cpd c0 c1 h0 h m) (hm : m < 10) {j n : Nat} (hj : j = m + 1) (hn : n = lnH j) : cpd c0 c1 h0 (upA h (c0 + j) (va_cpy (h (c1 + j)) (h (c0 + j)) (0 : Int32).toNatClampNeg (0 : Int32).toNatClampNeg n)) j := by
  have c_0 : (0 : Int32).toNatClampNeg = 0 := by decide
  rw [c_0]
  subst hj; subst hn
  refine ⟨fun j i a b c => ?_, fun k hk => ?_⟩
  · by_cases z : j = m + 1
    · subst z; rw [upA_at, cpy0 c, s.2 _ (by omega)]
    · rw [upA_ne (by omega)]; exact s.1 j i a (by omega) c
  · rw [upA_ne (by omega)]; exact s.2 k (by omega)
def bcd (c0 c1 : Nat) (h0 h1 : Hp) : Prop := (∀ f i, vl f i → h1 (c0 + f) i = h0 (c1 + f) i) ∧ (∀ k, k < c0 ∨ c0 + 10 < k → h1 k = h0 k)
theorem k10 : cpOk 0 0 10 10 10 = true := by decide
theorem k6 : cpOk 0 0 6 6 6 = true := by decide
theorem k4 : cpOk 0 0 4 4 4 = true := by decide
theorem k40 : cpOk 0 0 40 40 40 = true := by decide
theorem cl10 : lnH 1 = (10 : Int32).toNatClampNeg := by decide
theorem bc149 {c0 c1 : Nat} {h0 h : Hp} (hd : c0 + 11 ≤ c1 ∨ c1 + 11 ≤ c0) (s : cpd c0 c1 h0 h 10) : ∃ h1, X1_become_149 c0 c1 h = some h1 ∧ bcd c0 c1 h0 h1 := by
  unfold X1_become_149 X1_become_186
  have r : ∀ (q : Hp) (i : Nat) (v : Int32), up q c0 i v c1 = q c1 := fun q i v => up_ne (by omega)
  simp only [r]
  refine ⟨_, rfl, fun f i v => ?_, fun k hk => ?_⟩
  · rcases v with ⟨rfl, v1, v2⟩ | ⟨v1, v2, v3⟩
    · rw [Nat.add_zero, Nat.add_zero, ← s.2 c1 (by omega)]
      rcases (show i = 10 ∨ i = 11 ∨ i = 12 ∨ i = 13 ∨ i = 14 by omega) with rfl | rfl | rfl | rfl | rfl
      · rw [up_nj (by omega), up_nj (by omega), up_nj (by omega), up_nj (by omega), up_eq]
      · rw [up_nj (by omega), up_nj (by omega), up_nj (by omega), up_eq]
      · rw [up_nj (by omega), up_nj (by omega), up_eq]
      · rw [up_nj (by omega), up_eq]
      · rw [up_eq]
    · rw [up_ne (by omega), up_ne (by omega), up_ne (by omega), up_ne (by omega), up_ne (by omega)]; exact s.1 f i v1 v2 v3
  · rw [up_ne (by omega), up_ne (by omega), up_ne (by omega), up_ne (by omega), up_ne (by omega)]; exact s.2 k (by omega)
theorem bc119 {c0 c1 : Nat} {h0 h : Hp} (hd : c0 + 11 ≤ c1 ∨ c1 + 11 ≤ c0) (s : cpd c0 c1 h0 h 8) : ∃ h1, X1_become_119 c0 c1 h = some h1 ∧ bcd c0 c1 h0 h1 := by
  unfold X1_become_119
  rw [k40, k10, chk_t, chk_t]
  exact bc149 hd (cp_step hd (cp_step hd s (by omega) (j := 9) rfl (by decide)) (by omega) (j := 10) rfl (by decide))
theorem bc90 {c0 c1 : Nat} {h0 h : Hp} (hd : c0 + 11 ≤ c1 ∨ c1 + 11 ≤ c0) (s : cpd c0 c1 h0 h 6) : ∃ h1, X1_become_90 c0 c1 h = some h1 ∧ bcd c0 c1 h0 h1 := by
  unfold X1_become_90
  rw [k6, k4, chk_t, chk_t]
  exact bc119 hd (cp_step hd (cp_step hd s (by omega) (j := 7) rfl (by decide)) (by omega) (j := 8) rfl (by decide))
theorem bc60 {c0 c1 : Nat} {h0 h : Hp} (hd : c0 + 11 ≤ c1 ∨ c1 + 11 ≤ c0) (s : cpd c0 c1 h0 h 4) : ∃ h1, X1_become_60 c0 c1 h = some h1 ∧ bcd c0 c1 h0 h1 := by
  unfold X1_become_60
  rw [k6, chk_t, chk_t]
  exact bc90 hd (cp_step hd (cp_step hd s (by omega) (j := 5) rfl (by decide)) (by omega) (j := 6) rfl (by decide))
theorem bc30 {c0 c1 : Nat} {h0 h : Hp} (hd : c0 + 11 ≤ c1 ∨ c1 + 11 ≤ c0) (s : cpd c0 c1 h0 h 2) : ∃ h1, X1_become_30 c0 c1 h = some h1 ∧ bcd c0 c1 h0 h1 := by
  unfold X1_become_30
  rw [k10, chk_t, chk_t]
  exact bc60 hd (cp_step hd (cp_step hd s (by omega) (j := 3) rfl (by decide)) (by omega) (j := 4) rfl (by decide))
theorem become_ok {c0 c1 : Nat} {h : Hp} (hd : c0 + 11 ≤ c1 ∨ c1 + 11 ≤ c0) : ∃ h1, X1_become c0 c1 h = some h1 ∧ (∀ f i, vl f i → h1 (c0 + f) i = h (c1 + f) i) ∧ (∀ k, k < c0 ∨ c0 + 10 < k → h1 k = h k) := by
  unfold X1_become
  rw [k10, chk_t, chk_t]
  have s : cpd c0 c1 h h 0 := ⟨fun j i a b c => by omega, fun k _ => rfl⟩
  obtain ⟨h1, a, b, c⟩ := bc30 hd (cp_step hd (cp_step hd s (by omega) (j := 1) (n := (10 : Int32).toNatClampNeg) rfl (by decide)) (by omega) (j := 2) (n := (10 : Int32).toNatClampNeg) rfl (by decide))
  exact ⟨h1, a, b, c⟩
theorem cpRow {fu c0 c1 : Nat} (hc : c0 ≠ c1) : ∀ (k i n : Nat) (h : Hp), i + k = 117 → k < n → ∃ h1, X8_copyRow_2 fu c0 c1 n (nI i) h = some h1 ∧ (∀ j, i ≤ j → j < 117 → h1 c1 j = h c0 j) ∧ (∀ j, j < i → h1 c1 j = h c1 j) ∧ (∀ q, q ≠ c1 → h1 q = h q) := by
  intro k
  induction k with
  | zero =>
    intro i n h hi hn
    obtain ⟨m, rfl⟩ : ∃ m, n = m + 1 := ⟨n - 1, by omega⟩
    rw [X8_copyRow_2, if_pos (show (117 : Int32) ≤ nI i from nI_le (a := 117) (by omega) (by omega))]
    exact ⟨h, rfl, fun j a b => by omega, fun j _ => rfl, fun q _ => rfl⟩
  | succ k ih =>
    intro i n h hi hn
    obtain ⟨m, rfl⟩ : ∃ m, n = m + 1 := ⟨n - 1, by omega⟩
    rw [X8_copyRow_2, if_neg (show ¬ (117 : Int32) ≤ nI i from nI_ge (b := 117) (by omega) (by omega)), ck_nI (by omega) (by decide), ck_nI (by omega) (by decide), cl_nI (by omega), nI_1]
    obtain ⟨h1, a, b, c, d⟩ := ih (i + 1) m (up h c1 i (h c0 i)) (by omega) (by omega)
    refine ⟨h1, a, fun j e f => ?_, fun j e => ?_, fun q hq => ?_⟩
    · by_cases z : j = i
      · subst z; rw [c j (by omega), up_eq]
      · rw [b j (by omega) f, up_ne hc]
    · rw [c j (by omega), up_nj (by omega)]
    · rw [d q hq, up_ne hq]
theorem cpRow_ok {fu c0 c1 : Nat} (hc : c0 ≠ c1) (hf : 118 ≤ fu) (h : Hp) : ∃ h1, X8_copyRow fu c0 c1 h = some h1 ∧ (∀ j, j < 117 → h1 c1 j = h c0 j) ∧ (∀ q, q ≠ c1 → h1 q = h q) := by
  obtain ⟨h1, a, b, c, d⟩ := cpRow (fu := fu) hc 117 0 fu h (by omega) (by omega)
  exact ⟨h1, a, fun j hj => b j (by omega) hj, d⟩
theorem HI.move {b b1 : Nat} {h h1 : Hp} (hI : HI b h) (e : ∀ f i, vl f i → h1 (b1 + f) i = h (b + f) i) : HI b1 h1 := by
  have e0 : ∀ i, 10 ≤ i → i ≤ 14 → h1 b1 i = h b i := fun i h1 h2 => e 0 i (Or.inl ⟨rfl, h1, h2⟩)
  obtain ⟨i1, i2, i3, i4⟩ := hI
  refine ⟨fun f i v => by rw [e f i v]; exact i1 f i v, fun v hv => ?_, fun v p hv hp q => ?_, fun s hs => ?_⟩
  · rw [e 8 v (Or.inr ⟨by omega, by omega, hv⟩), e0 12 (by omega) (by omega)]; exact i2 v hv
  · rw [e0 11 (by omega) (by omega), e0 10 (by omega) (by omega)] at q
    rw [e 9 (10 * v + p) (Or.inr ⟨by omega, by omega, by show _ < 40; omega⟩)]; exact i3 v p hv hp q
  · rw [e 10 s (Or.inr ⟨by omega, by omega, hs⟩), e0 10 (by omega) (by omega)]; exact i4 s hs
theorem HR.move {b b1 k k1 : Nat} {hx hm hx1 hm1 : Hp} (h : HR b k hx hm) (e : ∀ f i, vl f i → hx1 (b1 + f) i = hx (b + f) i) (c : ∀ j, j < 117 → hm1 k1 j = hm k j) : HR b1 k1 hx1 hm1 := fun f i v => by
  rw [c _ (ix_lt v), e f i v]; exact h f i v
theorem o_undo {hx hm : Hp} {fu : Nat} (hf : 118 ≤ fu) (h : R hx hm) : Eqv (X7_undo hx) (X8_undo fu hm) := by
  unfold X7_undo X8_undo
  rw [← h.2.2.1.1]
  rcases h.2.2.1.2 with c | ⟨c, r, t⟩
  · rw [if_pos c, if_pos c]; exact fN h
  · rw [c, if_neg n10, if_neg n10]
    obtain ⟨h1, a1, a2, a3⟩ := become_ok (c0 := 1) (c1 := 12) (h := hx) (by omega)
    obtain ⟨m1, b1, b2, b3⟩ := cpRow_ok (c0 := 2) (c1 := 1) (by omega) hf hm
    rw [a1, b1, bnd_s, bnd_s]
    have nR : HR 1 1 h1 m1 := r.move a2 b2
    refine ⟨_, _, _, rfl, by rw [rck nR], h.house (fun k _ hk => a3 k (by omega)) (fun k _ hk => b3 k hk) (by rw [b3 0 (by omega)]) (by rw [b3 0 (by omega)]) nR (t.move a2)⟩
theorem o_image {hx hm : Hp} {fu : Nat} (hf : 118 ≤ fu) (h : R hx hm) : Eqv (X7_image hx) (X8_image fu hm) := by
  unfold X7_image X8_image
  obtain ⟨h1, a1, a2, a3⟩ := become_ok (c0 := 12) (c1 := 1) (h := hx) (by omega)
  obtain ⟨m1, b1, b2, b3⟩ := cpRow_ok (c0 := 1) (c1 := 2) (by omega) hf hm
  rw [a1, b1, bnd_s, bnd_s]
  refine ⟨_, _, _, rfl, rfl, ?_⟩
  have x : ∀ k, (k ≠ 0 ∧ (k < 12 ∨ 22 < k)) → up h1 0 9 1 k = hx k := fun k hk => by rw [up_ne (by omega), a3 k (by omega)]
  have y : ∀ k, k ≠ 0 → k ≠ 2 → up m1 0 3 1 k = hm k := fun k hk1 hk2 => by rw [up_ne hk1, b3 k hk2]
  have y0 : up m1 0 3 1 0 10 = hm 0 10 := by rw [up_nj (by omega), b3 0 (by omega)]
  obtain ⟨g1, g2, g3, g4, g5, g6⟩ := h
  have e12 : ∀ f i, vl f i → up h1 0 9 1 (12 + f) i = hx (1 + f) i := fun f i v => by rw [up_ne (by omega)]; exact a2 f i v
  refine ⟨g1.frame (fun f hf => x _ (by omega)) (y 1 (by omega) (by omega)), g2.frame (fun f hf => x _ (by omega)), ⟨by rw [up_eq, up_eq], Or.inr ⟨up_eq, g1.move e12 (fun j hj => by rw [up_ne (by omega), b2 j hj]), g2.move e12⟩⟩, ?_, ?_, ?_⟩
  · unfold TR
    rw [x 40 (by omega), x 41 (by omega), y0, y 6 (by omega) (by omega)]; exact g4
  · intro s hs
    rw [x (47 + 2 * s) (by omega), x (48 + 2 * s) (by omega), y 9 (by omega) (by omega), y 10 (by omega) (by omega), y 11 (by omega) (by omega)]; exact g5 s hs
  · unfold CR
    rw [x 55 (by omega), y 4 (by omega) (by omega)]; exact g6
/-! visitors -/
theorem comeL {fu v : Nat} (hv : v < 4) : ∀ (k i n : Nat) (h : Hp), i + k = 10 → k < n → ∃ h1, X8_comesIn_24 fu n (nI v) (nI i) h = some (nI v, up h1 1 3 (h1 1 3 + 1)) ∧ (∀ j, 77 + 10 * v + i ≤ j → j < 87 + 10 * v → h1 1 j = 0) ∧ (∀ j, j < 77 + 10 * v + i ∨ 87 + 10 * v ≤ j → h1 1 j = h 1 j) ∧ (∀ q, q ≠ 1 → h1 q = h q) := by
  intro k
  induction k with
  | zero =>
    intro i n h hi hn
    obtain ⟨m, rfl⟩ : ∃ m, n = m + 1 := ⟨n - 1, by omega⟩
    rw [X8_comesIn_24, if_pos (show (10 : Int32) ≤ nI i from nI_le (a := 10) (by omega) (by omega))]
    exact ⟨h, rfl, fun j a b => by omega, fun j _ => rfl, fun q _ => rfl⟩
  | succ k ih =>
    intro i n h hi hn
    obtain ⟨m, rfl⟩ : ∃ m, n = m + 1 := ⟨n - 1, by omega⟩
    rw [X8_comesIn_24, if_neg (show ¬ (10 : Int32) ≤ nI i from nI_ge (b := 10) (by omega) (by omega)), show (77 : Int32) = nI 77 from rfl, show (10 : Int32) * nI v = nI (10 * v) from pk_mul 10 v, nI_add, nI_add, ck_nI (by omega) (by decide), cl_nI (by omega), nI_1]
    obtain ⟨h1, a, b, c, d⟩ := ih (i + 1) m (up h 1 (77 + 10 * v + i) 0) (by omega) (by omega)
    refine ⟨h1, a, fun j e f => ?_, fun j e => ?_, fun q hq => ?_⟩
    · by_cases z : j = 77 + 10 * v + i
      · subst z; rw [c _ (by omega), up_eq]
      · exact b j (by omega) f
    · rw [c j (by omega), up_nj (by omega)]
    · rw [d q hq, up_ne hq]
theorem o_visitor {hx hm : Hp} {fu : Nat} (hf : 11 ≤ fu) (h : R hx hm) : Eqv (X7_visitor hx) (X8_visitor fu hm) := by
  obtain ⟨nv, n1, n2⟩ := nvN h.2.1
  unfold X7_visitor X8_visitor X1_addVisitor X8_comesIn
  have m3 := (rnv h.1).trans n2
  rw [m3, n2]
  by_cases d : nv < 4
  · rw [if_pos (show nI nv < 4 from nI_lt (b := 4) d (by decide)), if_neg (show ¬ nI nv = 4 from fun z => by rw [show (4 : Int32) = nI 4 from rfl, nI_eq (by omega) (by decide)] at z; omega), bnd_eta, bnd_eta, ck_nI d (by decide), cl_nI (by omega), show (73 : Int32) = nI 73 from rfl, nI_add, ck_nI (by omega) (by decide), cl_nI (by omega), rck h.1]
    obtain ⟨m1, a, b, c, e⟩ := comeL (fu := fu) d 10 0 fu (up hm 1 (73 + nv) (hx 1 12)) (by omega) (by omega)
    rw [show (0 : Int32) = nI 0 from rfl, a]
    have r11 : up hx 9 nv (hx 1 12) 1 11 = nI nv := by rw [up_ne (by omega), n2]
    have m13 : m1 1 3 = nI nv := by rw [c 3 (by omega), up_nj (by omega), m3]
    rw [r11, m13, nI_1]
    refine ⟨_, _, _, rfl, rfl, ?_⟩
    have i3 := h.2.1.2.2.1
    have s1 : HR 1 1 (up hx 9 nv (hx 1 12)) m1 := by
      intro f i v
      have base := h.1.set1 (f := 8) (i := nv) (Or.inr ⟨by omega, by omega, d⟩) (hx 1 12) f i v
      by_cases z : 77 + 10 * nv ≤ ix f i ∧ ix f i < 87 + 10 * nv
      · rw [b _ (by omega) (by omega)]
        obtain ⟨ff, fi⟩ := ix_inj v (show vl 9 (ix f i - 77) from Or.inr ⟨by omega, by omega, by show _ < 40; omega⟩) (by show _ = 77 + (ix f i - 77); omega)
        subst ff
        rw [fi, up_ne (by omega)]
        have := i3 nv (ix 9 i - 77 - 10 * nv) d (by omega) (Or.inl (by rw [n2, ti_nI (by omega)]; omega))
        rw [show 10 * nv + (ix 9 i - 77 - 10 * nv) = ix 9 i - 77 by omega] at this
        exact this.symm
      · rw [c _ (by omega)]
        exact base
    refine h.house (fun k _ hk => by rw [up_ne (by omega), up_ne (by omega)]) (fun k _ hk => by rw [up_ne hk, e k hk, up_ne hk]) (by rw [up_ne (by omega), e 0 (by omega), up_ne (by omega)]) (by rw [up_ne (by omega), e 0 (by omega), up_ne (by omega)]) (s1.set1 (f := 0) (i := 11) (Or.inl ⟨rfl, by omega, by omega⟩) (nI (nv + 1))) ?_
    obtain ⟨j1, j2, j3, j4⟩ := h.2.1
    have e1 : (nI (nv + 1)).toInt = nv + 1 := by rw [ti_nI (by omega)]; omega
    have e0 : (hx 1 11).toInt = nv := by rw [n2, ti_nI (by omega)]
    have q : ∀ f i, ¬ (f = 0 ∧ i = 11) → ¬ (f = 8 ∧ i = nv) → up (up hx 9 nv (hx 1 12)) 1 11 (nI (nv + 1)) (1 + f) i = hx (1 + f) i := fun f i z1 z2 => by
      rw [up_ni (fun z => z1 ⟨by omega, z.2⟩), up_ni (fun z => z2 ⟨by omega, z.2⟩)]
    refine ⟨fun f i v => ?_, fun v hv => ?_, fun v p hv hp z => ?_, fun s hs => ?_⟩
    · by_cases z1 : f = 0 ∧ i = 11
      · obtain ⟨rfl, rfl⟩ := z1
        rw [Nat.add_zero, up_eq, e1]
        exact ⟨by show (0 : Int) ≤ _; omega, by show _ ≤ (4 : Int); omega⟩
      · by_cases z2 : f = 8 ∧ i = nv
        · obtain ⟨rfl, rfl⟩ := z2
          rw [show 1 + 8 = 9 from rfl, up_ne (by omega), up_eq]
          exact j1 0 12 (Or.inl ⟨rfl, by omega, by omega⟩)
        · rw [q f i z1 z2]; exact j1 f i v
    · rw [show up (up hx 9 nv (hx 1 12)) 1 11 (nI (nv + 1)) 1 12 = hx 1 12 from q 0 12 (by omega) (by omega)]
      by_cases z2 : v = nv
      · subst z2
        rw [show 1 + 8 = 9 from rfl, up_ne (by omega), up_eq]; omega
      · rw [q 8 v (by omega) (by omega)]; exact j2 v hv
    · rw [up_eq, e1, show up (up hx 9 nv (hx 1 12)) 1 11 (nI (nv + 1)) 1 10 = hx 1 10 from q 0 10 (by omega) (by omega)] at z
      rw [q 9 _ (by omega) (by omega)]
      refine j3 v p hv hp ?_
      rcases z with z | z
      · left; rw [e0]; omega
      · exact Or.inr z
    · rw [q 10 s (by omega) (by omega), show up (up hx 9 nv (hx 1 12)) 1 11 (nI (nv + 1)) 1 10 = hx 1 10 from q 0 10 (by omega) (by omega)]; exact j4 s hs
  · rw [if_neg (show ¬ nI nv < 4 from nI_nlt (b := 4) (by omega) (by omega)), if_pos (show nI nv = 4 by rw [show nv = 4 by omega]; rfl)]; exact fF h
