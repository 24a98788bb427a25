/-! masks -/
theorem nmask (a b : Int32) : a &&& (b ^^^ (-1 : Int32)) = a ^^^ (a &&& b) := by
  apply Int32.toBitVec_inj.1
  show a.toBitVec &&& (b.toBitVec ^^^ BitVec.allOnes 32) = a.toBitVec ^^^ (a.toBitVec &&& b.toBitVec)
  apply BitVec.eq_of_getLsbD_eq
  intro i hi
  simp only [BitVec.getLsbD_and, BitVec.getLsbD_xor, BitVec.getLsbD_allOnes, hi, decide_true]
  cases a.toBitVec.getLsbD i <;> cases b.toBitVec.getLsbD i <;> rfl
def clr (m r : Nat) : Nat := m ^^^ (m &&& 2 ^ r)
theorem clr_bit (m r i : Nat) : (clr m r).testBit i = (m.testBit i && !decide (i = r)) := by
  unfold clr
  rw [Nat.testBit_xor, Nat.testBit_and, Nat.testBit_two_pow]
  by_cases e : i = r
  · subst e; simp
  · have : ¬ r = i := fun z => e z.symm
    simp [e, this]
theorem clr_le (m r : Nat) : clr m r ≤ m := by
  apply Nat.le_of_testBit
  intro i hi
  rw [clr_bit] at hi
  simp at hi
  exact hi.1
theorem clr_lt {m r : Nat} (h : m.testBit r = true) : clr m r < m := by
  rcases Nat.lt_or_ge (clr m r) m with a | a
  · exact a
  · have e : clr m r = m := Nat.le_antisymm (clr_le m r) a
    have := clr_bit m r r
    rw [e, h] at this
    simp at this
theorem clr_nI {m r : Nat} (hr : r < 31) : nI m &&& (((1 : Int32) <<< (nI r &&& 31)) ^^^ (-1 : Int32)) = nI (clr m r) := by
  rw [shl1 r hr, nmask, nx_and, nx_xor]; rfl
theorem and_z {m r : Nat} (hm : m < 2147483648) (hr : r < 31) : (nI m &&& ((1 : Int32) <<< (nI r &&& 31)) = 0) ↔ m.testBit r = false := by
  rw [shl1 r hr, nx_and]
  have le : m &&& 2 ^ r ≤ m := Nat.and_le_left
  have e : (nI (m &&& 2 ^ r) = 0) ↔ m &&& 2 ^ r = 0 := nI_eq (b := 0) (by omega) (by omega)
  rw [e]
  constructor
  · intro h
    have : (m &&& 2 ^ r).testBit r = false := by rw [h]; exact Nat.zero_testBit r
    rw [Nat.testBit_and, Nat.testBit_two_pow] at this
    simpa using this
  · intro h
    apply Nat.eq_of_testBit_eq
    intro i
    rw [Nat.testBit_and, Nat.testBit_two_pow, Nat.zero_testBit]
    by_cases z : r = i
    · subst z; simp [h]
    · simp [z]
def sub (m s : Nat) : Prop := ∀ i, m.testBit i = true → s.testBit i = true
theorem sub_z {m s : Nat} (hm : m < 2147483648) : (nI m &&& (nI s ^^^ (-1 : Int32)) = 0) ↔ sub m s := by
  rw [nmask, nx_and, nx_xor]
  have lt : m ^^^ (m &&& s) ≤ m := by
    apply Nat.le_of_testBit
    intro i hi
    rw [Nat.testBit_xor, Nat.testBit_and] at hi
    revert hi
    cases m.testBit i <;> cases s.testBit i <;> decide
  have e : (nI (m ^^^ (m &&& s)) = 0) ↔ m ^^^ (m &&& s) = 0 := nI_eq (b := 0) (by omega) (by omega)
  rw [e]
  constructor
  · intro h i hi
    have : (m ^^^ (m &&& s)).testBit i = false := by rw [h]; exact Nat.zero_testBit i
    rw [Nat.testBit_xor, Nat.testBit_and, hi] at this
    revert this
    cases s.testBit i <;> decide
  · intro h
    apply Nat.eq_of_testBit_eq
    intro i
    rw [Nat.testBit_xor, Nat.testBit_and, Nat.zero_testBit]
    by_cases z : m.testBit i = true
    · rw [z, h i z]; rfl
    · have z' : m.testBit i = false := by simpa using z
      rw [z']; rfl
theorem sub_clr {m s r : Nat} (h : sub m s) : sub (clr m r) s := fun i hi => h i (by rw [clr_bit] at hi; simp at hi; exact hi.1)
/-! the most of some -/
def mxF (P : Nat → Bool) (f : Nat → Nat) (a : Nat) : Nat → Nat
  | 0 => a
  | i + 1 => if P i then max (mxF P f a i) (f i) else mxF P f a i
theorem mxF_le {P : Nat → Bool} {f : Nat → Nat} {a c v : Nat} : ∀ n, c + mxF P f a n ≤ v ↔ c + a ≤ v ∧ ∀ i, i < n → P i = true → c + f i ≤ v := by
  intro n
  induction n with
  | zero => exact ⟨fun h => ⟨h, fun i hi => absurd hi (by omega)⟩, fun h => h.1⟩
  | succ n ih =>
    have e : mxF P f a (n + 1) = if P n then max (mxF P f a n) (f n) else mxF P f a n := rfl
    rw [e]
    by_cases p : P n = true
    · rw [if_pos p]
      constructor
      · intro h
        have := ih.mp (show c + mxF P f a n ≤ v by omega)
        refine ⟨this.1, fun i hi pi => ?_⟩
        by_cases z : i = n
        · subst z; omega
        · exact this.2 i (by omega) pi
      · rintro ⟨h1, h2⟩
        have := ih.mpr ⟨h1, fun i hi pi => h2 i (by omega) pi⟩
        have := h2 n (by omega) p
        omega
    · rw [if_neg p, ih]
      constructor
      · rintro ⟨h1, h2⟩
        refine ⟨h1, fun i hi pi => ?_⟩
        by_cases z : i = n
        · subst z; exact absurd pi p
        · exact h2 i (by omega) pi
      · rintro ⟨h1, h2⟩
        exact ⟨h1, fun i hi pi => h2 i (by omega) pi⟩
theorem mxF_b {P : Nat → Bool} {f : Nat → Nat} {a B n : Nat} (ha : a ≤ B) (hf : ∀ i, i < n → P i = true → f i ≤ B) : mxF P f a n ≤ B := by
  have := (mxF_le (P := P) (f := f) (a := a) (c := 0) (v := B) n).mpr ⟨by omega, fun i hi p => by have := hf i hi p; omega⟩
  omega
theorem mxF_t {P : Nat → Bool} {f : Nat → Nat} {a n : Nat} (h : P n = true) : mxF P f a (n + 1) = max (mxF P f a n) (f n) := by
  show (if P n then max (mxF P f a n) (f n) else mxF P f a n) = _
  rw [if_pos h]
theorem mxF_f {P : Nat → Bool} {f : Nat → Nat} {a n : Nat} (h : ¬ P n = true) : mxF P f a (n + 1) = mxF P f a n := by
  show (if P n then max (mxF P f a n) (f n) else mxF P f a n) = _
  rw [if_neg h]
/-! the class's table -/
def wiN (rt : Nat → Nat → Nat) (b : Nat → Nat) (j m : Nat) : Nat → Nat := mxF (fun r => m.testBit r) (fun r => b (clr m r) + rt j (5 - r)) (b m)
def bN (rt : Nat → Nat → Nat) (hs : Nat) : Nat → Nat → Nat
  | 0, _ => 0
  | j + 1, m => if hs.testBit j then wiN rt (bN rt hs j) j m 6 else bN rt hs j m
def rS (m : Nat) : Nat → Bool := fun a => m.testBit (5 - a)
def hJ (hs j : Nat) : Nat → Bool := fun i => decide (i < j) && hs.testBit i
theorem bN_b {rt : Nat → Nat → Nat} {hs : Nat} (hr : ∀ i a, rt i a ≤ 23) : ∀ j m, bN rt hs j m ≤ 23 * j := by
  intro j
  induction j with
  | zero => intro m; exact Nat.le_refl 0
  | succ j ih =>
    intro m
    show (if hs.testBit j then wiN rt (bN rt hs j) j m 6 else bN rt hs j m) ≤ _
    by_cases z : hs.testBit j = true
    · rw [if_pos z]
      exact mxF_b (by have := ih m; omega) (fun i _ _ => by have := ih (clr m i); have := hr j (5 - i); omega)
    · rw [if_neg z]; have := ih m; omega
theorem bN_V {rt : Nat → Nat → Nat} {hs : Nat} : ∀ j m, VF rt (rS m) 6 (hJ hs j) (bN rt hs j m) := by
  intro j
  induction j with
  | zero =>
    intro m c v
    rw [UF_0 6 c v _ (fun i => by unfold hJ; simp)]
    exact Iff.rfl
  | succ j ih =>
    intro m c v
    show c + (if hs.testBit j then wiN rt (bN rt hs j) j m 6 else bN rt hs j m) ≤ v ↔ _
    by_cases z : hs.testBit j = true
    · have e : hJ hs (j + 1) = add (hJ hs j) j := by
        funext i
        unfold hJ add
        by_cases a : i = j
        · subst a; simp [z]
        · by_cases b : i < j
          · have : i < j + 1 := by omega
            simp [a, b, this]
          · have : ¬ i < j + 1 := by omega
            simp [a, b, this]
      rw [if_pos z, e, UF_add 6 (rS m) (hJ hs j) j c v (by unfold hJ; simp)]
      unfold wiN
      rw [mxF_le, ih m c v]
      have cl : ∀ s, s < 6 → (UF rt (rmv (rS m) s) 6 (hJ hs j) (c + rt j s) v ↔ c + rt j s + bN rt hs j (clr m (5 - s)) ≤ v) := fun s hs1 => by
        rw [ih (clr m (5 - s)) (c + rt j s) v]
        refine UF_S 6 _ _ _ (fun a ha => ?_)
        unfold rmv rS
        rw [clr_bit]
        have : (a = s) ↔ (5 - a = 5 - s) := by omega
        simp only [this]
      constructor
      · rintro ⟨h1, h2⟩
        refine ⟨h1, fun s s1 s2 => (cl s s1).mpr ?_⟩
        have := h2 (5 - s) (by omega) s2
        rw [show 5 - (5 - s) = s by omega] at this
        omega
      · rintro ⟨h1, h2⟩
        refine ⟨h1, fun r r1 r2 => ?_⟩
        have := (cl (5 - r) (by omega)).mp (h2 (5 - r) (by omega) (by unfold rS; rw [show 5 - (5 - r) = r by omega]; exact r2))
        rw [show 5 - (5 - r) = r by omega] at this
        omega
    · have e : hJ hs (j + 1) = hJ hs j := by
        funext i
        unfold hJ
        by_cases a : i = j
        · subst a; simp [z]
        · by_cases b : i < j
          · have : i < j + 1 := by omega
            simp [b, this]
          · have : ¬ i < j + 1 := by omega
            simp [b, this]
      rw [if_neg z, e]; exact ih m c v
theorem win10 {h : Hp} {fu : Nat} {rt : Nat → Nat → Nat} {b : Nat → Nat} {j m rooms : Nat} (hj : j < 10) (hm : m < 64) (hs : sub m rooms) (hb : ∀ m, b m ≤ 1000) (hr : ∀ i a, rt i a ≤ 23) (e1 : ∀ t, t ≤ m → sub t rooms → h 36 t = nI (b t)) (e2 : ∀ r, r < 6 → rooms.testBit r = true → h 35 (6 * j + r) = nI (rt j (5 - r))) : ∀ (k r n : Nat), r + k = 6 → k < n → X0_worthIn_10 fu h n (nI m) (nI j) (nI (wiN rt b j m r)) (nI r) = some (nI (wiN rt b j m 6)) := by
  have wb : ∀ r, wiN rt b j m r ≤ 2000 := fun r => mxF_b (by have := hb m; omega) (fun i _ _ => by have := hb (clr m i); have := hr j (5 - i); omega)
  intro k
  induction k with
  | zero =>
    intro r n hk hn
    obtain ⟨m', rfl⟩ : ∃ m', n = m' + 1 := ⟨n - 1, by omega⟩
    rw [X0_worthIn_10, if_pos (show (6 : Int32) ≤ nI r from nI_le (a := 6) (by omega) (by omega)), show r = 6 by omega]
  | succ k ih =>
    intro r n hk hn
    obtain ⟨m', rfl⟩ : ∃ m', n = m' + 1 := ⟨n - 1, by omega⟩
    rw [X0_worthIn_10, if_neg (show ¬ (6 : Int32) ≤ nI r from nI_ge (b := 6) (by omega) (by omega)), nI_1]
    by_cases z : m.testBit r = true
    · rw [if_neg (fun q => by rw [(and_z (by omega) (by omega)).mp q] at z; exact absurd z (by decide)), clr_nI (by omega), show nI j * (6 : Int32) = nI (j * 6) from pk_mul j 6, nI_add, show j * 6 + r = 6 * j + r by omega]
      have := clr_le m r
      rw [ck_nI (by omega) (by decide), ck_nI (by omega) (by decide), cl_nI (by omega), cl_nI (by omega), e1 _ this (sub_clr hs), e2 r (by omega) (hs r z), nI_add]
      have b1 := wb r
      have b2 := hb (clr m r)
      have b3 := hr j (5 - r)
      rw [jmax_nI (by omega) (by omega)]
      have : wiN rt b j m (r + 1) = max (wiN rt b j m r) (b (clr m r) + rt j (5 - r)) := mxF_t z
      rw [← this]
      exact ih (r + 1) m' (by omega) (by omega)
    · rw [if_pos ((and_z (by omega) (by omega)).mpr (by simpa using z))]
      have : wiN rt b j m (r + 1) = wiN rt b j m r := mxF_f z
      rw [← this]
      exact ih (r + 1) m' (by omega) (by omega)
theorem offerL {fu : Nat} {rt : Nat → Nat → Nat} {b : Nat → Nat} {j rooms : Nat} (hfu : 7 ≤ fu) (hj : j < 10) (hm : rooms < 64) (hb : ∀ m, b m ≤ 1000) (hr : ∀ i a, rt i a ≤ 23) : ∀ (t n : Nat) (h : Hp), t ≤ rooms → t < n → (∀ m, m ≤ t → sub m rooms → h 36 m = nI (b m)) → (∀ r, r < 6 → rooms.testBit r = true → h 35 (6 * j + r) = nI (rt j (5 - r))) → ∃ h1, X0_offer_2 fu n (nI rooms) (nI j) (nI t) h = some h1 ∧ (∀ m, m ≤ t → sub m rooms → h1 36 m = nI (wiN rt b j m 6)) ∧ (∀ m, t < m → h1 36 m = h 36 m) ∧ (∀ q, q ≠ 36 → h1 q = h q) := by
  intro t
  induction t with
  | zero =>
    intro n h ht hn e1 e2
    obtain ⟨m', rfl⟩ : ∃ m', n = m' + 1 := ⟨n - 1, by omega⟩
    rw [X0_offer_2, if_pos (show nI 0 ≤ 0 by decide)]
    refine ⟨h, rfl, fun m hm hs => ?_, fun _ _ => rfl, fun _ _ => rfl⟩
    have : m = 0 := by omega
    subst this
    rw [e1 0 (by omega) hs]
    have z : ∀ r, wiN rt b j 0 r = b 0 := by
      intro r
      induction r with
      | zero => rfl
      | succ r ih => rw [← ih]; exact mxF_f (by simp)
    rw [z]
  | succ t ih =>
    intro n h ht hn e1 e2
    obtain ⟨m', rfl⟩ : ∃ m', n = m' + 1 := ⟨n - 1, by omega⟩
    rw [X0_offer_2, if_neg (show ¬ nI (t + 1) ≤ 0 from nI_ge (a := 0) (by omega) (by omega)), pk_m1]
    by_cases z : sub (t + 1) rooms
    · rw [if_pos ((sub_z (by omega)).mpr z)]
      unfold X0_worthIn
      rw [ck_nI (by omega) (by decide), cl_nI (by omega), e1 (t + 1) (by omega) z]
      have w := win10 (fu := fu) (rt := rt) (b := b) (j := j) (m := t + 1) hj (by omega) z hb hr (fun q hq hs => e1 q (by omega) hs) e2 6 0 fu (by omega) (by omega)
      rw [show X0_worthIn_10 fu h fu (nI (t + 1)) (nI j) (nI (b (t + 1))) 0 = _ from w, bnd_s, ck_nI (by omega) (by decide)]
      obtain ⟨h1, a1, a2, a3, a4⟩ := ih m' (up h 36 (t + 1) (nI (wiN rt b j (t + 1) 6))) (by omega) (by omega) (fun m hm hs => by rw [up_nj (by omega)]; exact e1 m (by omega) hs) (fun r r1 r2 => by rw [up_ne (by decide)]; exact e2 r r1 r2)
      refine ⟨h1, a1, fun m hm hs => ?_, fun m hm => by rw [a3 m (by omega), up_nj (by omega)], fun q hq => by rw [a4 q hq, up_ne hq]⟩
      by_cases y : m = t + 1
      · subst y; rw [a3 _ (by omega), up_eq]
      · exact a2 m (by omega) hs
    · rw [if_neg (fun q => z ((sub_z (by omega)).mp q))]
      obtain ⟨h1, a1, a2, a3, a4⟩ := ih m' h (by omega) (by omega) (fun m hm hs => e1 m (by omega) hs) e2
      refine ⟨h1, a1, fun m hm hs => ?_, fun m hm => a3 m (by omega), a4⟩
      by_cases y : m = t + 1
      · subst y; exact absurd hs z
      · exact a2 m (by omega) hs
theorem sub_le {m s : Nat} (h : sub m s) : m ≤ s := Nat.le_of_testBit (fun i hi => h i hi)
theorem fill10 {fu : Nat} {rt : Nat → Nat → Nat} {hs rooms : Nat} (hfu : 70 ≤ fu) (hm : rooms < 64) (hh : hs < 1024) (hr : ∀ i a, rt i a ≤ 23) : ∀ (k j n : Nat) (h : Hp), j + k = 10 → k < n → (∀ m, sub m rooms → h 36 m = nI (bN rt hs j m)) → (∀ i r, i < 10 → hs.testBit i = true → r < 6 → rooms.testBit r = true → h 35 (6 * i + r) = nI (rt i (5 - r))) → ∃ h1, X0_fill_10 fu n (nI rooms) (nI hs) (nI j) h = some (nI (bN rt hs 10 rooms), h1) ∧ (∀ m, sub m rooms → h1 36 m = nI (bN rt hs 10 m)) ∧ (∀ q, q ≠ 36 → h1 q = h q) := by
  intro k
  induction k with
  | zero =>
    intro j n h hk hn e1 e2
    obtain ⟨m', rfl⟩ : ∃ m', n = m' + 1 := ⟨n - 1, by omega⟩
    have : j = 10 := by omega
    subst this
    rw [X0_fill_10, if_pos (by decide), ck_nI (by omega) (by decide), cl_nI (by omega), e1 rooms (fun i hi => hi)]
    exact ⟨h, rfl, e1, fun _ _ => rfl⟩
  | succ k ih =>
    intro j n h hk hn e1 e2
    obtain ⟨m', rfl⟩ : ∃ m', n = m' + 1 := ⟨n - 1, by omega⟩
    rw [X0_fill_10, if_neg (show ¬ (10 : Int32) ≤ nI j from nI_ge (b := 10) (by omega) (by omega)), nI_1]
    by_cases z : hs.testBit j = true
    · rw [if_neg (fun q => by rw [(and_z (by omega) (by omega)).mp q] at z; exact absurd z (by decide))]
      unfold X0_offer
      obtain ⟨h1, a1, a2, a3, a4⟩ := offerL (fu := fu) (rt := rt) (b := bN rt hs j) (j := j) (by omega) (by omega) hm (fun m => by have := bN_b (hs := hs) hr j m; omega) hr rooms fu h (by omega) (by omega) (fun m _ ss => e1 m ss) (fun r r1 r2 => e2 j r (by omega) z r1 r2)
      rw [a1, bnd_s]
      obtain ⟨h2, b1, b2, b3⟩ := ih (j + 1) m' h1 (by omega) (by omega) (fun m ss => by
        rw [a2 m (sub_le ss) ss]
        show _ = nI (if hs.testBit j then wiN rt (bN rt hs j) j m 6 else bN rt hs j m)
        rw [if_pos z]) (fun i r i1 i2 r1 r2 => by rw [a4 35 (by decide)]; exact e2 i r i1 i2 r1 r2)
      exact ⟨h2, b1, b2, fun q hq => by rw [b3 q hq, a4 q hq]⟩
    · rw [if_pos ((and_z (by omega) (by omega)).mpr (by simpa using z))]
      exact ih (j + 1) m' h (by omega) (by omega) (fun m ss => by
        rw [e1 m ss]
        show _ = nI (if hs.testBit j then wiN rt (bN rt hs j) j m 6 else bN rt hs j m)
        rw [if_neg z]) e2
theorem fillX {fu : Nat} {rt : Nat → Nat → Nat} {hs rooms : Nat} (hfu : 70 ≤ fu) (hm : rooms < 64) (hh : hs < 1024) (hr : ∀ i a, rt i a ≤ 23) (h : Hp) (e2 : ∀ i r, i < 10 → hs.testBit i = true → r < 6 → rooms.testBit r = true → h 35 (6 * i + r) = nI (rt i (5 - r))) : ∃ h1, X0_fill fu (nI rooms) (nI hs) h = some (nI (bN rt hs 10 rooms), h1) ∧ (∀ m, sub m rooms → h1 36 m = nI (bN rt hs 10 m)) ∧ (∀ q, q ≠ 36 → h1 q = h q) := by
  unfold X0_fill
  obtain ⟨g, g1, g2, g3⟩ := fill_ok (fu := fu) (c0 := 36) (N := 64) (by decide) (by omega) (by omega) 0 h
  rw [g1, bnd_s]
  obtain ⟨h1, a1, a2, a3⟩ := fill10 (fu := fu) (rt := rt) (hs := hs) (rooms := rooms) hfu hm hh hr 10 0 fu g (by omega) (by omega) (fun m ss => g2 m (Nat.lt_of_le_of_lt (sub_le ss) hm)) (fun i r i1 i2 r1 r2 => by rw [g3 35 (by decide)]; exact e2 i r i1 i2 r1 r2)
  exact ⟨h1, a1, a2, fun q hq => by rw [a3 q hq, g3 q hq]⟩
