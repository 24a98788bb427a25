theorem drw (z : Int32) : ∃ a, a < 16777216 ∧ (z.toUInt32 >>> ((8 : Int32).toUInt32 &&& Int32.toUInt32 31)).toInt32 = nI a := by
  have e := pk_ushr z 8 8 (by decide)
  have lt : z.toBitVec.toNat < 2 ^ 32 := z.toBitVec.isLt
  refine ⟨z.toBitVec.toNat / 2 ^ 8, by omega, ?_⟩
  apply Int32.toBitVec_inj.mp
  apply BitVec.eq_of_toNat_eq
  rw [e, pk_tn (by omega)]
theorem dr {hx hm : Hp} (h : R hx hm) : ∃ a z, a < 16777216 ∧ X1_draw hx = some (nI a, up hx 1 14 z) ∧ X8_drawn 6 hm = some (nI (a % 6), up hm 1 4 z) ∧ R (up hx 1 14 z) (up hm 1 4 z) := by
  obtain ⟨a, a1, a2⟩ := drw (hx 1 14 * (1103515245 : Int32) + (12345 : Int32))
  refine ⟨a, hx 1 14 * (1103515245 : Int32) + (12345 : Int32), a1, ?_, ?_, h.up1 (f := 0) (i := 14) (Or.inl ⟨rfl, by omega, by omega⟩) ⟨Int32.le_toInt _, by have := Int32.toInt_lt (hx 1 14 * (1103515245 : Int32) + (12345 : Int32)); show _ ≤ (2147483647 : Int); omega⟩ ⟨fun _ => Or.inr rfl, by omega, by omega, by omega⟩⟩
  · unfold X1_draw
    rw [up_eq, a2]
  · unfold X8_drawn
    rw [show nz (6 : Int32) = true from by decide, chk_t, up_eq, rzz h.1, a2, show nI a - nI a / (6 : Int32) * (6 : Int32) = nI (a % 6) from pk_rem (a := a) (d := 6) (by omega) (by omega) (by omega)]
theorem papL {fu N : Nat} (hfu : 1100 ≤ fu) (hN : N ≤ 12) : ∀ (k i n n1 : Nat) (hx hm : Hp), R hx hm → i + k = N → k < n → k < n1 → Eqv (X7_papers_19 fu n (nI N) (nI i) hx) (X8_papers_19 fu n1 (nI N) (nI i) hm) := by
  intro k
  induction k with
  | zero =>
    intro i n n1 hx hm h hi hn hn1
    obtain ⟨m, rfl⟩ : ∃ m, n = m + 1 := ⟨n - 1, by omega⟩
    obtain ⟨m1, rfl⟩ : ∃ m, n1 = m + 1 := ⟨n1 - 1, by omega⟩
    rw [X7_papers_19, X8_papers_19, if_pos (nI_le (by omega) (by omega)), if_pos (nI_le (by omega) (by omega))]
    exact o_most hfu h
  | succ k ih =>
    intro i n n1 hx hm h hi hn hn1
    obtain ⟨m, rfl⟩ : ∃ m, n = m + 1 := ⟨n - 1, by omega⟩
    obtain ⟨m1, rfl⟩ : ∃ m, n1 = m + 1 := ⟨n1 - 1, by omega⟩
    obtain ⟨a, z, a1, a2, a3, a4⟩ := dr h
    obtain ⟨b, y, b1, b2, b3, b4⟩ := dr a4
    rw [X7_papers_19, X8_papers_19, if_neg (nI_ge (by omega) (by omega)), if_neg (nI_ge (by omega) (by omega)), a2, a3, bnd_s, bnd_s]
    dsimp only
    rw [b2, b3, bnd_s, bnd_s]
    dsimp only
    rw [show nI a - nI a / (6 : Int32) * (6 : Int32) = nI (a % 6) from pk_rem (a := a) (d := 6) (by omega) (by omega) (by omega), show nI b - nI b / (6 : Int32) * (6 : Int32) = nI (b % 6) from pk_rem (a := b) (d := 6) (by omega) (by omega) (by omega), show (27 : Int32) + nI (a % 6) = nI (27 + a % 6) from nI_add 27 (a % 6), ck_nI (by omega) (by decide), ck_nI (by omega) (by decide), cl_nI (by omega), cl_nI (by omega), nI_1]
    have lt : b % 6 < 6 := Nat.mod_lt _ (by omega)
    exact ih (i + 1) m m1 _ _ (b4.up1 (f := 7) (i := a % 6) (Or.inr ⟨by omega, by omega, Nat.mod_lt _ (by omega)⟩) (v := nI (b % 6)) (by
      rw [ti_nI (by omega)]
      show (-1 : Int) ≤ _ ∧ _ ≤ (5 : Int)
      omega) ⟨by omega, by omega, by omega, by omega⟩) (by omega) (by omega) (by omega)
theorem o_papers {hx hm : Hp} {fu : Nat} (hf : 1100 ≤ fu) (h : R hx hm) (x : Int32) : Eqv (X7_papers fu x hx) (X8_papers fu x hm) := by
  unfold X7_papers X8_papers
  rw [w8]
  rcases wr x 1 12 with ⟨a, -⟩ | ⟨a, b, c⟩
  · rw [if_pos a, if_pos a]; exact fB h
  · have a' : ¬ X7_within x 1 12 = 0 := by rw [a]; decide
    rw [if_neg a', if_neg a']
    rw [show (1 : Int32).toInt = 1 from rfl] at b
    rw [show (12 : Int32).toInt = 12 from rfl] at c
    obtain ⟨N, N1, rfl⟩ := ti_ex (x := x) (b := 12) (by omega) c
    exact papL hf N1 N 0 fu fu hx hm h (by omega) (by omega) (by omega)
/-! the lowest of some -/
def lw (Q : Nat → Bool) (j : Nat) : Nat → Int32
  | 0 => -1
  | k + 1 => if Q j then nI j else lw Q (j + 1) k
def dn (Q : Nat → Bool) : Nat → Int32 → Int32
  | 0, x => x
  | i + 1, x => dn Q i (if Q i then nI i else x)
theorem lw_s {Q : Nat → Bool} : ∀ (k j : Nat), (∃ i, j ≤ i ∧ i < j + k ∧ Q i = true ∧ (∀ z, j ≤ z → z < i → Q z = false) ∧ lw Q j k = nI i) ∨ ((∀ z, j ≤ z → z < j + k → Q z = false) ∧ lw Q j k = -1) := by
  intro k
  induction k with
  | zero => intro j; exact Or.inr ⟨fun z a b => by omega, rfl⟩
  | succ k ih =>
    intro j
    have e : lw Q j (k + 1) = if Q j then nI j else lw Q (j + 1) k := rfl
    rw [e]
    by_cases q : Q j = true
    · rw [if_pos q]; exact Or.inl ⟨j, by omega, by omega, q, fun z a b => by omega, rfl⟩
    · rw [if_neg q]
      have q' : Q j = false := by simpa using q
      rcases ih (j + 1) with ⟨i, a, b, c, d, f⟩ | ⟨a, b⟩
      · refine Or.inl ⟨i, by omega, by omega, c, fun z z1 z2 => ?_, f⟩
        by_cases w : z = j
        · rw [w]; exact q'
        · exact d z (by omega) z2
      · refine Or.inr ⟨fun z z1 z2 => ?_, b⟩
        by_cases w : z = j
        · rw [w]; exact q'
        · exact a z (by omega) (by omega)
theorem dn_s {Q : Nat → Bool} : ∀ (n : Nat) (x : Int32), (∃ i, i < n ∧ Q i = true ∧ (∀ z, z < i → Q z = false) ∧ dn Q n x = nI i) ∨ ((∀ z, z < n → Q z = false) ∧ dn Q n x = x) := by
  intro n
  induction n with
  | zero => intro x; exact Or.inr ⟨fun z a => by omega, rfl⟩
  | succ n ih =>
    intro x
    have e : dn Q (n + 1) x = dn Q n (if Q n then nI n else x) := rfl
    rw [e]
    rcases ih (if Q n then nI n else x) with ⟨i, a, b, c, d⟩ | ⟨a, b⟩
    · exact Or.inl ⟨i, by omega, b, c, d⟩
    · by_cases q : Q n = true
      · refine Or.inl ⟨n, by omega, q, a, ?_⟩
        rw [b, if_pos q]
      · refine Or.inr ⟨fun z z1 => ?_, ?_⟩
        · by_cases w : z = n
          · rw [w]; simpa using q
          · exact a z (by omega)
        · rw [b, if_neg q]
theorem lw_dn {Q : Nat → Bool} {np N : Nat} (hn : np ≤ N) (hq : ∀ i, Q i = true → i < np) : lw Q 0 N = dn Q np (-1) := by
  rcases lw_s (Q := Q) N 0 with ⟨i, a, b, c, d, f⟩ | ⟨a, b⟩
  · rcases dn_s (Q := Q) np (-1) with ⟨j, a1, b1, c1, d1⟩ | ⟨a1, b1⟩
    · rw [f, d1]
      have : i = j := by
        rcases Nat.lt_trichotomy i j with w | w | w
        · have := c1 i w; rw [c] at this; exact absurd this (by decide)
        · exact w
        · have := d j (by omega) w; rw [b1] at this; exact absurd this (by decide)
      rw [this]
    · have := a1 i (hq i c); rw [c] at this; exact absurd this (by decide)
  · rcases dn_s (Q := Q) np (-1) with ⟨j, a1, b1, c1, d1⟩ | ⟨a1, b1⟩
    · have := a j (by omega) (by omega); rw [b1] at this; exact absurd this (by decide)
    · rw [b, b1]
theorem UF_top {rt : Nat → Nat → Nat} {S : Nat → Bool} {n : Nat} : ∀ (d : Nat) (H : Nat → Bool) (c v : Nat), (∀ a, n ≤ a → a < n + d → S a = false) → (UF rt S (n + d) H c v ↔ UF rt S n H c v) := by
  intro d
  induction d with
  | zero => intro H c v _; exact Iff.rfl
  | succ d ih =>
    intro H c v h
    show (UF rt S (n + d) H c v ∧ (S (n + d) = true → ∀ i, H i = true → UF rt S (n + d) (rmv H i) (c + rt i (n + d)) v)) ↔ _
    rw [ih H c v (fun a a1 a2 => h a a1 (by omega)), h (n + d) (by omega) (by omega)]
    exact ⟨fun a => a.1, fun a => ⟨a, fun z => absurd z (by decide)⟩⟩
