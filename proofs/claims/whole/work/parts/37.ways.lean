/-! counting the ways -/
def sm (P : Nat → Bool) (f : Nat → Nat) : Nat → Nat
  | 0 => 0
  | i + 1 => sm P f i + (if P i then f i else 0)
theorem sm_ext {P Q : Nat → Bool} {f g : Nat → Nat} : ∀ n, (∀ i, i < n → P i = Q i) → (∀ i, i < n → P i = true → f i = g i) → sm P f n = sm Q g n := by
  intro n
  induction n with
  | zero => intro _ _; rfl
  | succ n ih =>
    intro h1 h2
    show sm P f n + (if P n then f n else 0) = sm Q g n + (if Q n then g n else 0)
    rw [ih (fun i hi => h1 i (by omega)) (fun i hi => h2 i (by omega)), ← h1 n (by omega)]
    by_cases p : P n = true
    · rw [if_pos p, if_pos p, h2 n (by omega) p]
    · rw [if_neg p, if_neg p]
theorem sm_add {P : Nat → Bool} {f g : Nat → Nat} : ∀ n, sm P (fun i => f i + g i) n = sm P f n + sm P g n := by
  intro n
  induction n with
  | zero => rfl
  | succ n ih =>
    show sm P (fun i => f i + g i) n + (if P n then f n + g n else 0) = (sm P f n + (if P n then f n else 0)) + (sm P g n + (if P n then g n else 0))
    rw [ih]
    by_cases p : P n = true
    · rw [if_pos p, if_pos p, if_pos p]; omega
    · rw [if_neg p, if_neg p, if_neg p]; omega
theorem sm_0 {P : Nat → Bool} : ∀ n, sm P (fun _ => 0) n = 0 := by
  intro n
  induction n with
  | zero => rfl
  | succ n ih =>
    show sm P (fun _ => 0) n + (if P n then 0 else 0) = 0
    rw [ih]
    by_cases p : P n = true
    · rw [if_pos p]
    · rw [if_neg p]
theorem sm_swap {P Q : Nat → Bool} {f : Nat → Nat → Nat} {m : Nat} : ∀ n, sm P (fun i => sm Q (fun j => f i j) m) n = sm Q (fun j => sm P (fun i => f i j) n) m := by
  intro n
  induction n with
  | zero => exact (sm_0 m).symm
  | succ n ih =>
    show sm P (fun i => sm Q (fun j => f i j) m) n + (if P n then sm Q (fun j => f n j) m else 0) = sm Q (fun j => sm P (fun i => f i j) n + (if P n then f n j else 0)) m
    rw [sm_add, ih]
    by_cases p : P n = true
    · rw [if_pos p]
      congr 1
      exact sm_ext m (fun _ _ => rfl) (fun j _ _ => by rw [if_pos p])
    · rw [if_neg p]
      congr 1
      refine ((sm_0 (P := Q) m).symm.trans ?_)
      exact sm_ext m (fun _ _ => rfl) (fun j _ _ => by rw [if_neg p])
theorem sm_ge {P : Nat → Bool} {f : Nat → Nat} : ∀ n i, i < n → P i = true → f i ≤ sm P f n := by
  intro n
  induction n with
  | zero => intro i hi; omega
  | succ n ih =>
    intro i hi p
    show f i ≤ sm P f n + (if P n then f n else 0)
    by_cases e : i = n
    · subst e; rw [if_pos p]; omega
    · have := ih i (by omega) p; omega
theorem sm_pos {P : Nat → Bool} {f : Nat → Nat} : ∀ n, 0 < sm P f n ↔ ∃ i, i < n ∧ P i = true ∧ 0 < f i := by
  intro n
  induction n with
  | zero => exact ⟨fun h => absurd (show 0 < 0 from h) (by decide), fun ⟨i, a, _⟩ => by omega⟩
  | succ n ih =>
    show 0 < sm P f n + (if P n then f n else 0) ↔ _
    constructor
    · intro h
      by_cases z : 0 < sm P f n
      · obtain ⟨i, a, b, c⟩ := ih.mp z
        exact ⟨i, by omega, b, c⟩
      · by_cases p : P n = true
        · rw [if_pos p] at h; exact ⟨n, by omega, p, by omega⟩
        · rw [if_neg p] at h; omega
    · rintro ⟨i, a, b, c⟩
      by_cases e : i = n
      · subst e; rw [if_pos b]; omega
      · have := ih.mpr ⟨i, by omega, b, c⟩; omega
theorem sm_le {P : Nat → Bool} {f : Nat → Nat} {B : Nat} : ∀ n, (∀ i, i < n → P i = true → f i ≤ B) → sm P f n ≤ n * B := by
  intro n
  induction n with
  | zero => intro _; show (0 : Nat) ≤ _; omega
  | succ n ih =>
    intro h
    show sm P f n + (if P n then f n else 0) ≤ _
    have := ih (fun i hi p => h i (by omega) p)
    rw [Nat.add_mul, Nat.one_mul]
    by_cases p : P n = true
    · rw [if_pos p]; have := h n (by omega) p; omega
    · rw [if_neg p]; omega
/-- one more among those that are summed -/
theorem sm_one {P : Nat → Bool} {f : Nat → Nat} {j : Nat} : ∀ n, P j = false → sm (fun i => P i || decide (i = j)) f n = sm P f n + (if j < n then f j else 0) := by
  intro n
  induction n with
  | zero => intro _; rfl
  | succ n ih =>
    intro h
    show sm (fun i => P i || decide (i = j)) f n + (if (P n || decide (n = j)) then f n else 0) = (sm P f n + (if P n then f n else 0)) + (if j < n + 1 then f j else 0)
    rw [ih h]
    by_cases e : n = j
    · subst e
      rw [h, if_neg (show ¬ n < n by omega), if_pos (show n < n + 1 by omega)]
      simp
    · by_cases l : j < n
      · have : j < n + 1 := by omega
        simp [e, l, this]; omega
      · have : ¬ j < n + 1 := by omega
        simp [e, l, this]
def CF (ok : Nat → Nat → Bool) (S : Nat → Bool) : Nat → (Nat → Bool) → Nat
  | 0, _ => 1
  | k + 1, H => if S k then sm (fun i => H i && ok i k) (fun i => CF ok S k (rmv H i)) 10 else CF ok S k H
theorem CF_t {ok : Nat → Nat → Bool} {S H : Nat → Bool} {k : Nat} (h : S k = true) : CF ok S (k + 1) H = sm (fun i => H i && ok i k) (fun i => CF ok S k (rmv H i)) 10 := by
  show (if S k then sm (fun i => H i && ok i k) (fun i => CF ok S k (rmv H i)) 10 else CF ok S k H) = _
  rw [if_pos h]
theorem CF_f {ok : Nat → Nat → Bool} {S H : Nat → Bool} {k : Nat} (h : ¬ S k = true) : CF ok S (k + 1) H = CF ok S k H := by
  show (if S k then sm (fun i => H i && ok i k) (fun i => CF ok S k (rmv H i)) 10 else CF ok S k H) = _
  rw [if_neg h]
theorem CF_S {ok : Nat → Nat → Bool} {S S' : Nat → Bool} : ∀ (n : Nat) (H : Nat → Bool), (∀ a, a < n → S a = S' a) → CF ok S n H = CF ok S' n H := by
  intro n
  induction n with
  | zero => intro H _; rfl
  | succ n ih =>
    intro H h
    have e := h n (by omega)
    by_cases s : S n = true
    · rw [CF_t s, CF_t (e ▸ s)]
      exact sm_ext 10 (fun _ _ => rfl) (fun i _ _ => ih _ (fun a ha => h a (by omega)))
    · rw [CF_f s, CF_f (e ▸ s), ih H (fun a ha => h a (by omega))]
theorem CF_b {ok : Nat → Nat → Bool} {S : Nat → Bool} : ∀ (n : Nat) (H : Nat → Bool), CF ok S n H ≤ 10 ^ n := by
  intro n
  induction n with
  | zero => intro H; exact Nat.le_refl 1
  | succ n ih =>
    intro H
    by_cases s : S n = true
    · rw [CF_t s, Nat.pow_succ, Nat.mul_comm]
      exact sm_le 10 (fun i _ _ => ih _)
    · rw [CF_f s, Nat.pow_succ]
      have := ih H
      omega
theorem CF_0 {ok : Nat → Nat → Bool} {S : Nat → Bool} : ∀ (n : Nat) (H : Nat → Bool), (∀ a, a < n → S a = false) → CF ok S n H = 1 := by
  intro n
  induction n with
  | zero => intro H _; rfl
  | succ n ih =>
    intro H h
    rw [CF_f (by rw [h n (by omega)]; decide), ih H (fun a ha => h a (by omega))]
theorem CF_add {ok : Nat → Nat → Bool} : ∀ (n : Nat) (S H : Nat → Bool) (j : Nat), j < 10 → H j = false → CF ok S n (add H j) = CF ok S n H + sm (fun s => S s && ok j s) (fun s => CF ok (rmv S s) n H) n := by
  intro n
  induction n with
  | zero => intro S H j _ _; rfl
  | succ n ih =>
    intro S H j hj h
    have Sn : ∀ a, a < n → rmv S n a = S a := fun a ha => by unfold rmv; simp; omega
    have ss : ∀ s, s < n → rmv S s n = S n := fun s hs => by unfold rmv; simp; omega
    have nn : ¬ rmv S n n = true := by unfold rmv; simp
    have rj : ∀ i, rmv H i j = false := fun i => by unfold rmv; rw [h]; rfl
    have e : sm (fun s => S s && ok j s) (fun s => CF ok (rmv S s) (n + 1) H) (n + 1) = sm (fun s => S s && ok j s) (fun s => CF ok (rmv S s) (n + 1) H) n + (if (S n && ok j n) then CF ok (rmv S n) (n + 1) H else 0) := rfl
    rw [e, CF_f nn, CF_S n H Sn]
    by_cases s : S n = true
    · rw [CF_t s, CF_t s]
      by_cases o : ok j n = true
      · have hP : sm (fun i => add H j i && ok i n) (fun i => CF ok S n (rmv (add H j) i)) 10 = sm (fun i => (H i && ok i n) || decide (i = j)) (fun i => CF ok S n (rmv (add H j) i)) 10 := sm_ext 10 (fun i _ => by
          unfold add
          by_cases z : i = j
          · subst z; simp [o]
          · simp [z]) (fun _ _ _ => rfl)
        rw [hP, sm_one 10 (by rw [h]; rfl), if_pos hj, rmv_add h, if_pos (by rw [s, o]; rfl)]
        have hQ : sm (fun i => H i && ok i n) (fun i => CF ok S n (rmv (add H j) i)) 10 = sm (fun i => H i && ok i n) (fun i => CF ok S n (rmv H i) + sm (fun s => S s && ok j s) (fun s => CF ok (rmv S s) n (rmv H i)) n) 10 := sm_ext 10 (fun _ _ => rfl) (fun i _ p => by
          have ne : i ≠ j := fun z => by rw [z, h] at p; simp at p
          rw [rmv_add2 ne, ih S (rmv H i) j hj (rj i)])
        rw [hQ, sm_add, sm_swap]
        have hT : sm (fun s => S s && ok j s) (fun s => CF ok (rmv S s) (n + 1) H) n = sm (fun s => S s && ok j s) (fun s => sm (fun i => H i && ok i n) (fun i => CF ok (rmv S s) n (rmv H i)) 10) n := sm_ext n (fun _ _ => rfl) (fun t ht _ => CF_t (by rw [ss t ht]; exact s))
        rw [hT]
        omega
      · have hP : sm (fun i => add H j i && ok i n) (fun i => CF ok S n (rmv (add H j) i)) 10 = sm (fun i => H i && ok i n) (fun i => CF ok S n (rmv H i) + sm (fun s => S s && ok j s) (fun s => CF ok (rmv S s) n (rmv H i)) n) 10 := sm_ext 10 (fun i _ => by
          unfold add
          by_cases z : i = j
          · subst z; simp [o]
          · simp [z]) (fun i _ p => by
          have ne : i ≠ j := fun z => by subst z; rw [Bool.and_eq_true] at p; exact o p.2
          rw [rmv_add2 ne, ih S (rmv H i) j hj (rj i)])
        have hT : sm (fun s => S s && ok j s) (fun s => CF ok (rmv S s) (n + 1) H) n = sm (fun s => S s && ok j s) (fun s => sm (fun i => H i && ok i n) (fun i => CF ok (rmv S s) n (rmv H i)) 10) n := sm_ext n (fun _ _ => rfl) (fun t ht _ => CF_t (by rw [ss t ht]; exact s))
        rw [hP, sm_add, sm_swap, hT, if_neg (by rw [Bool.and_eq_true]; exact fun z => o z.2), Nat.add_zero]
    · rw [CF_f s, CF_f s, ih S H j hj h, if_neg (by rw [Bool.and_eq_true]; exact fun z => s z.1), Nat.add_zero]
      congr 1
      exact sm_ext n (fun _ _ => rfl) (fun t ht _ => (CF_f (by rw [ss t ht]; exact s)).symm)
