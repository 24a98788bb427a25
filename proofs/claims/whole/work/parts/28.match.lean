/-! giving heads to rooms: what bounds every giving -/
def rmv (H : Nat → Bool) (i : Nat) : Nat → Bool := fun z => H z && !decide (z = i)
def add (H : Nat → Bool) (i : Nat) : Nat → Bool := fun z => H z || decide (z = i)
def UF (rt : Nat → Nat → Nat) (S : Nat → Bool) : Nat → (Nat → Bool) → Nat → Nat → Prop
  | 0, _, c, v => c ≤ v
  | k + 1, H, c, v => UF rt S k H c v ∧ (S k = true → ∀ i, H i = true → UF rt S k (rmv H i) (c + rt i k) v)
theorem UF_S {rt : Nat → Nat → Nat} {S S' : Nat → Bool} : ∀ (n : Nat) (H : Nat → Bool) (c v : Nat), (∀ a, a < n → S a = S' a) → (UF rt S n H c v ↔ UF rt S' n H c v) := by
  intro n
  induction n with
  | zero => intro H c v _; exact Iff.rfl
  | succ n ih =>
    intro H c v h
    show (UF rt S n H c v ∧ (S n = true → ∀ i, H i = true → UF rt S n (rmv H i) (c + rt i n) v)) ↔ (UF rt S' n H c v ∧ (S' n = true → ∀ i, H i = true → UF rt S' n (rmv H i) (c + rt i n) v))
    rw [ih H c v (fun a ha => h a (by omega)), h n (by omega)]
    constructor
    · rintro ⟨a, b⟩; exact ⟨a, fun s i hi => (ih _ _ _ (fun a ha => h a (by omega))).mp (b s i hi)⟩
    · rintro ⟨a, b⟩; exact ⟨a, fun s i hi => (ih _ _ _ (fun a ha => h a (by omega))).mpr (b s i hi)⟩
theorem UF_rt {rt rt' : Nat → Nat → Nat} {S : Nat → Bool} : ∀ (n : Nat) (H : Nat → Bool) (c v : Nat), (∀ i a, H i = true → a < n → S a = true → rt i a = rt' i a) → (UF rt S n H c v ↔ UF rt' S n H c v) := by
  intro n
  induction n with
  | zero => intro H c v _; exact Iff.rfl
  | succ n ih =>
    intro H c v h
    show (UF rt S n H c v ∧ (S n = true → ∀ i, H i = true → UF rt S n (rmv H i) (c + rt i n) v)) ↔ (UF rt' S n H c v ∧ (S n = true → ∀ i, H i = true → UF rt' S n (rmv H i) (c + rt' i n) v))
    have k : ∀ i, ∀ z a, rmv H i z = true → a < n → S a = true → rt z a = rt' z a := fun i z a hz ha hs => h z a (by unfold rmv at hz; rw [Bool.and_eq_true] at hz; exact hz.1) (by omega) hs
    rw [ih H c v (fun i a hi ha hs => h i a hi (by omega) hs)]
    constructor
    · rintro ⟨a, b⟩; exact ⟨a, fun s i hi => by rw [← h i n hi (by omega) s]; exact (ih _ _ _ (k i)).mp (b s i hi)⟩
    · rintro ⟨a, b⟩; exact ⟨a, fun s i hi => by rw [h i n hi (by omega) s]; exact (ih _ _ _ (k i)).mpr (b s i hi)⟩
theorem UF_0 {rt : Nat → Nat → Nat} {S : Nat → Bool} : ∀ (n c v : Nat) (H : Nat → Bool), (∀ i, H i = false) → (UF rt S n H c v ↔ c ≤ v) := by
  intro n
  induction n with
  | zero => intro c v H _; exact Iff.rfl
  | succ n ih =>
    intro c v H h
    show (UF rt S n H c v ∧ (S n = true → ∀ i, H i = true → UF rt S n (rmv H i) (c + rt i n) v)) ↔ _
    rw [ih c v H h]
    constructor
    · exact fun a => a.1
    · exact fun a => ⟨a, fun _ i hi => by rw [h i] at hi; exact absurd hi (by decide)⟩
theorem UF_n {rt : Nat → Nat → Nat} {S : Nat → Bool} : ∀ (n c v : Nat) (H : Nat → Bool), (∀ a, a < n → S a = false) → (UF rt S n H c v ↔ c ≤ v) := by
  intro n
  induction n with
  | zero => intro c v H _; exact Iff.rfl
  | succ n ih =>
    intro c v H h
    show (UF rt S n H c v ∧ (S n = true → ∀ i, H i = true → UF rt S n (rmv H i) (c + rt i n) v)) ↔ _
    rw [ih c v H (fun a ha => h a (by omega)), h n (by omega)]
    constructor
    · exact fun a => a.1
    · exact fun a => ⟨a, fun z => absurd z (by decide)⟩
theorem rmv_add {H : Nat → Bool} {j : Nat} (h : H j = false) : rmv (add H j) j = H := by
  funext z
  unfold rmv add
  by_cases e : z = j
  · subst e; simp [h]
  · simp [e]
theorem rmv_add2 {H : Nat → Bool} {i j : Nat} (e : i ≠ j) : rmv (add H j) i = add (rmv H i) j := by
  funext z
  unfold rmv add
  by_cases e1 : z = j
  · subst e1
    have : ¬ z = i := fun q => e q.symm
    simp [this]
  · simp [e1]
theorem UF_add {rt : Nat → Nat → Nat} : ∀ (n : Nat) (S H : Nat → Bool) (j c v : Nat), H j = false → (UF rt S n (add H j) c v ↔ UF rt S n H c v ∧ ∀ s, s < n → S s = true → UF rt (rmv S s) n H (c + rt j s) v) := by
  intro n
  induction n with
  | zero =>
    intro S H j c v h
    exact ⟨fun a => ⟨a, fun s hs => absurd hs (by omega)⟩, fun a => a.1⟩
  | succ n ih =>
    intro S H j c v h
    show (UF rt S n (add H j) c v ∧ (S n = true → ∀ i, add H j i = true → UF rt S n (rmv (add H j) i) (c + rt i n) v)) ↔ ((UF rt S n H c v ∧ (S n = true → ∀ i, H i = true → UF rt S n (rmv H i) (c + rt i n) v)) ∧ ∀ s, s < n + 1 → S s = true → (UF rt (rmv S s) n H (c + rt j s) v ∧ (rmv S s n = true → ∀ i, H i = true → UF rt (rmv S s) n (rmv H i) (c + rt j s + rt i n) v)))
    have ne : ∀ i, H i = true → i ≠ j := fun i hi e => by rw [e, h] at hi; exact absurd hi (by decide)
    have rj : ∀ i, H i = true → rmv H i j = false := fun i hi => by unfold rmv; rw [h]; rfl
    have Sn : ∀ a, a < n → rmv S n a = S a := fun a ha => by unfold rmv; simp; omega
    have ss : ∀ s, s < n → rmv S s n = S n := fun s hs => by unfold rmv; simp; omega
    constructor
    · rintro ⟨a, b⟩
      have a' := (ih S H j c v h).mp a
      refine ⟨⟨a'.1, fun s i hi => ?_⟩, fun s hs s1 => ?_⟩
      · have := b s i (by unfold add; rw [hi]; rfl)
        rw [rmv_add2 (ne i hi)] at this
        exact ((ih S (rmv H i) j _ v (rj i hi)).mp this).1
      · by_cases e : s = n
        · subst e
          refine ⟨(UF_S s H _ v Sn).mpr ?_, fun q => ?_⟩
          · have := b s1 j (by unfold add; simp)
            rw [rmv_add h] at this
            exact this
          · unfold rmv at q; simp at q
        · refine ⟨a'.2 s (by omega) s1, fun q i hi => ?_⟩
          rw [ss s (by omega)] at q
          have := b q i (by unfold add; rw [hi]; rfl)
          rw [rmv_add2 (ne i hi)] at this
          have := ((ih S (rmv H i) j _ v (rj i hi)).mp this).2 s (by omega) s1
          rw [show c + rt j s + rt i n = c + rt i n + rt j s by omega]
          exact this
    · rintro ⟨⟨a, b⟩, d⟩
      refine ⟨(ih S H j c v h).mpr ⟨a, fun s hs s1 => (d s (by omega) s1).1⟩, fun s i hi => ?_⟩
      by_cases e : i = j
      · subst e
        rw [rmv_add h]
        exact (UF_S n H _ v Sn).mp (d n (by omega) s).1
      · have hi' : H i = true := by unfold add at hi; simpa [e] using hi
        rw [rmv_add2 e]
        refine (ih S (rmv H i) j _ v (rj i hi')).mpr ⟨b s i hi', fun t ht t1 => ?_⟩
        have := (d t (by omega) t1).2 (by rw [ss t ht]; exact s) i hi'
        rw [show c + rt i n + rt j t = c + rt j t + rt i n by omega]
        exact this
/-- x is the most that can be given -/
def VF (rt : Nat → Nat → Nat) (S : Nat → Bool) (n : Nat) (H : Nat → Bool) (x : Nat) : Prop := ∀ c v, c + x ≤ v ↔ UF rt S n H c v
theorem VF_u {rt : Nat → Nat → Nat} {S H : Nat → Bool} {n x y : Nat} (a : VF rt S n H x) (b : VF rt S n H y) : x = y := by
  have p := (b 0 x).mpr ((a 0 x).mp (by omega))
  have q := (a 0 y).mpr ((b 0 y).mp (by omega))
  omega
theorem rmv_id {H : Nat → Bool} {i : Nat} (h : H i = false) : rmv H i = H := by
  funext z
  unfold rmv
  by_cases e : z = i
  · subst e; simp [h]
  · simp [e]
theorem add_rmv {H : Nat → Bool} {i : Nat} (h : H i = true) : add (rmv H i) i = H := by
  funext z
  unfold add rmv
  by_cases e : z = i
  · subst e; simp [h]
  · simp [e]
