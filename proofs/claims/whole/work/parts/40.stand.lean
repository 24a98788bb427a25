/-! who stands -/
def hU (u : Nat) : Nat → Bool := fun i => decide (i < 10) && !u.testBit i
theorem hU_or {u i : Nat} : hU (u ||| 2 ^ i) = rmv (hU u) i := by
  funext z
  unfold hU rmv
  rw [Nat.testBit_or, Nat.testBit_two_pow]
  by_cases e : z = i
  · subst e; simp
  · have : ¬ i = z := fun q => e q.symm
    simp [e, this]
def SF (F : Nat) : Nat → Bool := fun a => decide (5 - a < F)
def stQ (ok : Nat → Nat → Bool) (F a f u : Nat) : Nat → Bool := fun j => decide (f ≤ a) && (decide (a < F) && (hU u j && (ok j (5 - a) && decide (0 < CF ok (rmv (SF F) (5 - a)) (6 - f) (rmv (hU u) j)))))
def cQ (ok : Nat → Nat → Bool) (F a f u i : Nat) : Nat → Bool := fun j => (hU u i && ok i (5 - f)) && (if f = a then (decide (j = i) && decide (0 < CF ok (SF F) (5 - f) (hU (u ||| 2 ^ i)))) else stQ ok F a (f + 1) (u ||| 2 ^ i) j)
def anyR (P : Nat → Nat → Bool) (i : Nat) : Nat → Nat → Bool
  | 0, _ => false
  | e + 1, j => P i j || anyR P (i + 1) e j
theorem anyR_s {P : Nat → Nat → Bool} {j : Nat} : ∀ (e i : Nat), anyR P i e j = true ↔ ∃ z, i ≤ z ∧ z < i + e ∧ P z j = true := by
  intro e
  induction e with
  | zero => intro i; exact ⟨fun h => absurd (show false = true from h) (by decide), fun ⟨z, a, b, _⟩ => by omega⟩
  | succ e ih =>
    intro i
    show (P i j || anyR P (i + 1) e j) = true ↔ _
    rw [Bool.or_eq_true, ih (i + 1)]
    constructor
    · rintro (h | ⟨z, a, b, c⟩)
      · exact ⟨i, by omega, by omega, h⟩
      · exact ⟨z, by omega, by omega, c⟩
    · rintro ⟨z, a, b, c⟩
      by_cases q : z = i
      · subst q; exact Or.inl c
      · exact Or.inr ⟨z, by omega, by omega, c⟩
theorem rmv_comm (H : Nat → Bool) (i j : Nat) : rmv (rmv H i) j = rmv (rmv H j) i := by
  funext z
  unfold rmv
  cases H z <;> cases decide (z = i) <;> cases decide (z = j) <;> rfl
theorem stand_eq {ok : Nat → Nat → Bool} {F a f u np j : Nat} (hF : F ≤ 6) (hf : f < F) (np1 : np ≤ 10) (hok : ∀ i b, ok i b = true → i < np) : anyR (cQ ok F a f u) 0 np j = stQ ok F a f u j := by
  have key : anyR (cQ ok F a f u) 0 np j = true ↔ stQ ok F a f u j = true := by
    rw [anyR_s]
    by_cases fa : f = a
    · subst fa
      have nn : ¬ rmv (SF F) (5 - f) (5 - f) = true := by unfold rmv; simp
      have Sn : ∀ x, x < 5 - f → rmv (SF F) (5 - f) x = SF F x := fun x hx => by unfold rmv; simp; omega
      have ce : CF ok (rmv (SF F) (5 - f)) (6 - f) (rmv (hU u) j) = CF ok (SF F) (5 - f) (hU (u ||| 2 ^ j)) := by
        rw [show 6 - f = (5 - f) + 1 by omega, CF_f nn, CF_S _ _ Sn, hU_or]
      unfold stQ cQ
      rw [ce]
      simp only [if_pos, Bool.and_eq_true, decide_eq_true_eq]
      constructor
      · rintro ⟨z, _, b, ⟨c1, c2⟩, rfl, d⟩
        exact ⟨by omega, hf, c1, c2, d⟩
      · rintro ⟨_, _, c1, c2, d⟩
        exact ⟨j, by omega, by have := hok j _ c2; omega, ⟨c1, c2⟩, rfl, d⟩
    · unfold cQ
      simp only [if_neg fa]
      unfold stQ
      simp only [Bool.and_eq_true, decide_eq_true_eq]
      constructor
      · rintro ⟨z, _, b, ⟨c1, c2⟩, d1, d2, d3, d4, d5⟩
        refine ⟨by omega, d2, ?_, d4, ?_⟩
        · rw [hU_or] at d3
          unfold rmv at d3
          rw [Bool.and_eq_true] at d3
          exact d3.1
        · have s : rmv (SF F) (5 - a) (5 - f) = true := by unfold rmv SF; simp; omega
          rw [show 6 - f = (5 - f) + 1 by omega, CF_t s, sm_pos]
          refine ⟨z, by omega, ?_, ?_⟩
          · rw [Bool.and_eq_true]
            refine ⟨?_, c2⟩
            unfold rmv
            rw [c1, Bool.true_and]
            rw [hU_or] at d3
            unfold rmv at d3
            rw [Bool.and_eq_true] at d3
            have := d3.2
            simp at this
            simp
            exact fun q => this q.symm
          · rw [hU_or, show 6 - (f + 1) = 5 - f by omega] at d5
            rw [rmv_comm]; exact d5
      · rintro ⟨e1, e2, e3, e4, e5⟩
        have s : rmv (SF F) (5 - a) (5 - f) = true := by unfold rmv SF; simp; omega
        rw [show 6 - f = (5 - f) + 1 by omega, CF_t s, sm_pos] at e5
        obtain ⟨z, z1, z2, z3⟩ := e5
        rw [Bool.and_eq_true] at z2
        have z4 := z2.1
        unfold rmv at z4
        rw [Bool.and_eq_true] at z4
        refine ⟨z, by omega, by have := hok z _ z2.2; omega, ⟨z4.1, z2.2⟩, by omega, e2, ?_, e4, ?_⟩
        · rw [hU_or]
          unfold rmv
          rw [e3, Bool.true_and]
          have := z4.2
          simp at this
          simp
          exact fun q => this q.symm
        · rw [hU_or, show 6 - (f + 1) = 5 - f by omega, rmv_comm]; exact z3
  cases h1 : anyR (cQ ok F a f u) 0 np j <;> cases h2 : stQ ok F a f u j
  · rfl
  · exact absurd (key.mpr h2) (by rw [h1]; decide)
  · exact absurd (key.mp h1) (by rw [h2]; decide)
  · rfl
