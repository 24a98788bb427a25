/-- the reference's tape -/
def BY (b : Nat → Int32) (L : Nat) (g : Hp) : Prop := g 0 10 = nI L ∧ L ≤ 120 ∧ ∀ i, i < L → g 6 i = b i &&& 255 ∧ clsOK (b i) = true
def sof (b : Nat → Int32) : Nat → Int32 := fun i => X3_sortOf (b i)
theorem byM {b : Nat → Int32} {L : Nat} {g : Hp} (h : BY b L g) {p : Nat} (hp : p ≤ 1000) : X8_byteAt (nI p) g = some (if p < L then b p &&& 255 else -1) := by
  obtain ⟨a1, a2, a3⟩ := h
  unfold X8_byteAt
  rw [a1]
  by_cases z : p < L
  · rw [if_neg (nI_ge z (by omega)), ck_nI (by omega) (by decide), cl_nI (by omega), (a3 p z).1, if_pos z]
  · rw [if_pos (nI_le (by omega) (by omega)), if_neg z]
theorem cl1 {x : Int32} (h : clsOK x = true) : (X7_within (x &&& 255) 97 122 = 0 ↔ ¬ X3_sortOf x = 1) ∧ (X7_within (x &&& 255) 48 57 = 0 ↔ ¬ X3_sortOf x = 2) ∧ (x &&& 255 = 32 ↔ X3_sortOf x = 4) ∧ (x &&& 255 = 59 ↔ X3_sortOf x = 3) ∧ 0 ≤ x &&& 255 ∧ (X3_sortOf x = 1 ∨ X3_sortOf x = 2 → x &&& 255 = x) := by
  unfold clsOK at h
  simp only [Bool.and_eq_true, Bool.or_eq_true, beq_iff_eq, decide_eq_true_eq, decide_eq_decide, Bool.not_eq_true', decide_eq_false_iff_not, Bool.or_eq_false_iff] at h
  obtain ⟨h0, h1, h2, h3, h4, h5, h6⟩ := h
  refine ⟨?_, ?_, h3, h4, h0, ?_⟩
  · rw [← decide_eq_true_iff (p := X7_within (x &&& 255) 97 122 = 0), h1]; simp
  · rw [← decide_eq_true_iff (p := X7_within (x &&& 255) 48 57 = 0), h2]; simp
  · intro z
    rcases h6 with y | y
    · rcases z with z | z
      · exact absurd z y.1
      · exact absurd z y.2
    · exact y
