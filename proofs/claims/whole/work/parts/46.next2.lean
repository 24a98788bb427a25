/-- a number's value, read from q on -/
def vlF (b : Nat → Int32) : Nat → Nat → Int32 → Int32
  | 0, _, v => v
  | n + 1, q, v => vlF b n (q + 1) (jmin 1000 (10 * v + b q - 48))
/-- the same but for the four cells of the reading -/
def rdS (g g1 : Hp) : Prop := (∀ k, k ≠ 11 → k ≠ 12 → k ≠ 13 → k ≠ 14 → g1 0 k = g 0 k) ∧ (∀ c, c ≠ 0 → g1 c = g c)
theorem BY.rd {b : Nat → Int32} {L : Nat} {g g1 : Hp} (h : BY b L g) (s : rdS g g1) : BY b L g1 := ⟨by rw [s.1 10 (by decide) (by decide) (by decide) (by decide)]; exact h.1, h.2.1, fun i hi => by rw [s.2 6 (by decide)]; exact h.2.2 i hi⟩
theorem rdS.up {g : Hp} {k : Nat} {v : Int32} (hk : k = 11 ∨ k = 12 ∨ k = 13 ∨ k = 14) : rdS g (up g 0 k v) := ⟨fun j a b c d => up_nj (by omega), fun c hc => up_ne hc⟩
theorem rdS.tr {g g1 g2 : Hp} (a : rdS g g1) (b : rdS g1 g2) : rdS g g2 := ⟨fun k x1 x2 x3 x4 => by rw [b.1 k x1 x2 x3 x4, a.1 k x1 x2 x3 x4], fun c hc => by rw [b.2 c hc, a.2 c hc]⟩
theorem nx84 {b : Nat → Int32} {L fu : Nat} : ∀ (k p n : Nat) (g : Hp), BY b L g → g 0 12 = nI p → p ≤ L → L ≤ p + k → k < n → ∃ g1, X8_next0_84 fu n g = some g1 ∧ g1 0 12 = nI (runF (sof b) L 1 k p) ∧ (∀ j, j ≠ 12 → g1 0 j = g 0 j) ∧ (∀ c, c ≠ 0 → g1 c = g c) := by
  intro k
  induction k with
  | zero =>
    intro p n g hB e hp hk hn
    obtain ⟨m, rfl⟩ : ∃ m, n = m + 1 := ⟨n - 1, by omega⟩
    rw [X8_next0_84, e, byM hB (by have := hB.2.1; omega), bnd_s, if_neg (show ¬ p < L by omega), if_pos (by decide)]
    exact ⟨g, rfl, e, fun _ _ => rfl, fun _ _ => rfl⟩
  | succ k ih =>
    intro p n g hB e hp hk hn
    obtain ⟨m, rfl⟩ : ∃ m, n = m + 1 := ⟨n - 1, by omega⟩
    have er : runF (sof b) L 1 (k + 1) p = if p < L ∧ sof b p = 1 then runF (sof b) L 1 k (p + 1) else p := rfl
    rw [X8_next0_84, e, byM hB (by have := hB.2.1; omega), bnd_s, w8, er]
    by_cases z : p < L
    · rw [if_pos z]
      have c := cl1 (hB.2.2 p z).2
      by_cases y : sof b p = 1
      · rw [if_neg (fun q => (c.1.mp q) y), if_pos ⟨z, y⟩, nI_1]
        have hB1 : BY b L (up g 0 12 (nI (p + 1))) := hB.rd (rdS.up (by omega))
        obtain ⟨g1, a1, a2, a3, a4⟩ := ih (p + 1) m (up g 0 12 (nI (p + 1))) hB1 up_eq (by omega) (by omega) (by omega)
        exact ⟨g1, a1, a2, fun j hj => by rw [a3 j hj, up_nj hj], fun c hc => by rw [a4 c hc, up_ne hc]⟩
      · rw [if_pos (c.1.mpr y), if_neg (fun q => y q.2)]
        exact ⟨g, rfl, e, fun _ _ => rfl, fun _ _ => rfl⟩
    · rw [if_neg z, if_pos (by decide), if_neg (fun q => z q.1)]
      exact ⟨g, rfl, e, fun _ _ => rfl, fun _ _ => rfl⟩
theorem nx131 {b : Nat → Int32} {L fu : Nat} : ∀ (k p n : Nat) (g : Hp), BY b L g → g 0 12 = nI p → p ≤ L → L ≤ p + k → k < n → ∃ g1, X8_next0_131 fu n g = some g1 ∧ g1 0 12 = nI (runF (sof b) L 2 k p) ∧ g1 0 14 = vlF b (runF (sof b) L 2 k p - p) p (g 0 14) ∧ (∀ j, j ≠ 12 → j ≠ 14 → g1 0 j = g 0 j) ∧ (∀ c, c ≠ 0 → g1 c = g c) := by
  intro k
  induction k with
  | zero =>
    intro p n g hB e hp hk hn
    obtain ⟨m, rfl⟩ : ∃ m, n = m + 1 := ⟨n - 1, by omega⟩
    rw [X8_next0_131, e, byM hB (by have := hB.2.1; omega), bnd_s, if_neg (show ¬ p < L by omega), if_pos (by decide)]
    refine ⟨g, rfl, e, ?_, fun _ _ _ => rfl, fun _ _ => rfl⟩
    show g 0 14 = vlF b (p - p) p (g 0 14)
    rw [Nat.sub_self]; rfl
  | succ k ih =>
    intro p n g hB e hp hk hn
    obtain ⟨m, rfl⟩ : ∃ m, n = m + 1 := ⟨n - 1, by omega⟩
    have er : runF (sof b) L 2 (k + 1) p = if p < L ∧ sof b p = 2 then runF (sof b) L 2 k (p + 1) else p := rfl
    have stop : ∃ g1, some g = some g1 ∧ g1 0 12 = nI p ∧ g1 0 14 = vlF b (p - p) p (g 0 14) ∧ (∀ j, j ≠ 12 → j ≠ 14 → g1 0 j = g 0 j) ∧ (∀ c, c ≠ 0 → g1 c = g c) := ⟨g, rfl, e, by rw [Nat.sub_self]; rfl, fun _ _ _ => rfl, fun _ _ => rfl⟩
    rw [X8_next0_131, e, byM hB (by have := hB.2.1; omega), bnd_s, bnd_s, w8, er]
    by_cases z : p < L
    · rw [if_pos z]
      have c := cl1 (hB.2.2 p z).2
      by_cases y : sof b p = 2
      · rw [if_neg (fun q => (c.2.1.mp q) y), if_pos ⟨z, y⟩, up_nj (by decide), e, nI_1, c.2.2.2.2.2 (Or.inr y)]
        have hB1 : BY b L (up (up g 0 14 (jmin 1000 (10 * g 0 14 + b p - 48))) 0 12 (nI (p + 1))) := hB.rd ((rdS.up (by omega)).tr (rdS.up (by omega)))
        obtain ⟨g1, a1, a2, a5, a3, a4⟩ := ih (p + 1) m (up (up g 0 14 (jmin 1000 (10 * g 0 14 + b p - 48))) 0 12 (nI (p + 1))) hB1 up_eq (by omega) (by omega) (by omega)
        refine ⟨g1, a1, a2, ?_, fun j hj hj2 => by rw [a3 j hj hj2, up_nj hj, up_nj hj2], fun c hc => by rw [a4 c hc, up_ne hc, up_ne hc]⟩
        rw [a5, up_nj (by decide), up_eq]
        have := run_le (so := sof b) (L := L) (c := 2) k (p + 1)
        rw [show runF (sof b) L 2 k (p + 1) - p = (runF (sof b) L 2 k (p + 1) - (p + 1)) + 1 by omega]
        rfl
      · rw [if_pos (c.2.1.mpr y), if_neg (fun q => y q.2)]
        exact stop
    · rw [if_neg z, if_pos (by decide), if_neg (fun q => z q.1)]
      exact stop
