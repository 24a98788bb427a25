/-! the token from p on: where it begins, its sort, its end, its value -/
def tkB (b : Nat → Int32) (L p : Nat) : Nat := runF (sof b) L 4 L p
def tkS (b : Nat → Int32) (L p : Nat) : Int32 := if tkB b L p < L then (if sof b (tkB b L p) = 1 then 1 else if sof b (tkB b L p) = 2 then 2 else 3) else 0
def tkE (b : Nat → Int32) (L p : Nat) : Nat := if tkB b L p < L then (if sof b (tkB b L p) = 1 then runF (sof b) L 1 L (tkB b L p) else if sof b (tkB b L p) = 2 then runF (sof b) L 2 L (tkB b L p) else tkB b L p + 1) else tkB b L p
def tkV (b : Nat → Int32) (L p : Nat) : Int32 := if tkB b L p < L ∧ sof b (tkB b L p) = 2 then vlF b (tkE b L p - tkB b L p) (tkB b L p) 0 else 0
theorem run_fuel {so : Nat → Int32} {L : Nat} {c : Int32} : ∀ n m p, L ≤ p + n → L ≤ p + m → runF so L c n p = runF so L c m p := by
  intro n
  induction n with
  | zero =>
    intro m p h1 h2
    cases m with
    | zero => rfl
    | succ m =>
      show p = if p < L ∧ so p = c then runF so L c m (p + 1) else p
      rw [if_neg (fun z => by omega)]
  | succ n ih =>
    intro m p h1 h2
    cases m with
    | zero =>
      show (if p < L ∧ so p = c then runF so L c n (p + 1) else p) = p
      rw [if_neg (fun z => by omega)]
    | succ m =>
      show (if p < L ∧ so p = c then runF so L c n (p + 1) else p) = if p < L ∧ so p = c then runF so L c m (p + 1) else p
      by_cases z : p < L ∧ so p = c
      · rw [if_pos z, if_pos z, ih m (p + 1) (by omega) (by omega)]
      · rw [if_neg z, if_neg z]
theorem nx8 {b : Nat → Int32} {L fu : Nat} (hfu : 130 ≤ fu) : ∀ (k p n : Nat) (g : Hp), BY b L g → g 0 11 = nI p → p ≤ L → L ≤ p + k → k < n → ∃ g1, X8_next0_8 fu n g = some g1 ∧ g1 0 11 = nI (tkB b L p) ∧ g1 0 12 = nI (tkE b L p) ∧ g1 0 13 = tkS b L p ∧ g1 0 14 = tkV b L p ∧ rdS g g1 := by
  intro k
  induction k with
  | zero =>
    intro p n g hB e hp hk hn
    obtain ⟨m, rfl⟩ : ∃ m, n = m + 1 := ⟨n - 1, by omega⟩
    have pL : p = L := by omega
    have tb : tkB b L p = p := by
      unfold tkB
      rw [run_fuel L 0 p (by omega) (by omega)]; rfl
    rw [X8_next0_8, e, byM hB (by have := hB.2.1; omega), bnd_s, bnd_s, if_neg (show ¬ p < L by omega), if_neg (by decide), if_neg (by decide)]
    unfold tkE tkS tkV
    rw [tb, if_neg (show ¬ p < L by omega), if_neg (show ¬ p < L by omega), if_neg (fun z => by omega)]
    refine ⟨_, rfl, ?_, ?_, ?_, ?_, ((rdS.up (by omega)).tr (rdS.up (by omega))).tr (rdS.up (by omega))⟩
    · rw [up_nj (by decide), up_nj (by decide), up_nj (by decide)]; exact e
    · rw [up_nj (by decide), up_nj (by decide), up_eq]
    · rw [up_eq]
    · rw [up_nj (by decide), up_eq]
  | succ k ih =>
    intro p n g hB e hp hk hn
    obtain ⟨m, rfl⟩ : ∃ m, n = m + 1 := ⟨n - 1, by omega⟩
    have L120 := hB.2.1
    have tb1 : tkB b L p = if p < L ∧ sof b p = 4 then runF (sof b) L 4 k (p + 1) else p := by
      unfold tkB
      rw [run_fuel L (k + 1) p (by omega) (by omega)]; rfl
    rw [X8_next0_8, e, byM hB (by omega), bnd_s, bnd_s]
    by_cases z : p < L
    · rw [if_pos z]
      have c := cl1 (hB.2.2 p z).2
      by_cases y : sof b p = 4
      · rw [if_pos (c.2.2.1.mpr y), nI_1]
        have tb : tkB b L p = tkB b L (p + 1) := by
          rw [tb1, if_pos ⟨z, y⟩]
          unfold tkB
          exact run_fuel k L (p + 1) (by omega) (by omega)
        obtain ⟨g1, a1, a2, a3, a4, a5, a6⟩ := ih (p + 1) m (up g 0 11 (nI (p + 1))) (hB.rd (rdS.up (by omega))) up_eq (by omega) (by omega) (by omega)
        have eE : tkE b L p = tkE b L (p + 1) := by unfold tkE; rw [tb]
        have eS : tkS b L p = tkS b L (p + 1) := by unfold tkS; rw [tb]
        have eV : tkV b L p = tkV b L (p + 1) := by unfold tkV; rw [tb, eE]
        rw [tb, eE, eS, eV]
        exact ⟨g1, a1, a2, a3, a4, a5, (rdS.up (by omega)).tr a6⟩
      · have tb : tkB b L p = p := by rw [tb1, if_neg (fun q => y q.2)]
        have hB3 : ∀ s : Int32, BY b L (up (up (up g 0 12 (nI p)) 0 14 0) 0 13 s) := fun s => hB.rd (((rdS.up (by omega)).tr (rdS.up (by omega))).tr (rdS.up (by omega)))
        have r3 : ∀ s : Int32, rdS g (up (up (up g 0 12 (nI p)) 0 14 0) 0 13 s) := fun s => ((rdS.up (by omega)).tr (rdS.up (by omega))).tr (rdS.up (by omega))
        have g11 : ∀ s : Int32, up (up (up g 0 12 (nI p)) 0 14 0) 0 13 s 0 11 = nI p := fun s => by rw [up_nj (by decide), up_nj (by decide), up_nj (by decide)]; exact e
        have g12 : ∀ s : Int32, up (up (up g 0 12 (nI p)) 0 14 0) 0 13 s 0 12 = nI p := fun s => by rw [up_nj (by decide), up_nj (by decide), up_eq]
        have g14 : ∀ s : Int32, up (up (up g 0 12 (nI p)) 0 14 0) 0 13 s 0 14 = 0 := fun s => by rw [up_nj (by decide), up_eq]
        rw [if_neg (fun q => y (c.2.2.1.mp q)), if_pos c.2.2.2.2.1, w8]
        unfold tkE tkS tkV tkE
        rw [tb, if_pos z, if_pos z]
        by_cases y1 : sof b p = 1
        · rw [if_neg (fun q => (c.1.mp q) y1), if_pos y1, if_pos y1, if_neg (fun q => by have := q.2; rw [y1] at this; exact absurd this (by decide))]
          obtain ⟨g1, a1, a2, a3, a4⟩ := nx84 (fu := fu) L p fu (up (up (up g 0 12 (nI p)) 0 14 0) 0 13 1) (hB3 1) (g12 1) hp (by omega) (by omega)
          exact ⟨g1, a1, by rw [a3 11 (by decide)]; exact g11 1, a2, by rw [a3 13 (by decide), up_eq], by rw [a3 14 (by decide)]; exact g14 1, (r3 1).tr ⟨fun k x1 x2 x3 x4 => a3 k x2, a4⟩⟩
        rw [if_pos (c.1.mpr y1), if_neg y1, if_neg y1]
        by_cases y2 : sof b p = 2
        · rw [if_neg (fun q => (c.2.1.mp q) y2), if_pos y2, if_pos y2, if_pos ⟨z, y2⟩]
          obtain ⟨g1, a1, a2, a5, a3, a4⟩ := nx131 (fu := fu) L p fu (up (up (up g 0 12 (nI p)) 0 14 0) 0 13 2) (hB3 2) (g12 2) hp (by omega) (by omega)
          exact ⟨g1, a1, by rw [a3 11 (by decide) (by decide)]; exact g11 2, a2, by rw [a3 13 (by decide) (by decide), up_eq], by rw [a5, g14 2], (r3 2).tr ⟨fun k x1 x2 x3 x4 => a3 k x2 x4, a4⟩⟩
        rw [if_pos (c.2.1.mpr y2), if_neg y2, if_neg y2, if_neg (fun q => y2 q.2), g12 3, nI_1]
        exact ⟨_, rfl, by rw [up_nj (by decide)]; exact g11 3, up_eq, by rw [up_nj (by decide), up_eq], by rw [up_nj (by decide)]; exact g14 3, (r3 3).tr (rdS.up (by omega))⟩
    · have tb : tkB b L p = p := by rw [tb1, if_neg (fun q => z q.1)]
      rw [if_neg z, if_neg (by decide), if_neg (by decide)]
      unfold tkE tkS tkV
      rw [tb, if_neg z, if_neg z, if_neg (fun q => z q.1)]
      refine ⟨_, rfl, ?_, ?_, ?_, ?_, ((rdS.up (by omega)).tr (rdS.up (by omega))).tr (rdS.up (by omega))⟩
      · rw [up_nj (by decide), up_nj (by decide), up_nj (by decide)]; exact e
      · rw [up_nj (by decide), up_nj (by decide), up_eq]
      · rw [up_eq]
      · rw [up_nj (by decide), up_eq]
