/-! the token from p on: where it begins, its sort, its end, its value -/
def tkB (b : Nat → Int32) (L p : Nat) : Nat := runF (sof b) L 4 L p
def tkS (b : Nat → Int32) (L p : Nat) : Int32 := if tkB b L p < L then (if sof b (tkB b L p) = 1 then 1 else if sof b (tkB b L p) = 2 then 2 else 3) else 0
def tkE (b : Nat → Int32) (L p : Nat) : Nat := if tkB b L p < L then (if sof b (tkB b L p) = 1 then runF (sof b) L 1 L (tkB b L p) else if sof b (tkB b L p) = 2 then runF (sof b) L 2 L (tkB b L p) else tkB b L p + 1) else tkB b L p
def tkV (b : Nat → Int32) (L p : Nat) : Int32 := if tkB b L p < L ∧ sof b (tkB b L p) = 2 then vlF b (tkE b L p - tkB b L p) (tkB b L p) 0 else 0
theorem run_fuel {so : Nat → Int32} {L : Nat} {c : Int32} : ∀ n m p, L ≤ p + n → L ≤ p + m → runF so L c n p = runF so L c m p := by
  intro n
  induction n with
  | zero =>
    intro m p h1 h2
    cases m with
    | zero => rfl
    | succ m =>
      show p = if p < L ∧ so p = c then runF so L c m (p + 1) else p
      rw [if_neg (fun z => by omega)]
  | succ n ih =>
    intro m p h1 h2
    cases m with
    | zero =>
      show (if p < L ∧ so p = c then runF so L c n (p + 1) else p) = p
      rw [if_neg (fun z => by omega)]
    | succ m =>
      show (if p < L ∧ so p = c then runF so L c n (p + 1) else p) = if p < L ∧ so p = c then runF so L c m (p + 1) else p
      by_cases z : p < L ∧ so p = c
      · rw [if_pos z, if_pos z, ih m (p + 1) (by omega) (by omega)]
      · rw [if_neg z, if_neg z]
