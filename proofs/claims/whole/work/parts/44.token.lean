/-! characters -/
def clsOK (x : Int32) : Bool := decide (0 ≤ x &&& 255) && ((decide (X7_within (x &&& 255) 97 122 = 0) == !decide (X3_sortOf x = 1)) && ((decide (X7_within (x &&& 255) 48 57 = 0) == !decide (X3_sortOf x = 2)) && ((decide (x &&& 255 = 32) == decide (X3_sortOf x = 4)) && ((decide (x &&& 255 = 59) == decide (X3_sortOf x = 3)) && ((decide (X3_sortOf x = 1) || decide (X3_sortOf x = 2) || decide (X3_sortOf x = 3) || decide (X3_sortOf x = 4) || decide (X3_sortOf x = 5)) && (!(decide (X3_sortOf x = 1) || decide (X3_sortOf x = 2)) || decide (x &&& 255 = x)))))))
theorem cls_dec : ∀ k, k < 256 → clsOK (nI k - 128) = true := by decide +kernel
theorem cls {x : Int32} (a : -128 ≤ x.toInt) (b : x.toInt ≤ 127) : clsOK x = true := by
  have e : x = nI (x.toInt + 128).toNat - 128 := by
    rw [ti_eq, show (128 : Int32) = nI 128 from rfl, pk_sub_toInt (by omega) (by omega)]
    omega
  rw [e]
  exact cls_dec _ (by omega)
/-- where a run of one sort of characters ends -/
def runF (so : Nat → Int32) (L : Nat) (c : Int32) : Nat → Nat → Nat
  | 0, p => p
  | n + 1, p => if p < L ∧ so p = c then runF so L c n (p + 1) else p
theorem run_le {so : Nat → Int32} {L : Nat} {c : Int32} : ∀ n p, p ≤ runF so L c n p := by
  intro n
  induction n with
  | zero => intro p; exact Nat.le_refl p
  | succ n ih =>
    intro p
    show p ≤ if p < L ∧ so p = c then runF so L c n (p + 1) else p
    by_cases z : p < L ∧ so p = c
    · rw [if_pos z]; have := ih (p + 1); omega
    · rw [if_neg z]; omega
theorem run_L {so : Nat → Int32} {L : Nat} {c : Int32} : ∀ n p, p ≤ L → runF so L c n p ≤ L := by
  intro n
  induction n with
  | zero => intro p h; exact h
  | succ n ih =>
    intro p h
    show (if p < L ∧ so p = c then runF so L c n (p + 1) else p) ≤ L
    by_cases z : p < L ∧ so p = c
    · rw [if_pos z]; exact ih (p + 1) (by omega)
    · rw [if_neg z]; exact h
theorem run_end {so : Nat → Int32} {L : Nat} {c : Int32} : ∀ n p, L ≤ p + n → ¬ (runF so L c n p < L ∧ so (runF so L c n p) = c) := by
  intro n
  induction n with
  | zero => intro p h z; have : p < L := z.1; omega
  | succ n ih =>
    intro p h
    have e : runF so L c (n + 1) p = if p < L ∧ so p = c then runF so L c n (p + 1) else p := rfl
    by_cases z : p < L ∧ so p = c
    · rw [e, if_pos z]; exact ih (p + 1) (by omega)
    · rw [e, if_neg z]; exact z
theorem run_in {so : Nat → Int32} {L : Nat} {c : Int32} : ∀ n p q, p ≤ q → q < runF so L c n p → q < L ∧ so q = c := by
  intro n
  induction n with
  | zero => intro p q a b; have : q < p := b; omega
  | succ n ih =>
    intro p q a b
    have e : runF so L c (n + 1) p = if p < L ∧ so p = c then runF so L c n (p + 1) else p := rfl
    by_cases z : p < L ∧ so p = c
    · rw [e, if_pos z] at b
      by_cases y : q = p
      · rw [y]; exact z
      · exact ih (p + 1) q (by omega) b
    · rw [e, if_neg z] at b; omega
