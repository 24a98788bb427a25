/-! numbers -/
theorem ti_le {x y : Int32} : x ≤ y ↔ x.toInt ≤ y.toInt := Int32.le_iff_toInt_le
theorem ti_lt {x y : Int32} : x < y ↔ x.toInt < y.toInt := Int32.lt_iff_toInt_lt
theorem ti_eq {x y : Int32} : x = y ↔ x.toInt = y.toInt := Int32.toInt_inj.symm
theorem ti_bm {z : Int} (h1 : -2147483648 ≤ z) (h2 : z < 2147483648) : z.bmod (2 ^ 32) = z := by
  rw [Int.bmod_def]
  split <;> omega
theorem ti_add {x y : Int32} (h1 : -2147483648 ≤ x.toInt + y.toInt) (h2 : x.toInt + y.toInt < 2147483648) : (x + y).toInt = x.toInt + y.toInt := by
  rw [Int32.toInt_add]; exact ti_bm h1 h2
theorem ti_sub {x y : Int32} (h1 : -2147483648 ≤ x.toInt - y.toInt) (h2 : x.toInt - y.toInt < 2147483648) : (x - y).toInt = x.toInt - y.toInt := by
  rw [Int32.toInt_sub]; exact ti_bm h1 h2
theorem ti_mul {x y : Int32} (h1 : -2147483648 ≤ x.toInt * y.toInt) (h2 : x.toInt * y.toInt < 2147483648) : (x * y).toInt = x.toInt * y.toInt := by
  rw [Int32.toInt_mul]; exact ti_bm h1 h2
theorem ti_nI {n : Nat} (h : n < 2147483648) : (nI n).toInt = (n : Int) := nI_toInt (by omega)
theorem ti_of {x : Int32} (h : 0 ≤ x.toInt) : x = nI x.toInt.toNat := by
  obtain ⟨j, hj, e⟩ := nI_of (x := x) (by rw [ti_lt]; have : (0 : Int32).toInt = 0 := rfl; omega)
  rw [e, ti_nI (by omega)]; rfl
theorem ti_ex {x : Int32} {b : Nat} (h : 0 ≤ x.toInt) (h2 : x.toInt ≤ b) : ∃ j : Nat, j ≤ b ∧ x = nI j := ⟨x.toInt.toNat, by omega, ti_of h⟩
theorem cl_nI {n : Nat} (h : n < 2147483648) : (nI n).toNatClampNeg = n := nI_clamp (by omega)
theorem inR_nI {n N : Nat} (h : n < N) (hN : N < 2147483648) : inR (nI n) N = true := by
  unfold inR
  rw [Bool.and_eq_true, decide_eq_true_eq, decide_eq_true_eq, cl_nI (by omega), ti_le, ti_nI (by omega)]
  exact ⟨by show (0 : Int) ≤ _; omega, h⟩
theorem chk_t {α : Type} {x : Option α} : chk true x = x := rfl
theorem bnd_s {α ρ : Type} {a : α} {k : α → Option ρ} : bnd (some a) k = k a := rfl
theorem ck_nI {α : Type} {n N : Nat} {x : Option α} (h : n < N) (hN : N < 2147483648) : chk (inR (nI n) N) x = x := by rw [inR_nI h hN]; rfl
/-! reading behind a change -/
theorem up_ne {h : Hp} {k i q : Nat} {v : Int32} (hq : q ≠ k) : up h k i v q = h q := by unfold up; rw [if_neg hq]
theorem up_at {h : Hp} {k i : Nat} {v : Int32} : up h k i v k = upd (h k) i v := by unfold up; rw [if_pos rfl]
theorem up_eq {h : Hp} {k i : Nat} {v : Int32} : up h k i v k i = v := by rw [up_at]; unfold upd; rw [if_pos rfl]
theorem up_ni {h : Hp} {k i q j : Nat} {v : Int32} (hj : ¬ (q = k ∧ j = i)) : up h k i v q j = h q j := by
  by_cases hq : q = k
  · subst hq
    rw [up_at]; unfold upd; rw [if_neg (fun e => hj ⟨rfl, e⟩)]
  · rw [up_ne hq]
theorem upA_at {h : Hp} {k : Nat} {f : Nat → Int32} : upA h k f k = f := by unfold upA; rw [if_pos rfl]
theorem upA_ne {h : Hp} {k q : Nat} {f : Nat → Int32} (hq : q ≠ k) : upA h k f q = h q := by unfold upA; rw [if_neg hq]
/-! within -/
theorem w8 : X8_within = X7_within := rfl
theorem wr (x a b : Int32) : (X7_within x a b = 0 ∧ ¬ (a.toInt ≤ x.toInt ∧ x.toInt ≤ b.toInt)) ∨ (X7_within x a b = 1 ∧ a.toInt ≤ x.toInt ∧ x.toInt ≤ b.toInt) := by
  unfold X7_within
  by_cases h1 : x < a
  · left; rw [if_pos h1]; rw [ti_lt] at h1; exact ⟨rfl, by omega⟩
  · rw [if_neg h1]
    by_cases h2 : b < x
    · left; rw [if_pos h2]; rw [ti_lt] at h2; exact ⟨rfl, by omega⟩
    · right; rw [if_neg h2]; rw [ti_lt] at h1 h2; exact ⟨rfl, by omega, by omega⟩
/-- an index from 0 on: outside, or a number -/
theorem wn (x : Int32) {M : Int32} (n : Nat) (hM : M.toInt = (n : Int) - 1) (hn : n < 2147483648) : (X7_within x 0 M = 0 ∧ ∀ p, p < n → x ≠ nI p) ∨ (∃ p, p < n ∧ x = nI p ∧ X7_within x 0 M = 1) := by
  have h0 : (0 : Int32).toInt = 0 := rfl
  rcases wr x 0 M with ⟨a, b⟩ | ⟨a, b, c⟩
  · left; refine ⟨a, fun p hp e => b ?_⟩
    rw [e, ti_nI (by omega)]; omega
  · right; exact ⟨x.toInt.toNat, by omega, ti_of (by omega), a⟩
/-! the layout: field f, place i of a house (X: cell b + f; M: place ix f i of a row) -/
def lnH (f : Nat) : Nat := ([0, 10, 10, 10, 10, 6, 6, 6, 4, 40, 10] : List Nat).getD f 0
def vl (f i : Nat) : Prop := (f = 0 ∧ 10 ≤ i ∧ i ≤ 14) ∨ (1 ≤ f ∧ f ≤ 10 ∧ i < lnH f)
def ix (f i : Nat) : Nat := match f with
  | 0 => ([2, 3, 0, 1, 4] : List Nat).getD (i - 10) 0
  | 1 => 33 + 4 * i
  | 2 => 34 + 4 * i
  | 3 => 35 + 4 * i
  | 4 => 36 + 4 * i
  | 5 => 15 + i
  | 6 => 21 + i
  | 7 => 27 + i
  | 8 => 73 + i
  | 9 => 77 + i
  | _ => 5 + i
theorem vl_b {f i : Nat} (h : vl f i) : f < 11 ∧ i < 40 := by
  rcases h with ⟨rfl, a, b⟩ | ⟨a, b, c⟩
  · omega
  · refine ⟨by omega, ?_⟩
    have : ∀ f, f < 11 → lnH f ≤ 40 := by decide
    have := this f (by omega)
    omega
theorem vl_dec (f i : Nat) : vl f i ↔ (decide (f = 0 ∧ 10 ≤ i ∧ i ≤ 14) || decide (1 ≤ f ∧ f ≤ 10 ∧ i < lnH f)) = true := by
  unfold vl; simp
/-- which field and place a place of a row is -/
def jxT : List (Nat × Nat) := (List.range 11).flatMap (fun f => ((List.range 40).filter (fun i => decide (f = 0 ∧ 10 ≤ i ∧ i ≤ 14) || decide (1 ≤ f ∧ f ≤ 10 ∧ i < lnH f))).map (fun i => (f, i)))
theorem ix_inj {f i f1 i1 : Nat} (h : vl f i) (h1 : vl f1 i1) (e : ix f i = ix f1 i1) : f = f1 ∧ i = i1 := by
  have key : ∀ f, f < 11 → ∀ i, i < 40 → (decide (f = 0 ∧ 10 ≤ i ∧ i ≤ 14) || decide (1 ≤ f ∧ f ≤ 10 ∧ i < lnH f)) = true → jxT.find? (fun q => ix q.1 q.2 == ix f i) = some (f, i) := by decide +kernel
  have a := key f (vl_b h).1 i (vl_b h).2 ((vl_dec f i).mp h)
  have b := key f1 (vl_b h1).1 i1 (vl_b h1).2 ((vl_dec f1 i1).mp h1)
  rw [e, b] at a
  injection a with a
  injection a with a1 a2
  exact ⟨a1.symm, a2.symm⟩
theorem ix_lt {f i : Nat} (h : vl f i) : ix f i < 117 := by
  have key : ∀ f, f < 11 → ∀ i, i < 40 → (decide (f = 0 ∧ 10 ≤ i ∧ i ≤ 14) || decide (1 ≤ f ∧ f ≤ 10 ∧ i < lnH f)) = true → ix f i < 117 := by decide +kernel
  exact key f (vl_b h).1 i (vl_b h).2 ((vl_dec f i).mp h)
/-- every place of a row is a field's -/
theorem ix_all : ∀ k, k < 117 → ∃ f i, vl f i ∧ ix f i = k := by
  have key : ∀ k, k < 117 → (jxT.any (fun q => (decide (q.1 = 0 ∧ 10 ≤ q.2 ∧ q.2 ≤ 14) || decide (1 ≤ q.1 ∧ q.1 ≤ 10 ∧ q.2 < lnH q.1)) && (ix q.1 q.2 == k))) = true := by decide +kernel
  intro k hk
  obtain ⟨q, -, hq⟩ := List.any_eq_true.mp (key k hk)
  rw [Bool.and_eq_true] at hq
  exact ⟨q.1, q.2, (vl_dec _ _).mpr hq.1, by simpa using hq.2⟩
/-- a house (cells from b on) and a row (cell k) hold the same -/
def HR (b k : Nat) (hx hm : Hp) : Prop := ∀ f i, vl f i → hm k (ix f i) = hx (b + f) i
def loH (f i : Nat) : Int := match f with
  | 0 => if i = 13 then 1 else if i = 14 then -2147483648 else 0
  | 4 => -1
  | 7 => -1
  | 10 => -1
  | _ => 0
def hiH (f i : Nat) : Int := match f with
  | 0 => if i = 10 then 10 else if i = 11 then 4 else if i = 12 then 9999 else if i = 13 then 20 else 2147483647
  | 1 => 6
  | 2 => 255
  | 3 => 60
  | 4 => 5
  | 5 => 255
  | 6 => 99
  | 7 => 5
  | 8 => 9999
  | 9 => 63
  | _ => 9
/-- bounds of a house -/
def HI (b : Nat) (h : Hp) : Prop := (∀ f i, vl f i → loH f i ≤ (h (b + f) i).toInt ∧ (h (b + f) i).toInt ≤ hiH f i) ∧
  (∀ v : Nat, v < 4 → (h (b + 8) v).toInt ≤ (h b 12).toInt) ∧
  (∀ v p : Nat, v < 4 → p < 10 → ((h b 11).toInt ≤ (v : Int) ∨ (h b 10).toInt ≤ (p : Int)) → h (b + 9) (10 * v + p) = 0) ∧
  (∀ s : Nat, s < 10 → (h (b + 10) s).toInt < (h b 10).toInt)
def TR (hx hm : Hp) : Prop := hx 40 1 = hm 0 10 ∧ 0 ≤ (hm 0 10).toInt ∧ (hm 0 10).toInt ≤ 120 ∧ ∀ i : Nat, (i : Int) < (hm 0 10).toInt → hm 6 i = hx 41 i &&& 255 ∧ -128 ≤ (hx 41 i).toInt ∧ (hx 41 i).toInt ≤ 127
def SR (hx hm : Hp) : Prop := ∀ s, s < 4 → hx (47 + 2 * s) 1 = hm 9 s ∧ hx (47 + 2 * s) 2 = hm 10 s ∧ (hm 9 s = 0 ∨ hm 9 s = 8 ∨ hm 9 s = 16 ∨ hm 9 s = 32) ∧ 0 ≤ (hm 10 s).toInt ∧ (hm 10 s).toInt ≤ 40 ∧ (∀ i, i < 40 → hx (48 + 2 * s) i = hm 11 (40 * s + i))
def CR (hx hm : Hp) : Prop := (∀ i, i < 7 → hm 4 (i + 1) = hx 55 i) ∧ hm 4 0 = hx 55 0 + hx 55 1 + hx 55 2 + hx 55 3 + hx 55 4 + hx 55 5 + hx 55 6
def KR (hx hm : Hp) : Prop := hx 0 9 = hm 0 3 ∧ (hx 0 9 = 0 ∨ (hx 0 9 = 1 ∧ HR 12 2 hx hm ∧ HI 12 hx))
def R (hx hm : Hp) : Prop := HR 1 1 hx hm ∧ HI 1 hx ∧ KR hx hm ∧ TR hx hm ∧ SR hx hm ∧ CR hx hm
/-- the same in all that is told: a house's cells -/
def sameH (b : Nat) (h h1 : Hp) : Prop := ∀ f, f ≤ 10 → h1 (b + f) = h (b + f)
theorem HR.frame {b k : Nat} {hx hm hx1 hm1 : Hp} (h : HR b k hx hm) (a : sameH b hx hx1) (c : hm1 k = hm k) : HR b k hx1 hm1 := fun f i v => by
  rw [c, a f (by have := (vl_b v).1; omega)]; exact h f i v
theorem HI.frame {b : Nat} {hx hx1 : Hp} (h : HI b hx) (a : sameH b hx hx1) : HI b hx1 := by
  have a0 : hx1 b = hx b := a 0 (by omega)
  refine ⟨fun f i v => by rw [a f (by have := (vl_b v).1; omega)]; exact h.1 f i v, fun v hv => by rw [a 8 (by omega), a0]; exact h.2.1 v hv, fun v p hv hp q => by rw [a0] at q; rw [a 9 (by omega)]; exact h.2.2.1 v p hv hp q, fun s hs => by rw [a 10 (by omega), a0]; exact h.2.2.2 s hs⟩
def cX (k : Nat) : Prop := k ≤ 22 ∨ k = 40 ∨ k = 41 ∨ (47 ≤ k ∧ k ≤ 55)
def cM (k : Nat) : Prop := k = 1 ∨ k = 2 ∨ k = 4 ∨ k = 6 ∨ k = 9 ∨ k = 10 ∨ k = 11
/-- R looks at these cells alone -/
def fX (h h1 : Hp) : Prop := ∀ k, cX k → h1 k = h k
def fM (h h1 : Hp) : Prop := (∀ k, cM k → h1 k = h k) ∧ h1 0 3 = h 0 3 ∧ h1 0 10 = h 0 10
theorem fX.rf {h : Hp} : fX h h := fun _ _ => rfl
theorem fM.rf {h : Hp} : fM h h := ⟨fun _ _ => rfl, rfl, rfl⟩
theorem fX.tr {h h1 h2 : Hp} (a : fX h h1) (b : fX h1 h2) : fX h h2 := fun k c => (b k c).trans (a k c)
theorem fM.tr {h h1 h2 : Hp} (a : fM h h1) (b : fM h1 h2) : fM h h2 := ⟨fun k c => (b.1 k c).trans (a.1 k c), b.2.1.trans a.2.1, b.2.2.trans a.2.2⟩
theorem R.frame {hx hm hx1 hm1 : Hp} (h : R hx hm) (a : fX hx hx1) (b : fM hm hm1) : R hx1 hm1 := by
  obtain ⟨h1, h2, h3, h4, h5, h6⟩ := h
  have s1 : sameH 1 hx hx1 := fun f hf => a _ (Or.inl (by omega))
  have s2 : sameH 12 hx hx1 := fun f hf => a _ (Or.inl (by omega))
  refine ⟨h1.frame s1 (b.1 1 (Or.inl rfl)), h2.frame s1, ?_, ?_, ?_, ?_⟩
  · refine ⟨by rw [a 0 (Or.inl (by omega)), b.2.1]; exact h3.1, ?_⟩
    rw [a 0 (Or.inl (by omega))]
    rcases h3.2 with q | ⟨q, r, t⟩
    · exact Or.inl q
    · exact Or.inr ⟨q, r.frame s2 (b.1 2 (by unfold cM; omega)), t.frame s2⟩
  · unfold TR
    rw [a 40 (by unfold cX; omega), a 41 (by unfold cX; omega), b.2.2, b.1 6 (by unfold cM; omega)]
    exact h4
  · intro s hs
    rw [a (47 + 2 * s) (by unfold cX; omega), a (48 + 2 * s) (by unfold cX; omega), b.1 9 (by unfold cM; omega), b.1 10 (by unfold cM; omega), b.1 11 (by unfold cM; omega)]
    exact h5 s hs
  · unfold CR
    rw [a 55 (by unfold cX; omega), b.1 4 (by unfold cM; omega)]
    exact h6
/-- both answer, alike, and R holds again -/
def Eqv (a b : Option (Int32 × Hp)) : Prop := ∃ r hx hm, a = some (r, hx) ∧ b = some (r, hm) ∧ R hx hm
