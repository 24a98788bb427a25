/-- the faces that a head may be told for -/
def tdP (hx : Hp) (c i : Nat) : Nat → Bool := fun f => decide (lkH hx i f = hx (c + 1) f)
def td (hx : Hp) (c np F i : Nat) : Nat := if decide (i < np) && isH hx i then bs (tdP hx c i) F else 0
theorem td_lt {hx : Hp} {c np F i : Nat} (hF : F ≤ 6) : td hx c np F i < 64 := by
  unfold td
  by_cases a : (decide (i < np) && isH hx i) = true
  · rw [if_pos a]; exact Nat.lt_of_lt_of_le (bs_lt _ _) (show 2 ^ F ≤ 2 ^ 6 from Nat.pow_le_pow_right (by omega) hF)
  · rw [if_neg a]; omega
theorem tl21 {hx : Hp} (hI : HI 1 hx) {fu c i sz : Nat} (hfu : 12 ≤ fu) (hi : i < 10) (hsz : sz ≤ 40) (hc : c = 47 ∨ c = 49 ∨ c = 51 ∨ c = 53) (es : hx c 2 = nI sz) (hd : isH hx i = true) (k10 : Int32 → Hp → Option Hp) : ∀ (k f n : Nat) (h : Hp), (∀ q, q ≠ 38 → h q = hx q) → h 38 i = nI (bs (tdP hx c i) f) → f + k = min sz 6 → k < n → ∃ h1, X6_survey_21 fu c k10 n (nI i) (nI f) h = k10 (nI (i + 1)) h1 ∧ h1 38 i = nI (bs (tdP hx c i) (min sz 6)) ∧ (∀ j, j ≠ i → h1 38 j = h 38 j) ∧ (∀ q, q ≠ 38 → h1 q = h q) := by
  intro k
  induction k with
  | zero =>
    intro f n h e e1 hf hn
    obtain ⟨m, rfl⟩ : ∃ m, n = m + 1 := ⟨n - 1, by omega⟩
    have ef : f = min sz 6 := by omega
    refine ⟨h, ?_, by rw [← ef]; exact e1, fun _ _ => rfl, fun _ _ => rfl⟩
    rw [X6_survey_21, e c (by omega), es, nI_1]
    by_cases z : 6 ≤ f
    · rw [if_pos (show (6 : Int32) ≤ nI f from nI_le (a := 6) z (by omega))]
    · rw [if_neg (show ¬ (6 : Int32) ≤ nI f from nI_ge (b := 6) (by omega) (by omega)), if_pos (nI_le (by omega) (by omega))]
  | succ k ih =>
    intro f n h e e1 hf hn
    obtain ⟨m, rfl⟩ : ∃ m, n = m + 1 := ⟨n - 1, by omega⟩
    have hIh : HI 1 h := hI.frame (fun f hf => e _ (by omega))
    have lk : lkH h i f = lkH hx i f := by unfold lkH; rw [e 2 (by omega), e 3 (by omega), e 6 (by omega)]
    rw [X6_survey_21, e c (by omega), es, if_neg (show ¬ (6 : Int32) ≤ nI f from nI_ge (b := 6) (by omega) (by omega)), if_neg (nI_ge (by omega) (by omega)), headX (by omega) hIh hi, bnd_s, isH_e (e 2 (by omega)), if_pos hd, if_neg n10, likeX hi (by omega), bnd_s, lk, ck_nI (by omega) (by decide), cl_nI (show f < 2147483648 by omega), e (c + 1) (by omega), nI_1]
    simp only [ck10 hi, cl_nI (show i < 2147483648 by omega)]
    by_cases z : lkH hx i f = hx (c + 1) f
    · rw [if_pos z, e1, or_bit (by omega), ← bs_t (show tdP hx c i f = true from decide_eq_true z)]
      obtain ⟨h1, a1, a2, a3, a4⟩ := ih (f + 1) m (up h 38 i (nI (bs (tdP hx c i) (f + 1)))) (fun q hq => by rw [up_ne hq]; exact e q hq) up_eq (by omega) (by omega)
      exact ⟨h1, a1, a2, fun j hj => by rw [a3 j hj, up_nj hj], fun q hq => by rw [a4 q hq, up_ne hq]⟩
    · rw [if_neg z]
      exact ih (f + 1) m h e (by rw [e1, bs_f (show ¬ tdP hx c i f = true by unfold tdP; simpa using z)]) (by omega) (by omega)
theorem tl10 {hx : Hp} (hI : HI 1 hx) {fu c np sz : Nat} (hfu : 12 ≤ fu) (np1 : np ≤ 10) (np2 : hx 1 10 = nI np) (hsz : sz ≤ 40) (hc : c = 47 ∨ c = 49 ∨ c = 51 ∨ c = 53) (es : hx c 2 = nI sz) : ∀ (k i n : Nat) (h : Hp), (∀ q, q ≠ 38 → h q = hx q) → (∀ j, j < i → h 38 j = nI (td hx c np (min sz 6) j)) → (∀ j, i ≤ j → j < 10 → h 38 j = 0) → i + k = np → k < n → ∃ h1, X6_survey_10 fu c n (nI i) h = some h1 ∧ (∀ j, j < 10 → h1 38 j = nI (td hx c np (min sz 6) j)) ∧ (∀ q, q ≠ 38 → h1 q = hx q) := by
  intro k
  induction k with
  | zero =>
    intro i n h e e1 e2 hi hn
    obtain ⟨m, rfl⟩ : ∃ m, n = m + 1 := ⟨n - 1, by omega⟩
    rw [X6_survey_10, e 1 (by omega), np2, if_pos (nI_le (by omega) (by omega))]
    refine ⟨h, rfl, fun j hj => ?_, e⟩
    by_cases z : j < i
    · exact e1 j z
    · rw [e2 j (by omega) hj]
      unfold td
      rw [if_neg (by rw [Bool.and_eq_true]; exact fun q => by have := of_decide_eq_true q.1; omega)]
      rfl
  | succ k ih =>
    intro i n h e e1 e2 hi hn
    obtain ⟨m, rfl⟩ : ∃ m, n = m + 1 := ⟨n - 1, by omega⟩
    have hIh : HI 1 h := hI.frame (fun f hf => e _ (by omega))
    rw [X6_survey_10, e 1 (by omega), np2, if_neg (nI_ge (by omega) (by omega))]
    by_cases hd : isH hx i = true
    · obtain ⟨g, g1, g2, g3, g4⟩ := tl21 hI (fu := fu) hfu (show i < 10 by omega) hsz hc es hd (X6_survey_10 fu c m) (min sz 6) 0 fu h e (e2 i (by omega) (by omega)) (by omega) (by omega)
      rw [show X6_survey_21 fu c (X6_survey_10 fu c m) fu (nI i) 0 h = _ from g1]
      refine ih (i + 1) m g (fun q hq => by rw [g4 q hq]; exact e q hq) (fun j hj => ?_) (fun j j1 j2 => by rw [g3 j (by omega)]; exact e2 j (by omega) j2) (by omega) (by omega)
      by_cases z : j = i
      · subst z
        rw [g2]
        unfold td
        rw [if_pos (by rw [hd, decide_eq_true (show j < np by omega)]; rfl)]
      · rw [g3 j z]; exact e1 j (by omega)
    · have tz : td hx c np (min sz 6) i = 0 := by unfold td; rw [if_neg (by rw [Bool.and_eq_true]; exact fun q => hd q.2)]
      have st : X6_survey_21 fu c (X6_survey_10 fu c m) fu (nI i) 0 h = X6_survey_10 fu c m (nI (i + 1)) h := by
        obtain ⟨fu', rfl⟩ : ∃ m, fu = m + 1 := ⟨fu - 1, by omega⟩
        rw [X6_survey_21, if_neg (by decide), headX (by omega) hIh (by omega), bnd_s, isH_e (e 2 (by omega)), if_neg hd, if_pos rfl, nI_1]
        split <;> rfl
      rw [st]
      refine ih (i + 1) m h e (fun j hj => ?_) (fun j j1 j2 => e2 j (by omega) j2) (by omega) (by omega)
      by_cases z : j = i
      · subst z
        rw [e2 j (by omega) (by omega), tz]
        rfl
      · exact e1 j (by omega)
theorem tlX {hx : Hp} (hI : HI 1 hx) {fu c np sz : Nat} (hfu : 12 ≤ fu) (np1 : np ≤ 10) (np2 : hx 1 10 = nI np) (hsz : sz ≤ 40) (hc : c = 47 ∨ c = 49 ∨ c = 51 ∨ c = 53) (es : hx c 2 = nI sz) : ∃ h1, X6_survey fu c hx = some h1 ∧ (∀ j, j < 10 → h1 38 j = nI (td hx c np (min sz 6) j)) ∧ (∀ q, q ≠ 38 → h1 q = hx q) := by
  unfold X6_survey
  obtain ⟨g, g1, g2, g3⟩ := fill_ok (fu := fu) (c0 := 38) (N := 10) (by decide) (by omega) (by omega) 0 hx
  rw [g1, bnd_s]
  exact tl10 hI hfu np1 np2 hsz hc es np 0 fu g g3 (fun j hj => by omega) (fun j _ hj => g2 j hj) (by omega) (by omega)
