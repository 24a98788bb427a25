/-! the class's table of ways -/
def wS (t T : Nat) (w : Nat → Nat) : Nat → Nat := sm (fun f => t.testBit f && T.testBit f) (fun f => w (clr t f))
theorem wS_t {t T f : Nat} {w : Nat → Nat} (h : (t.testBit f && T.testBit f) = true) : wS t T w (f + 1) = wS t T w f + w (clr t f) := by
  show wS t T w f + (if (t.testBit f && T.testBit f) then w (clr t f) else 0) = _
  rw [if_pos h]
theorem wS_f {t T f : Nat} {w : Nat → Nat} (h : ¬ (t.testBit f && T.testBit f) = true) : wS t T w (f + 1) = wS t T w f := by
  show wS t T w f + (if (t.testBit f && T.testBit f) then w (clr t f) else 0) = _
  rw [if_neg h, Nat.add_zero]
theorem of9 {fu full T t : Nat} {w : Nat → Nat} (hfl : full < 64) (hs : sub t full) (k2 : Int32 → Int32 → Int32 → Hp → Option Hp) : ∀ (k f n : Nat) (h : Hp), f + k = 6 → k < n → h 39 t = nI (w t + wS t T w f) → (∀ m, m < t → sub m full → h 39 m = nI (w m)) → ∃ h1, X6_offer_9 fu k2 n (nI full) (nI T) (nI t) (nI f) h = k2 (nI full) (nI T) (nI t + (-1)) h1 ∧ h1 39 t = nI (w t + wS t T w 6) ∧ (∀ m, m ≠ t → h1 39 m = h 39 m) ∧ (∀ q, q ≠ 39 → h1 q = h q) := by
  have tl := sub_le hs
  intro k
  induction k with
  | zero =>
    intro f n h hf hn e1 e2
    obtain ⟨m, rfl⟩ : ∃ m, n = m + 1 := ⟨n - 1, by omega⟩
    rw [X6_offer_9, if_pos (show (6 : Int32) ≤ nI f from nI_le (a := 6) (by omega) (by omega))]
    have : f = 6 := by omega
    subst this
    exact ⟨h, rfl, e1, fun _ _ => rfl, fun _ _ => rfl⟩
  | succ k ih =>
    intro f n h hf hn e1 e2
    obtain ⟨m, rfl⟩ : ∃ m, n = m + 1 := ⟨n - 1, by omega⟩
    have al : t &&& T ≤ t := Nat.and_le_left
    have cl := clr_le t f
    rw [X6_offer_9, if_neg (show ¬ (6 : Int32) ≤ nI f from nI_ge (b := 6) (by omega) (by omega)), if_pos ((sub_z (by omega)).mpr hs), nx_and, nI_1]
    by_cases z : (t.testBit f && T.testBit f) = true
    · have zt : t.testBit f = true := by rw [Bool.and_eq_true] at z; exact z.1
      have clt := clr_lt zt
      rw [if_neg (fun q => by
        have := (and_z (by omega) (by omega)).mp q
        rw [Nat.testBit_and, z] at this
        exact absurd this (by decide)), clr_nI (by omega), ck_nI (by omega) (by decide), ck_nI (by omega) (by decide), ck_nI (by omega) (by decide), cl_nI (by omega), cl_nI (by omega), e1, e2 _ clt (sub_clr hs), nI_add, Nat.add_assoc, ← wS_t z]
      obtain ⟨h1, a1, a2, a3, a4⟩ := ih (f + 1) m (up h 39 t (nI (w t + wS t T w (f + 1)))) (by omega) (by omega) up_eq (fun q q1 q2 => by rw [up_nj (by omega)]; exact e2 q q1 q2)
      exact ⟨h1, a1, a2, fun q hq => by rw [a3 q hq, up_nj hq], fun q hq => by rw [a4 q hq, up_ne hq]⟩
    · rw [if_pos ((and_z (by omega) (by omega)).mpr (by rw [Nat.testBit_and]; simpa using z))]
      exact ih (f + 1) m h (by omega) (by omega) (by rw [e1, wS_f z]) e2
theorem of2 {fu full T : Nat} {w : Nat → Nat} (hfu : 7 ≤ fu) (hfl : full < 64) : ∀ (t n : Nat) (h : Hp), t ≤ full → t < n → (∀ m, m ≤ t → sub m full → h 39 m = nI (w m)) → ∃ h1, X6_offer_2 fu n (nI full) (nI T) (nI t) h = some h1 ∧ (∀ m, m ≤ t → sub m full → h1 39 m = nI (w m + wS m T w 6)) ∧ (∀ m, t < m → h1 39 m = h 39 m) ∧ (∀ q, q ≠ 39 → h1 q = h q) := by
  intro t
  induction t with
  | zero =>
    intro n h ht hn e1
    obtain ⟨m', rfl⟩ : ∃ m', n = m' + 1 := ⟨n - 1, by omega⟩
    rw [X6_offer_2, if_pos (show nI 0 ≤ 0 by decide)]
    refine ⟨h, rfl, fun m hm hs => ?_, fun _ _ => rfl, fun _ _ => rfl⟩
    have : m = 0 := by omega
    subst this
    have z : ∀ r, wS 0 T w r = 0 := by
      intro r
      induction r with
      | zero => rfl
      | succ r ih => exact (wS_f (by simp)).trans ih
    rw [e1 0 (by omega) hs, z]; rfl
  | succ t ih =>
    intro n h ht hn e1
    obtain ⟨m', rfl⟩ : ∃ m', n = m' + 1 := ⟨n - 1, by omega⟩
    rw [X6_offer_2, if_neg (show ¬ nI (t + 1) ≤ 0 from nI_ge (a := 0) (by omega) (by omega))]
    by_cases z : sub (t + 1) full
    · obtain ⟨g, g1, g2, g3, g4⟩ := of9 (fu := fu) (T := T) (w := w) hfl z (X6_offer_2 fu m') 6 0 fu h (by omega) (by omega) (by rw [e1 (t + 1) (by omega) z]; rfl) (fun m hm hs => e1 m (by omega) hs)
      rw [show X6_offer_9 fu (X6_offer_2 fu m') fu (nI full) (nI T) (nI (t + 1)) 0 h = _ from g1, pk_m1]
      obtain ⟨h1, a1, a2, a3, a4⟩ := ih m' g (by omega) (by omega) (fun m hm hs => by rw [g3 m (by omega)]; exact e1 m (by omega) hs)
      refine ⟨h1, a1, fun m hm hs => ?_, fun m hm => by rw [a3 m (by omega), g3 m (by omega)], fun q hq => by rw [a4 q hq, g4 q hq]⟩
      by_cases y : m = t + 1
      · subst y; rw [a3 _ (by omega), g2]
      · exact a2 m (by omega) hs
    · obtain ⟨fu', rfl⟩ : ∃ m, fu = m + 1 := ⟨fu - 1, by omega⟩
      rw [X6_offer_9, if_neg (by decide), if_neg (fun q => z ((sub_z (by omega)).mp q)), pk_m1]
      obtain ⟨h1, a1, a2, a3, a4⟩ := ih m' h (by omega) (by omega) (fun m hm hs => e1 m (by omega) hs)
      refine ⟨h1, a1, fun m hm hs => ?_, fun m hm => a3 m (by omega), a4⟩
      by_cases y : m = t + 1
      · subst y; exact absurd hs z
      · exact a2 m (by omega) hs
def cN (tds : Nat → Nat) (ex : Nat) : Nat → Nat → Nat
  | 0, m => if m = 0 then 1 else 0
  | j + 1, m => if j = ex then cN tds ex j m else cN tds ex j m + wS m (tds j) (cN tds ex j) 6
theorem wf17 {fu full ex : Nat} {x2 : Int32} {tds : Nat → Nat} (hfu : 70 ≤ fu) (hfl : full < 64) (htd : ∀ j, tds j < 64) (hx2 : ∀ j, j < 10 → (nI j = x2 ↔ j = ex)) : ∀ (k j n : Nat) (h : Hp), j + k = 10 → k < n → (∀ m, sub m full → h 39 m = nI (cN tds ex j m)) → (∀ i, i < 10 → h 38 i = nI (tds i)) → ∃ h1, X6_waysFor_17 fu n (nI full) x2 (nI j) h = some (nI (cN tds ex 10 full), h1) ∧ (∀ q, q ≠ 39 → h1 q = h q) := by
  intro k
  induction k with
  | zero =>
    intro j n h hj hn e1 e2
    obtain ⟨m', rfl⟩ : ∃ m', n = m' + 1 := ⟨n - 1, by omega⟩
    have : j = 10 := by omega
    subst this
    rw [X6_waysFor_17, if_pos (by decide), ck_nI (by omega) (by decide), cl_nI (by omega), e1 full (sub_rf _)]
    exact ⟨h, rfl, fun _ _ => rfl⟩
  | succ k ih =>
    intro j n h hj hn e1 e2
    obtain ⟨m', rfl⟩ : ∃ m', n = m' + 1 := ⟨n - 1, by omega⟩
    have st : ∀ m, cN tds ex (j + 1) m = if j = ex then cN tds ex j m else cN tds ex j m + wS m (tds j) (cN tds ex j) 6 := fun _ => rfl
    have tj := htd j
    rw [X6_waysFor_17, if_neg (show ¬ (10 : Int32) ≤ nI j from nI_ge (b := 10) (by omega) (by omega)), nI_1]
    by_cases z : j = ex
    · rw [if_pos ((hx2 j (by omega)).mpr z)]
      exact ih (j + 1) m' h (by omega) (by omega) (fun m hm => by rw [e1 m hm, st, if_pos z]) e2
    · rw [if_neg (fun q => z ((hx2 j (by omega)).mp q))]
      simp only [ck10 (show j < 10 by omega), cl_nI (show j < 2147483648 by omega), e2 j (by omega)]
      by_cases y : tds j = 0
      · rw [if_pos (by rw [y]; rfl)]
        refine ih (j + 1) m' h (by omega) (by omega) (fun m hm => ?_) e2
        have zz : ∀ r, wS m 0 (cN tds ex j) r = 0 := by
          intro r
          induction r with
          | zero => rfl
          | succ r ih => exact (wS_f (by simp)).trans ih
        rw [e1 m hm, st, if_neg z, y, zz]; rfl
      · rw [if_neg (show ¬ nI (tds j) = 0 from fun q => y ((nI_eq (b := 0) (by omega) (by omega)).mp q))]
        unfold X6_offer
        obtain ⟨g, g1, g2, g3, g4⟩ := of2 (fu := fu) (T := tds j) (w := cN tds ex j) (by omega) hfl full fu h (by omega) (by omega) (fun m _ hs => e1 m hs)
        rw [g1, bnd_s]
        obtain ⟨h1, a1, a2⟩ := ih (j + 1) m' g (by omega) (by omega) (fun m hm => by rw [g2 m (sub_le hm) hm, st, if_neg z]) (fun i hi => by rw [g4 38 (by decide)]; exact e2 i hi)
        exact ⟨h1, a1, fun q hq => by rw [a2 q hq, g4 q hq]⟩
theorem wfX {fu full ex : Nat} {x2 : Int32} {tds : Nat → Nat} (hfu : 70 ≤ fu) (hfl : full < 64) (htd : ∀ j, tds j < 64) (hx2 : ∀ j, j < 10 → (nI j = x2 ↔ j = ex)) (h : Hp) (e2 : ∀ i, i < 10 → h 38 i = nI (tds i)) : ∃ h1, X6_waysFor fu (nI full) x2 h = some (nI (cN tds ex 10 full), h1) ∧ (∀ q, q ≠ 39 → h1 q = h q) := by
  unfold X6_waysFor
  obtain ⟨g, g1, g2, g3⟩ := fill_ok (fu := fu) (c0 := 39) (N := 64) (by decide) (by omega) (by omega) 0 h
  rw [g1, bnd_s]
  obtain ⟨h1, a1, a2⟩ := wf17 (fu := fu) hfu hfl htd hx2 10 0 fu (up g 39 0 1) (by omega) (by omega) (fun m hm => by
    show _ = nI (if m = 0 then 1 else 0)
    by_cases z : m = 0
    · rw [if_pos z, z, up_eq]; rfl
    · rw [if_neg z, up_nj z, g2 m (Nat.lt_of_le_of_lt (sub_le hm) hfl)]; rfl) (fun i hi => by rw [up_ne (by decide), g3 38 (by decide)]; exact e2 i hi)
  exact ⟨h1, a1, fun q hq => by rw [a2 q hq, up_ne hq, g3 q hq]⟩
/-! it is the number of ways -/
def okT (tds : Nat → Nat) : Nat → Nat → Bool := fun i a => (tds i).testBit (5 - a)
def hE (ex j : Nat) : Nat → Bool := fun i => decide (i < j) && !decide (i = ex)
theorem CF_e {ok : Nat → Nat → Bool} {S H : Nat → Bool} (hH : ∀ i, H i = false) : ∀ n, (∃ a, a < n ∧ S a = true) → CF ok S n H = 0 := by
  intro n
  induction n with
  | zero => rintro ⟨a, h, _⟩; omega
  | succ n ih =>
    rintro ⟨a, h1, h2⟩
    by_cases s : S n = true
    · rw [CF_t s, ← sm_0 (P := fun _ => false) 10]
      exact sm_ext 10 (fun i _ => by rw [hH i]; rfl) (fun i _ p => by rw [hH i] at p; simp at p)
    · rw [CF_f s]
      refine ih ⟨a, ?_, h2⟩
      have : a ≠ n := fun e => s (by rw [← e]; exact h2)
      omega
theorem cN_V {tds : Nat → Nat} {ex : Nat} : ∀ j, j ≤ 10 → ∀ m, m < 64 → cN tds ex j m = CF (okT tds) (rS m) 6 (hE ex j) := by
  intro j
  induction j with
  | zero =>
    intro _ m hm
    show (if m = 0 then 1 else 0) = _
    by_cases z : m = 0
    · rw [if_pos z, CF_0 6 _ (fun a _ => by unfold rS; rw [z]; exact Nat.zero_testBit _)]
    · rw [if_neg z]
      refine (CF_e (fun i => by unfold hE; simp) 6 ?_).symm
      have : ∃ i, m.testBit i = true := by
        rcases Classical.em (∃ i, m.testBit i = true) with y | y
        · exact y
        · exact absurd (Nat.eq_of_testBit_eq (x := m) (y := 0) (fun i => by
            rw [Nat.zero_testBit]
            rcases Bool.eq_false_or_eq_true (m.testBit i) with w | w
            · exact absurd ⟨i, w⟩ y
            · exact w)) z
      obtain ⟨i, hi⟩ := this
      have i6 : i < 6 := by
        rcases Nat.lt_or_ge i 6 with w | w
        · exact w
        · rw [Nat.testBit_lt_two_pow (Nat.lt_of_lt_of_le hm (show 2 ^ 6 ≤ 2 ^ i from Nat.pow_le_pow_right (by omega) w))] at hi
          exact absurd hi (by decide)
      exact ⟨5 - i, by omega, by unfold rS; rw [show 5 - (5 - i) = i by omega]; exact hi⟩
  | succ j ih =>
    intro hj m hm
    show (if j = ex then cN tds ex j m else cN tds ex j m + wS m (tds j) (cN tds ex j) 6) = _
    by_cases z : j = ex
    · rw [if_pos z, ih (by omega) m hm]
      congr 1
      funext i
      unfold hE
      by_cases y : i = ex
      · simp [y]
      · have : (i < j) ↔ (i < j + 1) := by omega
        simp [y, this]
    · have e : hE ex (j + 1) = add (hE ex j) j := by
        funext i
        unfold hE add
        by_cases y : i = j
        · subst y; simp [z]
        · have : (i < j) ↔ (i < j + 1) := by omega
          simp [y, this]
      rw [if_neg z, e, CF_add 6 (rS m) (hE ex j) j (by omega) (by unfold hE; simp), ih (by omega) m hm]
      congr 1
      have q : ∀ f, f < 6 → cN tds ex j (clr m f) = CF (okT tds) (rmv (rS m) (5 - f)) 6 (hE ex j) := fun f hf => by
        rw [ih (by omega) (clr m f) (Nat.lt_of_le_of_lt (clr_le m f) hm)]
        refine CF_S 6 _ (fun a ha => ?_)
        unfold rmv rS
        rw [clr_bit]
        have : (a = 5 - f) ↔ (5 - a = f) := by omega
        simp only [this]
      unfold wS okT rS
      show 0 + _ + _ + _ + _ + _ + _ = 0 + _ + _ + _ + _ + _ + _
      dsimp only
      rw [q 0 (by omega), q 1 (by omega), q 2 (by omega), q 3 (by omega), q 4 (by omega), q 5 (by omega)]
      unfold okT rS
      simp only [show 5 - 0 = 5 from rfl, show 5 - 1 = 4 from rfl, show 5 - 2 = 3 from rfl, show 5 - 3 = 2 from rfl, show 5 - 4 = 1 from rfl, show 5 - 5 = 0 from rfl]
      omega
