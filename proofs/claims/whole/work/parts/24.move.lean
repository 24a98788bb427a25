theorem mn_b {k : Int32} {s w : Nat} (hs : s ≤ 6) (hw : w ≤ 60) : ∃ m, 1 ≤ m ∧ m ≤ 18 ∧ X2_minutes k (nI s) (nI w) = some (nI m) := by
  unfold X2_minutes
  rw [show nI s + (3 : Int32) = nI (s + 3) from nI_add s 3, show (2 : Int32) * nI (s + 3) = nI (2 * (s + 3)) from pk_mul 2 (s + 3), show nI s + (1 : Int32) = nI (s + 1) from nI_add s 1, show nI w / (10 : Int32) = nI (w / 10) from pk_div (a := w) (d := 10) (by omega) (by omega) (by omega), nI_add]
  by_cases a : k = 2
  · rw [if_pos a]; exact ⟨_, by omega, by omega, rfl⟩
  rw [if_neg a]
  by_cases a : k = 3
  · rw [if_pos a]; exact ⟨_, by omega, by omega, rfl⟩
  rw [if_neg a]
  by_cases a : k = 4
  · rw [if_pos a]; exact ⟨_, by omega, by omega, rfl⟩
  rw [if_neg a]
  by_cases a : k = 5
  · rw [if_pos a]; exact ⟨1, by omega, by omega, rfl⟩
  rw [if_neg a]
  by_cases a : k = 6
  · rw [if_pos a]; exact ⟨1, by omega, by omega, rfl⟩
  rw [if_neg a]; exact ⟨_, by omega, by omega, rfl⟩
theorem jab : ∀ a, a < 6 → ∀ b, b < 6 → ∃ s, s ≤ 6 ∧ jabs (nI a - nI b) = nI s := by decide +kernel
theorem caB {hx : Hp} (hi : HI 1 hx) {p : Nat} (hp : p < 10) {x : Int32} (x1 : -1 ≤ x.toInt) (x2 : x.toInt ≤ 5) : ∃ m, 1 ≤ m ∧ m ≤ 18 ∧ caV hx p x = nI m := by
  have e := carX (h := hx) hp x
  obtain ⟨w, w1, w2⟩ := wxN hi hp
  have fin : ∀ s, s ≤ 6 → ∀ o, o = X2_minutes (hx 2 p) (nI s) (nI w) → o = some (caV hx p x) → ∃ m, 1 ≤ m ∧ m ≤ 18 ∧ caV hx p x = nI m := by
    intro s hs o o1 o2
    obtain ⟨m, m1, m2, m3⟩ := mn_b (k := hx 2 p) (s := s) hs w1
    rw [o1, m3] at o2
    injection o2 with o2
    exact ⟨m, m1, m2, o2.symm⟩
  unfold X1_minutesTo X1_minutesTo_17 at e
  simp only [ck10 hp, cl_nI (show p < 2147483648 by omega), w2] at e
  obtain ⟨r1, e1⟩ := mn_some (hx 2 p) 6 (nI w)
  obtain ⟨r2, e2⟩ := mn_some (hx 2 p) (jabs (hx 5 p - x)) (nI w)
  by_cases a : hx 5 p = -1
  · rw [if_pos a, e1, bnd_s] at e
    exact fin 6 (by omega) _ e1.symm e
  · rw [if_neg a] at e
    by_cases b : x = -1
    · rw [if_pos b, e1, bnd_s] at e
      exact fin 6 (by omega) _ e1.symm e
    · rw [if_neg b, e2, bnd_s] at e
      have pb := plB hi hp
      have a' : ¬ (hx 5 p).toInt = -1 := fun z => a (by rw [ti_eq, z]; rfl)
      have b' : ¬ x.toInt = -1 := fun z => b (by rw [ti_eq, z]; rfl)
      obtain ⟨i, i1, i2⟩ := ti_ex (x := hx 5 p) (b := 5) (by omega) pb.2
      obtain ⟨j, j1, j2⟩ := ti_ex (x := x) (b := 5) (by omega) x2
      obtain ⟨s, s1, s2⟩ := jab i (by omega) j (by omega)
      rw [i2, j2, s2] at e2
      exact fin s s1 _ e2.symm e
theorem o_move {hx hm : Hp} {fu : Nat} (hf : 118 ≤ fu) (h : R hx hm) (x y : Int32) : Eqv (X7_move fu x y hx) (X8_move fu x y hm) := by
  have hR := h.1
  have hI := h.2.1
  obtain ⟨ck, ck1, ck2⟩ := ckN hI
  obtain ⟨np, np1, np2⟩ := npN hI
  unfold X7_move X8_move
  rcases hasP hR np2 np1 x with ⟨a, b, -⟩ | ⟨p, p1, rfl, a, b⟩
  · rw [if_pos a, b, bnd_s, if_pos rfl]; exact fB h
  rw [if_neg (by rw [a]; decide), b, bnd_s, if_neg n10]
  unfold X7_isPlace X8_isPlace
  rw [w8]
  rcases wr y (-1) 5 with ⟨c, -⟩ | ⟨c, y1, y2⟩
  · rw [if_pos c, if_pos c]; exact fB h
  have c' : ¬ X7_within y (-1) 5 = 0 := by rw [c]; decide
  rw [if_neg c', if_neg c', ck10 (by omega), cl_nI (by omega), pI3 hR (by omega), bnd_s]
  rw [show (-1 : Int32).toInt = -1 from rfl] at y1
  rw [show (5 : Int32).toInt = 5 from rfl] at y2
  by_cases d : hx 5 p = y
  · rw [if_pos d, if_pos d]; exact fS h
  rw [if_neg d, if_neg d, carX (by omega), carM hR hI (by omega) y1, bnd_s, bnd_s]
  obtain ⟨m, m1, m2, m3⟩ := caB hI (show p < 10 by omega) y1 y2
  simp only [m3, rck hR, ck2, nI_add]
  by_cases z : ck + m ≤ 9999
  · rw [if_pos (show nI (ck + m) ≤ (9999 : Int32) from nI_le (b := 9999) z (by omega)), if_pos (show nI (ck + m) ≤ (9999 : Int32) from nI_le (b := 9999) z (by omega))]
    unfold X1_carry X8_moves
    rw [carX (by omega), carM hR hI (by omega) y1, bnd_s, bnd_s, m3, show X8_at (nI p) 3 = nI (33 + 4 * p + 3) from at_nI p 3, show 33 + 4 * p + 3 = 36 + 4 * p by omega]
    simp only [ck10 (show p < 10 by omega), ck_nI (show 36 + 4 * p < 117 by omega) (show 117 < 2147483648 by decide), cl_nI (show 36 + 4 * p < 2147483648 by omega), cl_nI (show p < 2147483648 by omega)]
    rw [show jmax (1 : Int32) (nI m) = nI (max 1 m) from jmax_nI (a := 1) (by omega) (by omega), show max 1 m = m by omega]
    obtain ⟨hx1, hm1, q1, q2, q3, q4, q5, q6, q7⟩ := spendB hf h ck2 z (by omega) (hx' := up hx 5 p (-1)) (hm' := up hm 1 (36 + 4 * p) (-2)) (fun c hc => up_ne hc) (fun j hj => up_nj (fun w => hj ⟨p, by omega, w⟩)) (fun c hc => up_ne hc) (fun q hq => by
      by_cases w : q = p
      · subst w
        rw [up_eq, up_eq]
        exact ⟨by decide, Or.inr ⟨by decide, by decide⟩⟩
      · rw [up_nj w, up_nj (by omega)]
        exact ⟨(plB hI hq).2, Or.inl (hR 4 q (vl14 (by omega) (by omega) hq))⟩)
    rw [q1, q2, bnd_s, bnd_s, bnd_s, bnd_s]
    refine ⟨nI (ck + m), _, _, ?_, ?_, q7 (up hx1 5 p y) (up hm1 1 (36 + 4 * p) y) (fun c hc => up_ne hc) (fun j hj => up_nj (fun w => hj ⟨p, by omega, w⟩)) (fun c hc => up_ne hc) (fun q hq => ?_)⟩
    · rw [up_ne (by decide), q5]
    · rw [up_nj (by omega), q6]
    · by_cases w : q = p
      · subst w
        rw [up_eq, up_eq]
        exact ⟨y1, y2, rfl⟩
      · rw [up_nj w, up_nj (by omega), q3, q4 q hq, up_nj w, up_nj (by omega)]
        exact ⟨(plB hI hq).1, (plB hI hq).2, hR 4 q (vl14 (by omega) (by omega) hq)⟩
  · rw [if_neg (show ¬ nI (ck + m) ≤ (9999 : Int32) from nI_ge (a := 9999) (by omega) (by omega)), if_neg (show ¬ nI (ck + m) ≤ (9999 : Int32) from nI_ge (a := 9999) (by omega) (by omega))]; exact fS h
