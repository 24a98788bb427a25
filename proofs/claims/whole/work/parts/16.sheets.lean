theorem shc_nI {s : Nat} (hs : s < 4) : shc (nI s) = 47 + 2 * s := by
  unfold shc; rw [cl_nI (by omega)]
theorem szN {hx hm : Hp} (h : SR hx hm) {s : Nat} (hs : s < 4) : ∃ n, n ≤ 40 ∧ hx (47 + 2 * s) 2 = nI n ∧ hm 10 s = nI n := by
  obtain ⟨a, b, c, d, e, f⟩ := h s hs
  obtain ⟨n, n1, n2⟩ := ti_ex (x := hm 10 s) (b := 40) d e
  exact ⟨n, n1, b.trans n2, n2⟩
theorem missX {hx hm : Hp} (h : SR hx hm) {s : Nat} (hs : s < 4) : X4_isMissing (47 + 2 * s) hx = if hm 9 s = 0 then 1 else 0 := by
  unfold X4_isMissing
  rw [(h s hs).1]
theorem put_nI {h : Hp} {c i : Nat} (hi : i < 40) (v : Int32) : X4_put c (nI i) v h = some (up h (c + 1) i (X8_cutTo v (h c 1))) := by
  unfold X4_put X8_cutTo
  rw [cl_nI (by omega)]
  by_cases a : h c 1 = 8
  · rw [if_pos a, if_pos a, ck_nI hi (by decide)]
  · rw [if_neg a, if_neg a]
    by_cases b : h c 1 = 16
    · rw [if_pos b, if_pos b, ck_nI hi (by decide)]
    · rw [if_neg b, if_neg b, ck_nI hi (by decide)]
theorem wn_sz {x : Int32} {n : Nat} (hn : n ≤ 1000) : (X7_within x 0 (nI n - 1) = 0 ∧ ∀ p, p < n → x ≠ nI p) ∨ (∃ p, p < n ∧ x = nI p ∧ X7_within x 0 (nI n - 1) = 1) := by
  refine wn x (M := nI n - 1) n ?_ (by omega)
  rw [ti_sub, ti_nI (by omega), ti_lit1]
  all_goals rw [ti_nI (by omega), ti_lit1]; omega
theorem o_write {hx hm : Hp} (h : R hx hm) (x1 x2 x3 : Int32) : Eqv (X7_write x1 x2 x3 hx) (X8_write x1 x2 x3 hm) := by
  unfold X7_write X8_write X7_isSheet X8_isSheet
  rw [w8]
  rcases wn x1 (M := 3) 4 (by decide) (by decide) with ⟨q, -⟩ | ⟨s, q, r, t⟩
  · rw [q, if_pos rfl, if_pos rfl]; exact fB h
  · have hS := h.2.2.2.2.1
    obtain ⟨n, n1, n2, n3⟩ := szN hS q
    rw [t, if_neg n10, if_neg n10, r, shc_nI q, cl_nI (by omega), missX hS q, n2, n3]
    simp only [ck_nI q (show 4 < 2147483648 by decide)]
    by_cases b : hm 9 s = 0
    · rw [if_pos b, if_neg n10, if_pos b]; exact fQ h
    · rw [if_neg b, if_pos rfl, if_neg b]
      rcases wn_sz (x := x2) (n := n) (by omega) with ⟨q1, -⟩ | ⟨i, q1, r1, t1⟩
      · rw [q1, if_pos rfl, if_pos rfl]; exact fB h
      · rw [t1, if_neg n10, if_neg n10, r1, put_nI (by omega), bnd_s, show (40 : Int32) * nI s = nI (40 * s) from pk_mul 40 s, nI_add, ck_nI (by omega) (by decide), cl_nI (by omega), (hS s q).1]
        refine ⟨_, _, _, rfl, rfl, h.sheets (fun k _ hk => up_ne (by omega)) (fun k _ _ _ hk => up_ne hk) (by rw [up_ne (by omega)]) (by rw [up_ne (by omega)]) (fun s1 hs1 => ?_)⟩
        obtain ⟨a1, a2, a3, a4, a5, a6⟩ := hS s1 hs1
        rw [up_ne (h := hx) (by omega), up_ne (h := hm) (by omega), up_ne (h := hm) (by omega)]
        refine ⟨a1, a2, a3, a4, a5, fun j hj => ?_⟩
        by_cases z : s1 = s ∧ j = i
        · obtain ⟨rfl, rfl⟩ := z
          rw [show 48 + 2 * s1 = 47 + 2 * s1 + 1 by omega, up_eq, up_eq]
        · rw [up_ni (h := hx) (by omega), up_ni (h := hm) (by omega)]; exact a6 j hj
/-! filling -/
theorem fillL {fu c0 N : Nat} (hN : lnX c0 = N) (hb : N < 1000000) (v : Int32) : ∀ (k i n : Nat) (h : Hp), i + k = N → k < n → ∃ h1, J7_fill_53178_5 fu c0 n v (nI i) (nI N) h = some h1 ∧ (∀ j, i ≤ j → j < N → h1 c0 j = v) ∧ (∀ j, j < i ∨ N ≤ j → h1 c0 j = h c0 j) ∧ (∀ q, q ≠ c0 → h1 q = h q) := by
  intro k
  induction k with
  | zero =>
    intro i n h hi hn
    obtain ⟨m, rfl⟩ : ∃ m, n = m + 1 := ⟨n - 1, by omega⟩
    rw [J7_fill_53178_5, if_pos (nI_le (by omega) (by omega))]
    exact ⟨h, rfl, fun j a b => by omega, fun j _ => rfl, fun q _ => rfl⟩
  | succ k ih =>
    intro i n h hi hn
    obtain ⟨m, rfl⟩ : ∃ m, n = m + 1 := ⟨n - 1, by omega⟩
    rw [J7_fill_53178_5, if_neg (nI_ge (by omega) (by omega)), hN, ck_nI (by omega) (by omega), cl_nI (by omega), nI_1]
    obtain ⟨h1, a, b, c, d⟩ := ih (i + 1) m (up h c0 i v) (by omega) (by omega)
    refine ⟨h1, a, fun j e f => ?_, fun j e => ?_, fun q hq => ?_⟩
    · by_cases z : j = i
      · subst z; rw [c j (by omega), up_eq]
      · exact b j (by omega) f
    · rw [c j (by omega), up_nj (by omega)]
    · rw [d q hq, up_ne hq]
theorem fill_ok {fu c0 N : Nat} (hN : lnX c0 = N) (hb : N < fu) (hb2 : N < 1000000) (v : Int32) (h : Hp) : ∃ h1, J7_fill_53178 fu c0 v h = some h1 ∧ (∀ j, j < N → h1 c0 j = v) ∧ (∀ q, q ≠ c0 → h1 q = h q) := by
  unfold J7_fill_53178 lenX
  rw [hN]
  obtain ⟨h1, a, b, c, d⟩ := fillL (fu := fu) hN hb2 v N 0 fu h (by omega) (by omega)
  exact ⟨h1, a, fun j hj => b j (by omega) hj, d⟩
theorem ln_sh : ∀ s, s < 4 → lnX (47 + 2 * s + 1) = 40 := by decide
theorem zeroL {fu s : Nat} (hs : s < 4) : ∀ (k i n : Nat) (h : Hp), i + k = 40 → k < n → ∃ h1, X8_sheet_86 fu n (nI s) (nI i) h = some (h1 10 s, h1) ∧ (∀ j, 40 * s + i ≤ j → j < 40 * s + 40 → h1 11 j = 0) ∧ (∀ j, j < 40 * s + i ∨ 40 * s + 40 ≤ j → h1 11 j = h 11 j) ∧ (∀ q, q ≠ 11 → h1 q = h q) := by
  intro k
  induction k with
  | zero =>
    intro i n h hi hn
    obtain ⟨m, rfl⟩ : ∃ m, n = m + 1 := ⟨n - 1, by omega⟩
    rw [X8_sheet_86, if_pos (show (40 : Int32) ≤ nI i from nI_le (a := 40) (by omega) (by omega)), ck_nI hs (by decide), cl_nI (by omega)]
    exact ⟨h, rfl, fun j a b => by omega, fun j _ => rfl, fun q _ => rfl⟩
  | succ k ih =>
    intro i n h hi hn
    obtain ⟨m, rfl⟩ : ∃ m, n = m + 1 := ⟨n - 1, by omega⟩
    rw [X8_sheet_86, if_neg (show ¬ (40 : Int32) ≤ nI i from nI_ge (b := 40) (by omega) (by omega)), show (40 : Int32) * nI s = nI (40 * s) from pk_mul 40 s, nI_add, ck_nI (by omega) (by decide), cl_nI (by omega), nI_1]
    obtain ⟨h1, a, b, c, d⟩ := ih (i + 1) m (up h 11 (40 * s + i) 0) (by omega) (by omega)
    refine ⟨h1, a, fun j e f => ?_, fun j e => ?_, fun q hq => ?_⟩
    · by_cases z : j = 40 * s + i
      · subst z; rw [c _ (by omega), up_eq]
      · exact b j (by omega) f
    · rw [c j (by omega), up_nj (by omega)]
    · rw [d q hq, up_ne hq]
theorem sheet36 {hx hm : Hp} {fu : Nat} (hf : 41 ≤ fu) (h : R hx hm) {s : Nat} (hs : s < 4) (x2 x3 : Int32) (hb : x2 = 0 ∨ x2 = 8 ∨ x2 = 16 ∨ x2 = 32) : Eqv (X7_sheet_36 fu (nI s) x2 x3 hx) (X8_sheet_36 fu (nI s) x2 x3 hm) := by
  unfold X7_sheet_36 X8_sheet_36 X4_begin
  by_cases a : 0 ≤ x3
  · rw [if_pos a, if_pos a]
    by_cases b : x3 ≤ 40
    · rw [if_pos b, if_pos b, shc_nI hs, cl_nI (by omega)]
      simp only [ck_nI hs (show 4 < 2147483648 by decide)]
      obtain ⟨h1, f1, f2, f3⟩ := fill_ok (fu := fu) (ln_sh s hs) (by omega) (by decide) 0 hx
      rw [f1, bnd_s]
      have hS := h.2.2.2.2.1
      have key : ∀ w : Int32, 0 ≤ w.toInt → w.toInt ≤ 40 → Eqv (bnd (some (up (up h1 (47 + 2 * s) 1 x2) (47 + 2 * s) 2 w)) (fun h5 => some (h5 (47 + 2 * s) 2, h5))) (X8_sheet_86 fu fu (nI s) 0 (up (up hm 9 s x2) 10 s w)) := by
        intro w w1 w2
        obtain ⟨m1, g1, g2, g3, g4⟩ := zeroL (fu := fu) hs 40 0 fu (up (up hm 9 s x2) 10 s w) (by omega) (by omega)
        rw [bnd_s, show (0 : Int32) = nI 0 from rfl, g1, up_eq]
        have m10 : m1 10 = up (up hm 9 s x2) 10 s w 10 := g4 10 (by omega)
        have m9 : m1 9 = up hm 9 s x2 9 := by rw [g4 9 (by omega), up_ne (by omega)]
        refine ⟨_, _, _, rfl, by rw [m10, up_eq], h.sheets (fun k _ hk => by rw [up_ne (by omega), up_ne (by omega), f3 k (by omega)]) (fun k _ k1 k2 k3 => by rw [g4 k k3, up_ne k2, up_ne k1]) (by rw [g4 0 (by omega), up_ne (by omega), up_ne (by omega)]) (by rw [g4 0 (by omega), up_ne (by omega), up_ne (by omega)]) (fun s1 hs1 => ?_)⟩
        obtain ⟨a1, a2, a3, a4, a5, a6⟩ := hS s1 hs1
        rw [m10, m9]
        by_cases z : s1 = s
        · subst z
          rw [up_nj (by omega), up_eq, up_eq, up_eq, up_eq]
          refine ⟨rfl, rfl, hb, w1, w2, fun j hj => ?_⟩
          rw [up_ne (by omega), up_ne (by omega), show 48 + 2 * s1 = 47 + 2 * s1 + 1 by omega, f2 j hj, g2 _ (by omega) (by omega)]
        · rw [up_ne (h := up h1 (47 + 2 * s) 1 x2) (by omega), up_ne (h := h1) (by omega), f3 (47 + 2 * s1) (by omega), up_nj (h := hm) (by omega), up_nj (h := up hm 9 s x2) (by omega), up_ne (h := hm) (by omega)]
          refine ⟨a1, a2, a3, a4, a5, fun j hj => ?_⟩
          rw [up_ne (by omega), up_ne (by omega), f3 _ (by omega), g3 _ (by omega), up_ne (by omega), up_ne (by omega)]; exact a6 j hj
      rw [ti_le, ti_lit0] at a
      rw [ti_le] at b
      have e40 : (40 : Int32).toInt = 40 := rfl
      by_cases z : x2 = 0
      · rw [if_pos z, if_pos z]; exact key 0 (by decide) (by decide)
      · rw [if_neg z, if_neg z]; exact key x3 a (by omega)
    · rw [if_neg b, if_neg b]; exact fB h
  · rw [if_neg a, if_neg a]; exact fZ h
theorem o_sheet {hx hm : Hp} {fu : Nat} (hf : 41 ≤ fu) (h : R hx hm) (x1 x2 x3 : Int32) : Eqv (X7_sheet fu x1 x2 x3 hx) (X8_sheet fu x1 x2 x3 hm) := by
  unfold X7_sheet X8_sheet X7_isSheet X8_isSheet
  rw [w8]
  rcases wn x1 (M := 3) 4 (by decide) (by decide) with ⟨q, -⟩ | ⟨s, q, r, t⟩
  · rw [q, if_pos rfl, if_pos rfl]; exact fB h
  · rw [t, if_neg n10, if_neg n10, r]
    by_cases a : x2 = 0
    · rw [if_pos a, if_pos a]; exact sheet36 hf h q x2 x3 (Or.inl a)
    · rw [if_neg a, if_neg a]
      by_cases b : x2 = 8
      · rw [if_pos b, if_pos b]; exact sheet36 hf h q x2 x3 (Or.inr (Or.inl b))
      · rw [if_neg b, if_neg b]
        by_cases c : x2 = 16
        · rw [if_pos c, if_pos c]; exact sheet36 hf h q x2 x3 (Or.inr (Or.inr (Or.inl c)))
        · rw [if_neg c, if_neg c]
          by_cases d : x2 = 32
          · rw [if_pos d, if_pos d]; exact sheet36 hf h q x2 x3 (Or.inr (Or.inr (Or.inr d)))
          · rw [if_neg d, if_neg d]; exact fB h
/-! loading -/
theorem loadL {hm0 : Hp} {fu s sz np : Nat} (hs : s < 4) (hz : sz ≤ 40) (hp : np ≤ 10) : ∀ (k i n : Nat) (hx hm : Hp), R hx hm → hx 1 10 = nI np → hm 10 s = nI sz → i + k = min sz np → k < n → Eqv (X7_load_55 fu n (nI s) (nI i) (nI (min sz np)) hx) (X8_load_32 fu n (nI s) (nI i) hm) := by
  intro k
  induction k with
  | zero =>
    intro i n hx hm h e1 e2 hi hn
    obtain ⟨m, rfl⟩ : ∃ m, n = m + 1 := ⟨n - 1, by omega⟩
    rw [X7_load_55, X8_load_32, if_pos (nI_le (by omega) (by omega)), ck_nI hs (by decide), cl_nI (by omega), e2]
    by_cases a : sz ≤ i
    · rw [if_pos (nI_le a (by omega))]; exact ⟨_, _, _, rfl, rfl, h⟩
    · rw [if_neg (nI_ge (by omega) (by omega))]
      rcases hasP h.1 e1 hp (nI i) with ⟨a1, b1, c1⟩ | ⟨p, a1, b1, c1, d1⟩
      · rw [b1, bnd_s, if_pos rfl]; exact ⟨_, _, _, rfl, rfl, h⟩
      · rw [nI_eq (by omega) (by omega)] at b1; omega
  | succ k ih =>
    intro i n hx hm h e1 e2 hi hn
    obtain ⟨m, rfl⟩ : ∃ m, n = m + 1 := ⟨n - 1, by omega⟩
    have hS := h.2.2.2.2.1
    rw [X7_load_55, X8_load_32, if_neg (nI_ge (by omega) (by omega))]
    simp only [ck_nI hs (show 4 < 2147483648 by decide), ck_nI (show i < 40 by omega) (show 40 < 2147483648 by decide), ck_nI (show i < 10 by omega) (show 10 < 2147483648 by decide), cl_nI (show s < 2147483648 by omega), cl_nI (show i < 2147483648 by omega), e2, shc_nI hs]
    rw [if_neg (nI_ge (by omega) (by omega))]
    rcases hasP h.1 e1 hp (nI i) with ⟨a1, b1, c1⟩ | ⟨p, a1, b1, c1, d1⟩
    · exact absurd rfl (c1 i (by omega))
    · rw [d1, bnd_s, if_neg n10, show (40 : Int32) * nI s = nI (40 * s) from pk_mul 40 s, nI_add]
      simp only [ck_nI (show 40 * s + i < 160 by omega) (show 160 < 2147483648 by decide), cl_nI (show 40 * s + i < 2147483648 by omega)]
      have e6 := (hS s hs).2.2.2.2.2 i (by omega)
      rw [show 48 + 2 * s = 47 + 2 * s + 1 by omega] at e6
      rw [e6, w8]
      rcases wr (hm 11 (40 * s + i)) 1 60 with ⟨q, -⟩ | ⟨q, r, t⟩
      · rw [q, if_pos rfl, if_pos rfl]; exact ⟨_, _, _, rfl, rfl, h⟩
      · rw [q, if_neg n10, if_neg n10, show X8_at (nI i) 2 = nI (33 + 4 * i + 2) from at_nI i 2, ck_nI (by omega) (by decide), cl_nI (by omega), nI_1]
        have s1 := h.up1 (f := 3) (i := i) (vl14 (by omega) (by omega) (by omega)) (v := hm 11 (40 * s + i)) ⟨by rw [ti_lit1] at r; show (0 : Int) ≤ _; omega, t⟩ ⟨by omega, by omega, by omega, by omega⟩
        rw [show ix 3 i = 33 + 4 * i + 2 by show 35 + 4 * i = _; omega] at s1
        exact ih (i + 1) m _ _ s1 (by rw [up_ne (by omega)]; exact e1) (by rw [up_ne (by omega)]; exact e2) (by omega) (by omega)
theorem jmin_nI {a b : Nat} (ha : a < 2147483648) (hb : b < 2147483648) : jmin (nI a) (nI b) = nI (min a b) := by
  unfold jmin
  by_cases c : b < a
  · rw [if_pos (nI_lt c (by omega)), Nat.min_eq_right (by omega)]
  · rw [if_neg (nI_nlt (by omega) (by omega)), Nat.min_eq_left (by omega)]
theorem jmax_nI {a b : Nat} (ha : a < 2147483648) (hb : b < 2147483648) : jmax (nI a) (nI b) = nI (max a b) := by
  unfold jmax
  by_cases c : a < b
  · rw [if_pos (nI_lt c (by omega)), Nat.max_eq_right (by omega)]
  · rw [if_neg (nI_nlt (by omega) (by omega)), Nat.max_eq_left (by omega)]
theorem o_load {hx hm : Hp} {fu : Nat} (hf : 41 ≤ fu) (h : R hx hm) (x1 : Int32) : Eqv (X7_load fu x1 hx) (X8_load fu x1 hm) := by
  unfold X7_load X8_load X7_isSheet X8_isSheet
  rw [w8]
  rcases wn x1 (M := 3) 4 (by decide) (by decide) with ⟨q, -⟩ | ⟨s, q, r, t⟩
  · rw [q, if_pos rfl, if_pos rfl]; exact fB h
  · have hS := h.2.2.2.2.1
    obtain ⟨n, n1, n2, n3⟩ := szN hS q
    obtain ⟨np, p1, p2⟩ := npN h.2.1
    rw [t, if_neg n10, if_neg n10, r, shc_nI q, cl_nI (by omega), missX hS q, n2, p2, jmin_nI (by omega) (by omega)]
    simp only [ck_nI q (show 4 < 2147483648 by decide)]
    by_cases b : hm 9 s = 0
    · rw [if_pos b, if_neg n10, if_pos b]; exact fQ h
    · rw [if_neg b, if_pos rfl, if_neg b]
      exact loadL (hm0 := hm) q n1 p1 (min n np) 0 fu hx hm h p2 n3 (by omega) (by omega)
