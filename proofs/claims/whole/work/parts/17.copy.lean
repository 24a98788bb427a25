theorem t64 (x : Int32) : x.toInt64.toInt = x.toInt := by simp
theorem t64add (x y : Int32) : (x.toInt64 + y.toInt64).toInt = x.toInt + y.toInt := by
  rw [Int64.toInt_add, t64, t64, Int.bmod_def]
  have a1 := Int32.le_toInt x
  have a2 := Int32.toInt_lt x
  have b1 := Int32.le_toInt y
  have b2 := Int32.toInt_lt y
  split <;> omega
theorem hasRun_eq {h : Hp} {c sz : Nat} (e : h c 2 = nI sz) (hz : sz ≤ 40) (a n : Int32) : X4_hasRun c a n h = if 0 ≤ a.toInt ∧ 0 ≤ n.toInt ∧ a.toInt + n.toInt ≤ sz then 1 else 0 := by
  unfold X4_hasRun
  rw [e]
  by_cases c1 : a < 0
  · rw [if_pos c1, if_neg (by rw [ti_lt, ti_lit0] at c1; omega)]
  · rw [if_neg c1]
    rw [ti_lt, ti_lit0] at c1
    by_cases c2 : n < 0
    · rw [if_pos c2, if_neg (by rw [ti_lt, ti_lit0] at c2; omega)]
    · rw [if_neg c2]
      rw [ti_lt, ti_lit0] at c2
      have a2 := Int32.toInt_lt a
      have e1 : (nI sz - a).toInt = sz - a.toInt := by
        rw [ti_sub, ti_nI (by omega)]
        all_goals rw [ti_nI (by omega)]; omega
      by_cases c3 : nI sz - a < n
      · rw [if_pos c3, if_neg (by rw [ti_lt, e1] at c3; omega)]
      · rw [if_neg c3, if_pos (by rw [ti_lt, e1] at c3; omega)]
theorem cpL1 {fu s a t b c : Nat} (hs : s < 4) (hac : a + c ≤ 40) : ∀ (k i n : Nat) (h : Hp), i + k = c → k < n → ∃ h1, X8_copy_127 fu n (nI s) (nI a) (nI t) (nI b) (nI c) (nI i) h = X8_copy_164 fu fu (nI t) (nI b) (nI c) 0 h1 ∧ (∀ j, i ≤ j → j < c → h1 12 j = h 11 (40 * s + a + j)) ∧ (∀ j, j < i → h1 12 j = h 12 j) ∧ (∀ q, q ≠ 12 → h1 q = h q) := by
  intro k
  induction k with
  | zero =>
    intro i n h hi hn
    obtain ⟨m, rfl⟩ : ∃ m, n = m + 1 := ⟨n - 1, by omega⟩
    rw [X8_copy_127, if_pos (nI_le (by omega) (by omega))]
    exact ⟨h, rfl, fun j a b => by omega, fun j _ => rfl, fun q _ => rfl⟩
  | succ k ih =>
    intro i n h hi hn
    obtain ⟨m, rfl⟩ : ∃ m, n = m + 1 := ⟨n - 1, by omega⟩
    rw [X8_copy_127, if_neg (nI_ge (by omega) (by omega)), show (40 : Int32) * nI s = nI (40 * s) from pk_mul 40 s, nI_add, nI_add, ck_nI (by omega) (by decide), ck_nI (by omega) (by decide), cl_nI (by omega), cl_nI (by omega), nI_1]
    obtain ⟨h1, e1, e2, e3, e4⟩ := ih (i + 1) m (up h 12 i (h 11 (40 * s + a + i))) (by omega) (by omega)
    refine ⟨h1, e1, fun j e f => ?_, fun j e => ?_, fun q hq => ?_⟩
    · by_cases z : j = i
      · subst z; rw [e3 j (by omega), up_eq]
      · rw [e2 j (by omega) f, up_ne (by omega)]
    · rw [e3 j (by omega), up_nj (by omega)]
    · rw [e4 q hq, up_ne hq]
theorem cpL2 {fu t b c : Nat} (ht : t < 4) (hbc : b + c ≤ 40) : ∀ (k i n : Nat) (h : Hp), i + k = c → k < n → ∃ h1, X8_copy_164 fu n (nI t) (nI b) (nI c) (nI i) h = some (nI c, h1) ∧ (∀ j, i ≤ j → j < c → h1 11 (40 * t + b + j) = h 12 j) ∧ (∀ j, j < 40 * t + b + i ∨ 40 * t + b + c ≤ j → h1 11 j = h 11 j) ∧ (∀ q, q ≠ 11 → h1 q = h q) := by
  intro k
  induction k with
  | zero =>
    intro i n h hi hn
    obtain ⟨m, rfl⟩ : ∃ m, n = m + 1 := ⟨n - 1, by omega⟩
    rw [X8_copy_164, if_pos (nI_le (by omega) (by omega))]
    exact ⟨h, rfl, fun j a b => by omega, fun j _ => rfl, fun q _ => rfl⟩
  | succ k ih =>
    intro i n h hi hn
    obtain ⟨m, rfl⟩ : ∃ m, n = m + 1 := ⟨n - 1, by omega⟩
    rw [X8_copy_164, if_neg (nI_ge (by omega) (by omega)), show (40 : Int32) * nI t = nI (40 * t) from pk_mul 40 t, nI_add, nI_add, ck_nI (by omega) (by decide), ck_nI (by omega) (by decide), cl_nI (by omega), cl_nI (by omega), nI_1]
    obtain ⟨h1, e1, e2, e3, e4⟩ := ih (i + 1) m (up h 11 (40 * t + b + i) (h 12 i)) (by omega) (by omega)
    refine ⟨h1, e1, fun j e f => ?_, fun j e => ?_, fun q hq => ?_⟩
    · by_cases z : j = i
      · subst z; rw [e3 _ (by omega), up_eq]
      · rw [e2 j (by omega) f, up_ne (by omega)]
    · rw [e3 j (by omega), up_nj (by omega)]
    · rw [e4 q hq, up_ne hq]
theorem o_copy {hx hm : Hp} {fu : Nat} (hf : 41 ≤ fu) (h : R hx hm) (x1 x2 x3 x4 x5 : Int32) : Eqv (X7_copy x1 x2 x3 x4 x5 hx) (X8_copy fu x1 x2 x3 x4 x5 hm) := by
  unfold X7_copy X8_copy X7_isSheet X8_isSheet
  rw [w8]
  rcases wn x1 (M := 3) 4 (by decide) (by decide) with ⟨q, -⟩ | ⟨s, qs, rs, ts⟩
  · rw [q, if_pos rfl, if_pos rfl]; exact fB h
  · rw [ts, if_neg n10, if_neg n10]
    rcases wn x3 (M := 3) 4 (by decide) (by decide) with ⟨q, -⟩ | ⟨t, qt, rt, tt⟩
    · rw [q, if_pos rfl, if_pos rfl]; exact fB h
    · have hS := h.2.2.2.2.1
      obtain ⟨n, n1, n2, n3⟩ := szN hS qs
      obtain ⟨o, o1, o2, o3⟩ := szN hS qt
      rw [tt, if_neg n10, if_neg n10, rs, rt, shc_nI qs, shc_nI qt, cl_nI (by omega), cl_nI (by omega), missX hS qs, missX hS qt]
      simp only [ck_nI qs (show 4 < 2147483648 by decide), ck_nI qt (show 4 < 2147483648 by decide)]
      by_cases b : hm 9 s = 0
      · rw [if_pos b, if_neg n10, if_pos b]; exact fQ h
      · rw [if_neg b, if_pos rfl, if_neg b]
        by_cases b2 : hm 9 t = 0
        · rw [if_pos b2, if_neg n10, if_pos b2]; exact fQ h
        · rw [if_neg b2, if_pos rfl, if_neg b2, (hS s qs).1, (hS t qt).1]
          by_cases b3 : hm 9 s = hm 9 t
          · rw [if_pos b3, if_pos b3, n3, o3]
            have hr1 := hasRun_eq n2 n1 x2 x5
            have hr2 := hasRun_eq o2 o1 x4 x5
            have c64 : ∀ (u v : Int32) (z : Nat), z ≤ 40 → ((0 < lg_cmp (u.toInt64 + v.toInt64) (nI z).toInt64) ↔ (z : Int) < u.toInt + v.toInt) := by
              intro u v z hz
              rw [lg_cmp_gt, Int64.lt_iff_toInt_lt, t64add, t64, ti_nI (by omega)]
            have d64 : ∀ (u v : Int32) (z : Nat), z ≤ 40 → ((lg_cmp (u.toInt64 + v.toInt64) (nI z).toInt64 ≤ 0) ↔ u.toInt + v.toInt ≤ (z : Int)) := by
              intro u v z hz
              rw [lg_cmp_le, Int64.le_iff_toInt_le, t64add, t64, ti_nI (by omega)]
            by_cases g : 0 ≤ x2.toInt ∧ 0 ≤ x4.toInt ∧ 0 ≤ x5.toInt ∧ x2.toInt + x5.toInt ≤ n ∧ x4.toInt + x5.toInt ≤ o
            · obtain ⟨g1, g2, g3, g4, g5⟩ := g
              rw [if_pos ⟨g1, g3, g4⟩] at hr1
              rw [if_pos ⟨g2, g3, g5⟩] at hr2
              rw [hr1, hr2, if_neg n10, if_neg n10, if_neg (by rw [ti_lt, ti_lit0]; omega), if_neg (by rw [ti_lt, ti_lit0]; omega), if_neg (by rw [ti_lt, ti_lit0]; omega), if_neg (by rw [c64 _ _ _ n1]; omega), if_pos (by rw [d64 _ _ _ o1]; omega)]
              obtain ⟨a, ea⟩ : ∃ a : Nat, x2.toInt = a := ⟨x2.toInt.toNat, by omega⟩
              obtain ⟨bb, eb⟩ : ∃ a : Nat, x4.toInt = a := ⟨x4.toInt.toNat, by omega⟩
              obtain ⟨c, ec⟩ : ∃ a : Nat, x5.toInt = a := ⟨x5.toInt.toNat, by omega⟩
              have fa : x2 = nI a := by rw [ti_of g1, ea]; rfl
              have fb : x4 = nI bb := by rw [ti_of g2, eb]; rfl
              have fc : x5 = nI c := by rw [ti_of g3, ec]; rfl
              rw [fa, fb, fc]
              have ok : cpOk (nI a) (nI bb) (nI c) 40 40 = true := by
                unfold cpOk
                rw [cl_nI (by omega), cl_nI (by omega), cl_nI (by omega), decide_eq_true (nI_pos' (by omega)), decide_eq_true (nI_pos' (by omega)), decide_eq_true (nI_pos' (by omega)), decide_eq_true (by omega), decide_eq_true (by omega)]; rfl
              rw [ok, chk_t, cl_nI (by omega), cl_nI (by omega), cl_nI (by omega)]
              obtain ⟨m1, u1, u2, u3, u4⟩ := cpL1 (fu := fu) (t := t) (b := bb) qs (show a + c ≤ 40 by omega) c 0 fu hm (by omega) (by omega)
              obtain ⟨m2, v1, v2, v3, v4⟩ := cpL2 (fu := fu) qt (show bb + c ≤ 40 by omega) c 0 fu m1 (by omega) (by omega)
              rw [show (0 : Int32) = nI 0 from rfl, u1, show (0 : Int32) = nI 0 from rfl, v1]
              have m9 : m2 9 = hm 9 := by rw [v4 9 (by omega), u4 9 (by omega)]
              have mA : m2 10 = hm 10 := by rw [v4 10 (by omega), u4 10 (by omega)]
              refine ⟨_, _, _, rfl, rfl, h.sheets (fun k _ hk => upA_ne (by omega)) (fun k kc k1 k2 k3 => by rw [v4 k k3, u4 k (fun z => by subst z; rcases kc with z | z | z | z | z | z | z <;> omega)]) (by rw [v4 0 (by omega), u4 0 (by omega)]) (by rw [v4 0 (by omega), u4 0 (by omega)]) (fun s1 hs1 => ?_)⟩
              obtain ⟨w1, w2, w3, w4, w5, w6⟩ := hS s1 hs1
              rw [m9, mA, upA_ne (by omega)]
              refine ⟨w1, w2, w3, w4, w5, fun j hj => ?_⟩
              by_cases z : s1 = t
              · subst z
                rw [show 48 + 2 * s1 = 47 + 2 * s1 + 1 by omega, upA_at]
                unfold va_cpy
                by_cases y : bb ≤ j ∧ j < bb + c
                · rw [if_pos y]
                  have e1 := v2 (j - bb) (by omega) (by omega)
                  rw [show 40 * s1 + bb + (j - bb) = 40 * s1 + j by omega] at e1
                  rw [e1, u2 (j - bb) (by omega) (by omega)]
                  have := (hS s qs).2.2.2.2.2 (a + (j - bb)) (by omega)
                  rw [show 40 * s + (a + (j - bb)) = 40 * s + a + (j - bb) by omega, show 48 + 2 * s = 47 + 2 * s + 1 by omega] at this
                  exact this
                · rw [if_neg y, v3 _ (by omega), u4 11 (by omega), ← w6 j hj, show 48 + 2 * s1 = 47 + 2 * s1 + 1 by omega]
              · rw [upA_ne (by omega), v3 _ (by omega), u4 11 (by omega)]; exact w6 j hj
            · have FB := fB h
              by_cases g1 : 0 ≤ x2.toInt ∧ 0 ≤ x5.toInt ∧ x2.toInt + x5.toInt ≤ n
              · rw [if_pos g1] at hr1
                rw [if_neg (show ¬ (0 ≤ x4.toInt ∧ 0 ≤ x5.toInt ∧ x4.toInt + x5.toInt ≤ (o : Int)) by omega)] at hr2
                rw [hr1, hr2, if_neg n10, if_pos rfl]
                repeat' split
                all_goals first
                  | exact FB
                  | (rename_i q1 q2 q3 q4 q5; rw [ti_lt, ti_lit0] at q1 q2 q3; rw [c64 _ _ _ n1] at q4; rw [d64 _ _ _ o1] at q5; omega)
              · rw [if_neg g1] at hr1
                rw [hr1, if_pos rfl]
                repeat' split
                all_goals first
                  | exact FB
                  | (rename_i q1 q2 q3 q4 q5; rw [ti_lt, ti_lit0] at q1 q2 q3; rw [c64 _ _ _ n1] at q4; rw [d64 _ _ _ o1] at q5; omega)
          · rw [if_neg b3, if_neg b3]; exact fK h
/-! feeding -/
theorem nar8 (x : Int32) : vp_nar .byte x.toInt8.toInt32 = x.toInt8.toInt32 := pk_vb x
theorem b255 (x : Int32) : x.toInt8.toInt32 &&& 255 = x &&& 255 := by
  apply Int32.toBitVec_inj.mp
  rw [Int32.toBitVec_and, Int32.toBitVec_and, Int8.toBitVec_toInt32, Int32.toBitVec_toInt8]
  apply BitVec.eq_of_getLsbD_eq
  intro i hi
  rw [BitVec.getLsbD_and, BitVec.getLsbD_and]
  have hm : ∀ i < 32, 8 ≤ i → (255 : Int32).toBitVec.getLsbD i = false := by decide
  rcases Nat.lt_or_ge i 8 with z | z
  · rw [BitVec.getLsbD_signExtend, BitVec.getLsbD_signExtend, if_pos z, if_pos hi]
    simp only [z, hi, decide_true, Bool.true_and]
  · rw [hm i hi z]; simp
theorem feedL {fu : Nat} (x1 : Int32) : ∀ (k n l : Nat) (hx hm : Hp), R hx hm → hm 0 10 = nI l → l + k ≤ 120 → k < n → Eqv (X7_feed_41 fu n x1 (nI k - 1) hx) (X8_feed_38 fu n x1 (nI k - 1) hm) := by
  intro k
  induction k with
  | zero =>
    intro n l hx hm h e hl hn
    obtain ⟨m, rfl⟩ : ∃ m, n = m + 1 := ⟨n - 1, by omega⟩
    rw [X7_feed_41, X8_feed_38, if_pos (by decide), if_pos (by decide), h.2.2.2.1.1]
    exact ⟨_, _, _, rfl, rfl, h⟩
  | succ k ih =>
    intro n l hx hm h e hl hn
    obtain ⟨m, rfl⟩ : ∃ m, n = m + 1 := ⟨n - 1, by omega⟩
    rw [nI_pred, X7_feed_41, X8_feed_38, if_neg (nI_pos (by omega)), if_neg (nI_pos (by omega))]
    unfold X5_append
    have T := h.2.2.2.1
    have ex : hx 40 1 = nI l := T.1.trans e
    rw [ex, e, ck_nI (by omega) (by decide), ck_nI (by omega) (by decide), cl_nI (by omega), bnd_s, nar8]
    generalize hv : x1 >>> (8 * nI k &&& 31) = v
    rw [show up hx 41 l v.toInt8.toInt32 40 1 = nI l by rw [up_ne (by omega)]; exact ex, show up hm 6 l (v &&& 255) 0 10 = nI l by rw [up_ne (by omega)]; exact e, nI_1]
    rw [show nI k + (-1) = nI k - 1 from (Int32.sub_eq_add_neg _ _).symm]
    refine ih m (l + 1) _ _ ?_ (by rw [up_eq]) (by omega) (by omega)
    refine h.tape (fun k _ h1 h2 => by rw [up_ne h1, up_ne h2]) (fun k kc h1 => by rw [up_ne (fun z => by subst z; rcases kc with z | z | z | z | z | z | z <;> omega), up_ne h1]) (by rw [up_nj (by omega), up_ne (by omega)]) ⟨by rw [up_eq, up_eq], by rw [up_eq, ti_nI (by omega)]; omega, by rw [up_eq, ti_nI (by omega)]; omega, fun i hi => ?_⟩
    rw [up_eq, ti_nI (by omega)] at hi
    rw [up_ne (h := up hm 6 l (v &&& 255)) (by omega), up_ne (h := up hx 41 l v.toInt8.toInt32) (by omega)]
    by_cases z : i = l
    · subst z
      rw [up_eq, up_eq, b255, Int8.toInt_toInt32]
      have := Int8.le_toInt v.toInt8
      have := Int8.toInt_lt v.toInt8
      exact ⟨rfl, by omega, by omega⟩
    · rw [up_nj z, up_nj z]; exact T.2.2.2 i (by rw [e, ti_nI (by omega)]; omega)
theorem o_feed {hx hm : Hp} {fu : Nat} (hf : 6 ≤ fu) (h : R hx hm) (x1 x2 : Int32) : Eqv (X7_feed fu x1 x2 hx) (X8_feed fu x1 x2 hm) := by
  unfold X7_feed X8_feed
  rw [w8]
  rcases wr x2 1 4 with ⟨a, b⟩ | ⟨a, b, c⟩
  · rw [a, if_pos rfl, if_pos rfl]; exact fB h
  · have T := h.2.2.2.1
    rw [ti_lit1] at b
    have e4 : (4 : Int32).toInt = 4 := rfl
    obtain ⟨l, l1, l2⟩ := ti_ex (x := hm 0 10) (b := 120) T.2.1 T.2.2.1
    obtain ⟨k, k1, k2⟩ := ti_ex (x := x2) (b := 4) (by omega) (by omega)
    rw [a, if_neg n10, if_neg n10, T.1, l2, k2, nI_add]
    by_cases d : l + k ≤ 120
    · rw [if_pos (show nI (l + k) ≤ 120 from nI_le (b := 120) d (by decide)), if_pos (show nI (l + k) ≤ 120 from nI_le (b := 120) d (by decide))]
      exact feedL x1 k fu l hx hm h l2 d (by omega)
    · rw [if_neg (show ¬ nI (l + k) ≤ 120 from nI_ge (a := 120) (by omega) (by omega)), if_neg (show ¬ nI (l + k) ≤ 120 from nI_ge (a := 120) (by omega) (by omega))]; exact fF h
