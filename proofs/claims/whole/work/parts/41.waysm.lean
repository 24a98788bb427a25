theorem okT_np {hx : Hp} {c np F i b : Nat} (h : okT (td hx c np F) i b = true) : i < np := by
  unfold okT td at h
  by_cases a : (decide (i < np) && isH hx i) = true
  · rw [Bool.and_eq_true] at a; exact of_decide_eq_true a.1
  · rw [if_neg a, Nat.zero_testBit] at h; exact absurd h (by decide)
theorem okT_f {hx : Hp} {c np F i f : Nat} (hF : F ≤ 6) (hf : f < F) (hi : i < np) : okT (td hx c np F) i (5 - f) = (isH hx i && decide (lkH hx i f = hx (c + 1) f)) := by
  unfold okT td
  rw [show 5 - (5 - f) = f by omega, decide_eq_true hi, Bool.true_and]
  by_cases a : isH hx i = true
  · rw [if_pos a, bs_bit, decide_eq_true hf, a]; rfl
  · have a' : isH hx i = false := by simpa using a
    rw [if_neg a, Nat.zero_testBit, a']; rfl
theorem one_bs {i : Nat} (hi : i < 10) : bs (fun j => decide (j = i)) 10 = 2 ^ i := by
  apply Nat.eq_of_testBit_eq
  intro z
  rw [bs_bit, Nat.testBit_two_pow]
  by_cases e : z = i
  · subst e; simp [hi]
  · have : ¬ i = z := fun q => e q.symm
    simp [e, this]
theorem no_bs {P : Nat → Bool} (h : ∀ j, P j = false) : bs P 10 = 0 := by
  apply Nat.eq_of_testBit_eq
  intro z
  rw [bs_bit, h z, Nat.zero_testBit, Bool.and_false]
def wM (tds : Nat → Nat) (F f u : Nat) : Nat → Nat := sm (fun i => hU u i && okT tds i (5 - f)) (fun i => CF (okT tds) (SF F) (5 - f) (rmv (hU u) i))
theorem wFrom {hx hm : Hp} (h : R hx hm) {fu np s F a : Nat} {aq : Int32} (hfu : 12 ≤ fu) (np1 : np ≤ 10) (np2 : hx 1 10 = nI np) (hs : s < 4) (hF : F ≤ 6) (hq : ∀ f, f < 6 → (nI f = aq ↔ f = a)) : ∀ (d f dd u : Nat) (g : Hp), f + d = F → d < dd → u < 1024 → g 1 = hm 1 → g 11 = hm 11 → g 0 7 = aq → ∃ g1, X8_waysFrom fu dd (nI s) (nI f) (nI F) (nI u) g = some (nI (CF (okT (td hx (47 + 2 * s) np F)) (SF F) (6 - f) (hU u)), g1) ∧ g1 0 8 = g 0 8 ||| nI (bs (stQ (okT (td hx (47 + 2 * s) np F)) F a f u) 10) ∧ (∀ k, k ≠ 8 → g1 0 k = g 0 k) ∧ (∀ c, c ≠ 0 → g1 c = g c) := by
  have hI := h.2.1
  intro d
  induction d with
  | zero =>
    intro f dd u g hf hd hu e1 e2 e3
    obtain ⟨m, rfl⟩ : ∃ m, dd = m + 1 := ⟨dd - 1, by omega⟩
    have : f = F := by omega
    subst this
    rw [X8_waysFrom]
    dsimp only
    rw [if_pos rfl, CF_0 (6 - f) _ (fun b hb => by unfold SF; exact decide_eq_false (by omega)), no_bs (fun j => by
      unfold stQ
      by_cases z : f ≤ a
      · rw [decide_eq_false (show ¬ a < f by omega)]; simp
      · rw [decide_eq_false z]; rfl)]
    exact ⟨g, rfl, (or0 _).symm, fun _ _ => rfl, fun _ _ => rfl⟩
  | succ d ih =>
    intro f dd u g hf hd hu e1 e2 e3
    obtain ⟨m, rfl⟩ : ∃ m, dd = m + 1 := ⟨dd - 1, by omega⟩
    rw [X8_waysFrom]
    dsimp only
    rw [if_neg (fun z => by have := (nI_eq (by omega) (by omega)).mp z; omega)]
    have sT : SF F (5 - f) = true := by unfold SF; exact decide_eq_true (by omega)
    have loop : ∀ (e i n : Nat) (g : Hp), i + e = np → e < n → g 1 = hm 1 → g 11 = hm 11 → g 0 7 = aq → ∃ g1, X8_waysFrom_13 fu (X8_waysFrom fu m) n (nI s) (nI f) (nI F) (nI u) (nI (wM (td hx (47 + 2 * s) np F) F f u i)) (nI i) g = some (nI (wM (td hx (47 + 2 * s) np F) F f u np), g1) ∧ g1 0 8 = g 0 8 ||| nI (bs (anyR (cQ (okT (td hx (47 + 2 * s) np F)) F a f u) i e) 10) ∧ (∀ k, k ≠ 8 → g1 0 k = g 0 k) ∧ (∀ c, c ≠ 0 → g1 c = g c) := by
      intro e
      induction e with
      | zero =>
        intro i n g hi hn e1 e2 e3
        obtain ⟨q, rfl⟩ : ∃ m, n = m + 1 := ⟨n - 1, by omega⟩
        have : i = np := by omega
        subst this
        have hRg : HR 1 1 hx g := h.1.frame (fun _ _ => rfl) e1
        rw [X8_waysFrom_13, rnp hRg, np2, if_pos (nI_le (by omega) (by omega)), no_bs (P := anyR (cQ (okT (td hx (47 + 2 * s) i F)) F a f u) i 0) (fun j => rfl)]
        exact ⟨g, rfl, (or0 _).symm, fun _ _ => rfl, fun _ _ => rfl⟩
      | succ e ihe =>
        intro i n g hi hn e1 e2 e3
        obtain ⟨q, rfl⟩ : ∃ m, n = m + 1 := ⟨n - 1, by omega⟩
        have hRg : HR 1 1 hx g := h.1.frame (fun _ _ => rfl) e1
        have num : g 11 (40 * s + f) = hx (47 + 2 * s + 1) f := by
          rw [e2, show 47 + 2 * s + 1 = 48 + 2 * s by omega]
          exact ((h.2.2.2.2.1 s hs).2.2.2.2.2 f (by omega)).symm
        -- this head does not count
        have skip : (hU u i && okT (td hx (47 + 2 * s) np F) i (5 - f)) = false → ∃ g1, X8_waysFrom_13 fu (X8_waysFrom fu m) q (nI s) (nI f) (nI F) (nI u) (nI (wM (td hx (47 + 2 * s) np F) F f u i)) (nI (i + 1)) g = some (nI (wM (td hx (47 + 2 * s) np F) F f u np), g1) ∧ g1 0 8 = g 0 8 ||| nI (bs (anyR (cQ (okT (td hx (47 + 2 * s) np F)) F a f u) i (e + 1)) 10) ∧ (∀ k, k ≠ 8 → g1 0 k = g 0 k) ∧ (∀ c, c ≠ 0 → g1 c = g c) := by
          intro no
          have w : wM (td hx (47 + 2 * s) np F) F f u (i + 1) = wM (td hx (47 + 2 * s) np F) F f u i := by
            show wM _ F f u i + (if (hU u i && okT (td hx (47 + 2 * s) np F) i (5 - f)) then _ else 0) = _
            rw [no]; rfl
          obtain ⟨g1, a1, a2, a3, a4⟩ := ihe (i + 1) q g (by omega) (by omega) e1 e2 e3
          rw [w] at a1
          refine ⟨g1, a1, ?_, a3, a4⟩
          rw [a2]
          congr 2
          refine bs_ext (fun j _ => ?_)
          show _ = (cQ (okT (td hx (47 + 2 * s) np F)) F a f u i j || anyR _ (i + 1) e j)
          have : cQ (okT (td hx (47 + 2 * s) np F)) F a f u i j = false := by unfold cQ; rw [no]; rfl
          rw [this, Bool.false_or]
        have i10 : i < 10 := by omega
        have hui : hU u i = !u.testBit i := by unfold hU; rw [decide_eq_true i10, Bool.true_and]
        have oki := okT_f (hx := hx) (c := 47 + 2 * s) (np := np) hF (show f < F by omega) (show i < np by omega)
        rw [X8_waysFrom_13, rnp hRg, np2, if_neg (nI_ge (by omega) (by omega)), has_nI u hu i i10, headM (by omega) hRg hI i10, likeM (by omega) hRg hI i10 (show f < 6 by omega), show (40 : Int32) * nI s = nI (40 * s) from pk_mul 40 s, nI_add, nI_1 i]
        by_cases b : u.testBit i = true
        · rw [if_pos b, if_neg n10]
          exact skip (by rw [hui, b]; rfl)
        rw [if_neg b, if_pos rfl, bnd_s]
        by_cases hd1 : isH hx i = true
        case neg =>
          rw [if_neg hd1, if_pos rfl]
          exact skip (by rw [oki]; simp [hd1])
        rw [if_pos hd1, if_neg n10, bnd_s, ck_nI (by omega) (by decide), cl_nI (show 40 * s + f < 2147483648 by omega), num]
        by_cases lk : lkH hx i f = hx (47 + 2 * s + 1) f
        case neg =>
          rw [if_neg lk]
          exact skip (by rw [oki, decide_eq_false lk]; simp)
        have yes : (hU u i && okT (td hx (47 + 2 * s) np F) i (5 - f)) = true := by rw [hui, oki, hd1, decide_eq_true lk]; simpa using b
        rw [if_pos lk, or_bit (by omega), nI_1 f]
        obtain ⟨g2, b1, b2, b3, b4⟩ := ih (f + 1) m (u ||| 2 ^ i) g (by omega) (by omega) (or_lt10 hu i10) e1 e2 e3
        rw [b1, bnd_s]
        dsimp only
        have e7 : g2 0 7 = aq := by rw [b3 7 (by decide)]; exact e3
        have cb := CF_b (ok := okT (td hx (47 + 2 * s) np F)) (S := SF F) (6 - (f + 1)) (hU (u ||| 2 ^ i))
        have cb2 : 10 ^ (6 - (f + 1)) ≤ 10 ^ 6 := Nat.pow_le_pow_right (by omega) (by omega)
        rw [nI_add]
        have w : wM (td hx (47 + 2 * s) np F) F f u (i + 1) = wM (td hx (47 + 2 * s) np F) F f u i + CF (okT (td hx (47 + 2 * s) np F)) (SF F) (6 - (f + 1)) (hU (u ||| 2 ^ i)) := by
          show wM _ F f u i + (if (hU u i && okT (td hx (47 + 2 * s) np F) i (5 - f)) then _ else 0) = _
          rw [if_pos yes, hU_or, show 6 - (f + 1) = 5 - f by omega]
        rw [← w]
        have fin : ∀ X : Nat, g2 0 8 ||| nI X = g 0 8 ||| nI (bs (cQ (okT (td hx (47 + 2 * s) np F)) F a f u i) 10) → ∃ g1, X8_waysFrom_13 fu (X8_waysFrom fu m) q (nI s) (nI f) (nI F) (nI u) (nI (wM (td hx (47 + 2 * s) np F) F f u (i + 1))) (nI (i + 1)) (up g2 0 8 (g2 0 8 ||| nI X)) = some (nI (wM (td hx (47 + 2 * s) np F) F f u np), g1) ∧ g1 0 8 = g 0 8 ||| nI (bs (anyR (cQ (okT (td hx (47 + 2 * s) np F)) F a f u) i (e + 1)) 10) ∧ (∀ k, k ≠ 8 → g1 0 k = g 0 k) ∧ (∀ c, c ≠ 0 → g1 c = g c) := by
          intro X hX
          obtain ⟨g1, a1, a2, a3, a4⟩ := ihe (i + 1) q (up g2 0 8 (g2 0 8 ||| nI X)) (by omega) (by omega) (by rw [up_ne (by decide), b4 1 (by decide)]; exact e1) (by rw [up_ne (by decide), b4 11 (by decide)]; exact e2) (by rw [up_nj (by decide), b3 7 (by decide)]; exact e3)
          refine ⟨g1, a1, ?_, fun k hk => by rw [a3 k hk, up_nj hk, b3 k hk], fun c hc => by rw [a4 c hc, up_ne hc, b4 c hc]⟩
          rw [a2, up_eq, hX, orA, nx_or, bs_or]
          rfl
        by_cases fa : f = a
        · rw [if_pos (show nI f = g2 0 7 by rw [e7]; exact (hq f (by omega)).mpr fa)]
          have st0 : bs (stQ (okT (td hx (47 + 2 * s) np F)) F a (f + 1) (u ||| 2 ^ i)) 10 = 0 := no_bs (fun j => by unfold stQ; rw [decide_eq_false (show ¬ f + 1 ≤ a by omega)]; rfl)
          have g8 : g2 0 8 = g 0 8 := by rw [b2, st0]; exact or0 _
          by_cases c0 : 0 < CF (okT (td hx (47 + 2 * s) np F)) (SF F) (6 - (f + 1)) (hU (u ||| 2 ^ i))
          · rw [if_neg (show ¬ nI (CF (okT (td hx (47 + 2 * s) np F)) (SF F) (6 - (f + 1)) (hU (u ||| 2 ^ i))) ≤ 0 from nI_ge (a := 0) (by omega) (by omega)), shl1 i (by omega)]
            refine fin (2 ^ i) ?_
            rw [g8, ← one_bs i10]
            congr 2
            refine bs_ext (fun j _ => ?_)
            unfold cQ
            rw [yes, if_pos fa, show 5 - f = 6 - (f + 1) by omega, decide_eq_true c0]; simp
          · rw [if_pos (show nI (CF (okT (td hx (47 + 2 * s) np F)) (SF F) (6 - (f + 1)) (hU (u ||| 2 ^ i))) ≤ 0 from nI_le (b := 0) (by omega) (by omega))]
            refine fin 0 ?_
            rw [g8, no_bs (P := cQ (okT (td hx (47 + 2 * s) np F)) F a f u i) (fun j => by
              unfold cQ
              rw [if_pos fa, show 5 - f = 6 - (f + 1) by omega, decide_eq_false c0]; simp)]
        · rw [if_neg (show ¬ nI f = g2 0 7 by rw [e7]; exact fun z => fa ((hq f (by omega)).mp z))]
          refine fin 0 ?_
          rw [show nI 0 = 0 from rfl, or0, b2]
          congr 2
          refine bs_ext (fun j _ => ?_)
          unfold cQ
          rw [yes, if_neg fa, Bool.true_and]
    obtain ⟨g1, a1, a2, a3, a4⟩ := loop np 0 fu g (by omega) (by omega) e1 e2 e3
    refine ⟨g1, ?_, ?_, a3, a4⟩
    · rw [show X8_waysFrom_13 fu (X8_waysFrom fu m) fu (nI s) (nI f) (nI F) (nI u) 0 0 g = _ from a1, show 6 - f = (5 - f) + 1 by omega, CF_t sT]
      have more : ∀ e, np + e ≤ 10 → wM (td hx (47 + 2 * s) np F) F f u (np + e) = wM (td hx (47 + 2 * s) np F) F f u np := by
        intro e
        induction e with
        | zero => intro _; rfl
        | succ e ihe =>
          intro he
          show wM _ F f u (np + e) + (if (hU u (np + e) && okT (td hx (47 + 2 * s) np F) (np + e) (5 - f)) then _ else 0) = _
          rw [ihe (by omega), if_neg (by
            rw [Bool.and_eq_true]
            exact fun z => by have := okT_np z.2; omega), Nat.add_zero]
      have := more (10 - np) (by omega)
      rw [show np + (10 - np) = 10 by omega] at this
      rw [← this]
      rfl
    · rw [a2]
      congr 2
      exact bs_ext (fun j _ => stand_eq hF (by omega) np1 (fun i b hb => okT_np hb))
