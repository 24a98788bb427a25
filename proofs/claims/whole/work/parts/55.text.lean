theorem upA_upA {g : Hp} {f f1 : Nat → Int32} : upA (upA g 1 f) 1 f1 = upA g 1 f1 := by
  funext q
  by_cases e : q = 1
  · subst e; rw [upA_at, upA_at]
  · rw [upA_ne e, upA_ne e, upA_ne e]
theorem upA_id {g : Hp} {f : Nat → Int32} (e : f = g 1) : upA g 1 f = g := by
  funext q
  by_cases y : q = 1
  · subst y; rw [upA_at, e]
  · rw [upA_ne y]
theorem tx113 {fu M : Nat} {g : Hp} (e : g 0 18 = nI M) (hM : M ≤ 120) : ∀ m n c, m ≤ M → RUN (g 8) m (g 1) c → X8_text_113 fu (m + n) 0 0 g = X8_text_113 fu n (nI m) (nI m) (upA g 1 c) := by
  intro m
  induction m with
  | zero =>
    intro n c _ h
    have h1 : c = g 1 := h
    rw [upA_id h1, Nat.zero_add]; rfl
  | succ m ih =>
    intro n c hm h
    obtain ⟨d, h1, q, hq, h2⟩ := h
    rw [show m + 1 + n = m + (n + 1) by omega, ih (n + 1) d (by omega) h1, X8_text_113, upA_ne (by decide), e, if_neg (nI_ge (by omega) (by omega)), show (4 : Int32) * nI m = nI (4 * m) from pk_mul 4 m, h2 m (upA g 1 d) (by omega) (by rw [upA_ne (by decide)]) (by rw [upA_ne (by decide)]) (by rw [upA_ne (by decide)]) (by rw [upA_ne (by decide)]) upA_at, bnd_s]
    dsimp only
    rw [if_pos hq, upA_upA, nI_1]
theorem mustE {fu : Nat} {g : Hp} (e : g 0 15 = 1) (x : Int32) : X8_must fu x g = some g := by
  unfold X8_must
  rw [if_neg (by rw [e]; decide), up_eq, if_neg (by decide), up_id e]
/-- both ends: wrong, or right -/
def TxF (hx0 hm0 : Hp) (A C : Option (Int32 × Hp)) : Prop :=
  (∃ p h1 g1, p ≤ 120 ∧ A = some (-1 - nI p, h1) ∧ C = some (-1 - nI p, g1) ∧ HF hx0 h1 ∧ (∀ c, c ≠ 0 → c ≠ 8 → g1 c = hm0 c) ∧ g1 0 3 = hm0 0 3 ∧ g1 0 10 = 0) ∨
  (∃ m1 k1 h1 g1 r1, m1 ≤ 121 ∧ A = some (nI m1, At h1 k1) ∧ C = some (nI m1, upA g1 1 r1) ∧ HF hx0 h1 ∧ (∀ c, c ≠ 0 → c ≠ 8 → g1 c = hm0 c) ∧ g1 0 3 = hm0 0 3 ∧ g1 0 10 = 0 ∧ R (vxh hx0 h1) (upA hm0 1 r1))
theorem tx_wr {fu n : Nat} {g : Hp} (e : g 0 15 = 1) : X8_text_33 fu (n + 1) g = some (-1 - g 0 11, up g 0 10 0) := by
  rw [X8_text_33, if_neg (by rw [e]; decide), mustE e, mustE e, bnd_s]
  have a : up g 0 10 0 0 15 = 1 := by rw [up_nj (by decide)]; exact e
  have c : up g 0 10 0 0 11 = g 0 11 := up_nj (by decide)
  rw [a, if_neg n10, c, ite_self]
theorem HF.at {h0 h : Hp} (a : HF h0 h) {k : Nat} : HF h0 (At h k) := a.up (by omega)
theorem text_loop {b : Nat → Int32} {L T fu : Nat} {hx0 hm0 : Hp} (hf : 400 ≤ fu) : ∀ d k m n1 n2 h g r, T ≤ k + d → k ≤ T → 2 * m ≤ k → d < n1 → d < n2 → TT b L T h → GS b L k g → INV hx0 hm0 h g m r → TxF hx0 hm0 (X3_read_11 fu n1 (nI m) (At h k)) (bnd (X8_readItem fu g) (fun h4 => X8_text_33 fu n2 h4)) := by
  intro d
  induction d with
  | zero =>
    intro k m n1 n2 h g r hT hk hm h1 h2 t s iv
    obtain ⟨x, rfl⟩ : ∃ x, n1 = x + 1 := ⟨n1 - 1, by omega⟩
    obtain ⟨y, rfl⟩ : ∃ y, n2 = y + 1 := ⟨n2 - 1, by omega⟩
    have tL := t.1
    have tL2 := t.2.1
    rw [X3_read_11, if_neg (show ¬ (120 : Int32) ≤ nI m from nI_ge (b := 120) (by omega) (by decide))]
    rcases item_sim (fu := fu) t s hk (by omega) iv (by omega) with ⟨k1, h3, g3, r3, a1, a2, a3, a4, a5, a6, a7⟩ | ⟨k1, h3, g3, a2, a3, a4, a5, a6, a7⟩
    · omega
    · rw [a3, bnd_s, if_pos rfl, a4, bnd_s, tx_wr a7.1]
      dsimp only
      rw [At_at, ck_nI (by omega) (by decide), cl_nI (by omega), At_ne (by decide), (a5.2.2.2.2 k1 a2).2.2.1, a7.2.1]
      left
      exact ⟨_, _, _, by have := (tkB_b (b := b) (tp_L (b := b) (L := L) k1)).2; omega, rfl, rfl, a6.at, fun c c1 c2 => by rw [up_ne c1]; exact a7.2.2.1 c c1 c2, by rw [up_nj (by decide)]; exact a7.2.2.2.1, up_eq⟩
  | succ d ih =>
    intro k m n1 n2 h g r hT hk hm h1 h2 t s iv
    obtain ⟨x, rfl⟩ : ∃ x, n1 = x + 1 := ⟨n1 - 1, by omega⟩
    obtain ⟨y, rfl⟩ : ∃ y, n2 = y + 1 := ⟨n2 - 1, by omega⟩
    have tL := t.1
    have tL2 := t.2.1
    rw [X3_read_11, if_neg (show ¬ (120 : Int32) ≤ nI m from nI_ge (b := 120) (by omega) (by decide))]
    rcases item_sim (fu := fu) t s hk (by omega) iv (by omega) with ⟨k1, h3, g3, r3, a1, a2, a3, a4, a5, a6, a7⟩ | ⟨k1, h3, g3, a2, a3, a4, a5, a6, a7⟩
    · have bB := (tkB_b (b := b) (tp_L (b := b) (L := L) k1)).2
      obtain ⟨b1, b2, b3, b4⟩ := a7
      rw [a3, bnd_s, if_neg n10, a4, bnd_s]
      dsimp only
      simp only [At_at, ck_nI (show k1 < 121 by omega) (show 121 < 2147483648 by decide), cl_nI (show k1 < 2147483648 by omega), At_ne (show (43 : Nat) ≠ 42 by decide), At_ne (show (44 : Nat) ≠ 42 by decide), (a5.2.2.2.2 k1 a2).2.1, (a5.2.2.2.2 k1 a2).2.2.1, nI_1, At_At]
      rw [X8_text_33, if_pos a6.2.1, a6.1.2.2.1, a6.1.1]
      by_cases z0 : tkB b L (tp b L k1) < L
      · have n0 : ¬ tkS b L (tp b L k1) = 0 := fun q => tS1.2.2.mp q z0
        have eS : cS b L (tp b L k1) = sof b (tkB b L (tp b L k1)) := by unfold cS; rw [if_pos z0]
        have cc := cl1 (a6.2.2.2.2 _ z0).2
        have c0 : ¬ cS b L (tp b L k1) = 0 := by
          rw [eS]
          intro q
          have w := (a6.2.2.2.2 _ z0).2
          unfold clsOK at w
          simp only [Bool.and_eq_true, Bool.or_eq_true, beq_iff_eq, decide_eq_true_eq, decide_eq_decide, Bool.not_eq_true', decide_eq_false_iff_not, Bool.or_eq_false_iff] at w
          obtain ⟨-, -, -, -, -, w5, -⟩ := w
          have q2 : X3_sortOf (b (tkB b L (tp b L k1))) = 0 := q
          rw [q2] at w5
          revert w5
          decide
        rw [if_neg c0]
        by_cases z3 : cS b L (tp b L k1) = 3
        · have e3 : sof b (tkB b L (tp b L k1)) = 3 := eS.symm.trans z3
          have t3 : tkS b L (tp b L k1) = 3 := by
            unfold tkS
            rw [if_pos z0, e3]; rfl
          obtain ⟨g4, q1, q2, q3⟩ := must1 (fu := fu) (by omega) a6
          rw [if_pos z3, if_pos t3, ck_nI (by omega) (by decide), cl_nI (by omega), (a6.2.2.2.2 _ z0).1, if_pos (cc.2.2.2.1.mpr e3), q1, bnd_s]
          have kT2 : k1 < T := a5.lt a2 (by rw [z3]; decide)
          exact ih (k1 + 1) (m + 1) x y h3 g4 r3 (by omega) (by omega) (by omega) (by omega) (by omega) a5 q2 ⟨b1, b2.rd q3, b3, by rw [q3.1 19 (by decide) (by decide) (by decide) (by decide) (by decide)]; exact b4⟩
        · have m0 := must0 (fu := fu) a6
          have w15 : ¬ up (up g3 0 15 1) 0 10 0 0 15 = 0 := by rw [up_nj (by decide), up_eq]; decide
          have w11 : up (up g3 0 15 1) 0 10 0 0 11 = nI (tkB b L (tp b L k1)) := by rw [up_nj (by decide), up_nj (by decide)]; exact a6.1.1
          have fin : TxF hx0 hm0 (some (-1 - nI (tkB b L (tp b L k1)), At h3 k1)) (some (-1 - nI (tkB b L (tp b L k1)), up (up g3 0 15 1) 0 10 0)) := by
            left
            exact ⟨_, _, _, by omega, rfl, rfl, b1.at, fun c c1 c2 => by rw [up_ne c1, up_ne c1]; exact b2.1.1 c c1 c2, by rw [up_nj (by decide), up_nj (by decide)]; exact b2.1.2.1, up_eq⟩
          rw [if_neg z3, m0.1, bnd_s, if_neg w15, w11]
          by_cases t3 : tkS b L (tp b L k1) = 3
          · have nb : ¬ g3 6 (tkB b L (tp b L k1)) = 59 := by
              rw [(a6.2.2.2.2 _ z0).1]
              intro q
              exact z3 (eS.trans (cc.2.2.2.1.mp q))
            rw [if_pos t3, ck_nI (by omega) (by decide), cl_nI (by omega), if_neg nb, if_neg n0]
            exact fin
          · rw [if_neg t3, if_neg n0]
            exact fin
      · have t0 : tkS b L (tp b L k1) = 0 := tS1.2.2.mpr z0
        have c0 : cS b L (tp b L k1) = 0 := by unfold cS; rw [if_neg z0]
        obtain ⟨g4, q1, q2, q3⟩ := must1 (fu := fu) (by omega) a6
        have b2' := b2.rd q3
        have w15 : up g4 0 10 0 0 15 = 0 := by rw [up_nj (by decide)]; exact q2.2.1
        have n3 : ¬ tkS b L (tp b L k1) = 3 := by rw [t0]; decide
        rw [if_pos c0, if_neg n3, if_pos t0, q1, bnd_s, if_pos w15]
        have e18 : up g4 0 10 0 0 18 = nI (m + 1) := by rw [up_nj (by decide)]; exact b2'.2.1
        have e8 : RUN (up g4 0 10 0 8) (m + 1) (up g4 0 10 0 1) r3 := by
          rw [up_ne (by decide), up_ne (by decide), b2'.1.1 1 (by decide) (by decide)]; exact b2'.2.2
        have st := tx113 (fu := fu) e18 (by omega) (m + 1) (fu - (m + 1)) r3 (Nat.le_refl _) e8
        rw [show m + 1 + (fu - (m + 1)) = fu by omega] at st
        have st2 : X8_text_113 fu (fu - (m + 1)) (nI (m + 1)) (nI (m + 1)) (upA (up g4 0 10 0) 1 r3) = some (nI (m + 1), upA (up g4 0 10 0) 1 r3) := by
          obtain ⟨z, ez⟩ : ∃ z, fu - (m + 1) = z + 1 := ⟨fu - (m + 1) - 1, by omega⟩
          rw [ez, X8_text_113, upA_ne (by decide), e18, if_pos (nI_le (Nat.le_refl _) (by omega))]
        rw [st, st2]
        right
        exact ⟨m + 1, k1, h3, up g4 0 10 0, r3, by omega, rfl, rfl, b1, fun c c1 c2 => by rw [up_ne c1]; exact b2'.1.1 c c1 c2, by rw [up_nj (by decide)]; exact b2'.1.2.1, up_eq, b3⟩
    · rw [a3, bnd_s, if_pos rfl, a4, bnd_s, tx_wr a7.1]
      dsimp only
      rw [At_at, ck_nI (by omega) (by decide), cl_nI (by omega), At_ne (by decide), (a5.2.2.2.2 k1 a2).2.2.1, a7.2.1]
      left
      exact ⟨_, _, _, by have := (tkB_b (b := b) (tp_L (b := b) (L := L) k1)).2; omega, rfl, rfl, a6.at, fun c c1 c2 => by rw [up_ne c1]; exact a7.2.2.1 c c1 c2, by rw [up_nj (by decide)]; exact a7.2.2.2.1, up_eq⟩
theorem o_text {hx hm : Hp} {fu : Nat} (hf : 400 ≤ fu) (h : R hx hm) : Eqv (X7_text fu hx) (X8_text fu hm) := by
  obtain ⟨hR, hI, hK, hT, hS, hC⟩ := h
  have h : R hx hm := ⟨hR, hI, hK, hT, hS, hC⟩
  obtain ⟨T1, T2, T3, T4⟩ := hT
  obtain ⟨L, hL, eL⟩ : ∃ L : Nat, L ≤ 120 ∧ hm 0 10 = nI L := ti_ex T2 T3
  have tL : (hm 0 10).toInt = (L : Int) := by rw [eL, ti_nI (by omega)]
  have cb : ∀ i, i < L → clsOK (hx 41 i) = true := fun i hi => by
    have := T4 i (by omega)
    exact cls this.2.1 this.2.2
  obtain ⟨h2, e2, d1, d2⟩ := become_ok (c0 := 23) (c1 := 1) (h := hx) (Or.inr (by omega))
  have cut : FinC (hx 41) L (up h2 42 5 0) (X3_cut_9 fu fu 4 (nI 0) (up h2 42 5 0)) := by
    refine (cutL (b := hx 41) (L := L) (fu := fu) (h0 := up h2 42 5 0) hL ?_ ?_ cb L 0 fu (by omega) (by omega) (by omega)).1 0 4 (up h2 42 5 0) (fun _ _ _ _ _ => rfl) ⟨fun i hi => by omega, fun i hi => by omega, rfl, Nat.le_refl 0, up_eq, fun q => ?_⟩
    · rw [up_ne (by decide), d2 40 (by omega), T1, eL]
    · rw [up_ne (by decide), d2 41 (by omega)]
    · rcases q.1 with q | q
      · exact absurd q (by decide)
      · exact absurd q (by decide)
  obtain ⟨h3, T, c1, c2, c3, c4, c5, c6, c7, c8⟩ := cut
  have t : TT (hx 41) L T h3 := by
    refine ⟨c3, hL, ?_, c4, ?_⟩
    · rw [c2 41 (by decide) (by decide) (by decide) (by decide), up_ne (by decide), d2 41 (by omega)]
    · intro i hi
      by_cases e : i = T
      · subst e
        have e0 : cS (hx 41) L (tp (hx 41) L i) = 0 := by unfold cS; rw [if_neg c4]
        refine ⟨fun q => by omega, by rw [e0]; exact c7, ?_, fun q => by rw [e0] at q; exact absurd q (by decide), fun q => by rw [e0] at q; exact absurd q (by decide)⟩
        rw [c8]
        have := (tkB_b (b := hx 41) (tp_L (b := hx 41) (L := L) i)).2
        rw [show tkB (hx 41) L (tp (hx 41) L i) = L by omega]
      · have q := c5 i (by omega)
        have e0 : cS (hx 41) L (tp (hx 41) L i) = sof (hx 41) (tkB (hx 41) L (tp (hx 41) L i)) := by unfold cS; rw [if_pos q.1]
        rw [e0]
        exact ⟨fun _ => q.1, q.2.1, q.2.2, fun y => (c6 i (by omega)).1 (q.2.1.trans y), fun y => (c6 i (by omega)).2 (q.2.1.trans y)⟩
  have hh : HF hx h3 := fun c q1 q2 q3 q4 q5 => by
    rw [c2 c q2 q3 q4 q5, up_ne q2]; exact d2 c (by omega)
  have vc : ∀ f i, vl f i → vxh hx h3 (1 + f) i = hx (1 + f) i := fun f i v => by
    have := (vl_b v).1
    rw [vx_at (by omega), show 1 + f + 22 = 23 + f by omega, c2 _ (by omega) (by omega) (by omega) (by omega), up_ne (by omega)]
    exact d1 f i v
  have rr : R (vxh hx h3) (upA hm 1 (hm 1)) := by
    rw [upA_id rfl]
    refine h.house (fun k hk q => ?_) (fun _ _ _ => rfl) rfl rfl (hR.move vc (fun _ _ => rfl)) (hI.move vc)
    unfold vxh
    rw [if_neg (by omega)]
  -- the reference begins
  have hB : BY (hx 41) L (up (up (up (up hm 0 12 0) 0 15 0) 0 18 0) 0 19 (up (up (up hm 0 12 0) 0 15 0) 0 18 0 1 2)) := by
    refine ⟨?_, hL, fun i hi => ?_⟩
    · rw [up_nj (by decide), up_nj (by decide), up_nj (by decide), up_nj (by decide)]; exact eL
    · rw [up_ne (by decide), up_ne (by decide), up_ne (by decide), up_ne (by decide)]
      exact ⟨(T4 i (by omega)).1, cb i hi⟩
  obtain ⟨g1, n1, n2, n3⟩ := nxtT (fu := fu) (k := 0) (by omega) hB (by rw [up_nj (by decide), up_nj (by decide), up_nj (by decide), up_eq]; rfl)
  have g15 : g1 0 15 = 0 := by
    rw [n3.1 15 (by decide) (by decide) (by decide) (by decide), up_nj (by decide), up_nj (by decide), up_eq]
  have g18 : g1 0 18 = 0 := by
    rw [n3.1 18 (by decide) (by decide) (by decide) (by decide), up_nj (by decide), up_eq]
  have g19 : g1 0 19 = hm 1 2 := by
    rw [n3.1 19 (by decide) (by decide) (by decide) (by decide), up_eq, up_ne (by decide), up_ne (by decide), up_ne (by decide)]
  have gc : ∀ c, c ≠ 0 → g1 c = hm c := fun c hc => by rw [n3.2 c hc, up_ne hc, up_ne hc, up_ne hc, up_ne hc]
  have iv : INV hx hm h3 g1 0 (hm 1) := by
    refine ⟨hh, ⟨⟨fun c q1 _ => gc c q1, ?_, ?_⟩, g18, rfl⟩, rr, ?_⟩
    · rw [n3.1 3 (by decide) (by decide) (by decide) (by decide), up_nj (by decide), up_nj (by decide), up_nj (by decide), up_nj (by decide)]
    · rw [n3.1 10 (by decide) (by decide) (by decide) (by decide), up_nj (by decide), up_nj (by decide), up_nj (by decide), up_nj (by decide)]
    · rw [g19, rnp hR, ← vc 0 10 (Or.inl ⟨rfl, by omega, by omega⟩)]
      rw [vx_at (by omega)]
  have fin := text_loop (T := T) (fu := fu) hf T 0 0 fu fu h3 g1 (hm 1) (by omega) (by omega) (by omega) (by omega) (by omega) t ⟨n2, g15, hB.rd n3⟩ iv
  unfold X7_text X8_text X3_read X3_cut
  rw [e2, bnd_s, show X3_cut_9 fu fu 4 0 (up h2 42 5 0) = some h3 from c1, bnd_s, n1, bnd_s]
  have fin2 : TxF hx hm (X3_read_11 fu fu 0 (up h3 42 6 0)) (bnd (X8_readItem fu g1) (fun h4 => X8_text_33 fu fu h4)) := fin
  rcases fin2 with ⟨p, h4, g4, p1, p2, p3, p4, p5, p6, p7⟩ | ⟨m1, k1, h4, g4, r1, p1, p2, p3, p4, p5, p6, p7, p8⟩
  · rw [p2, bnd_s, p3]
    dsimp only
    have neg : -1 - nI p < 0 := by
      rw [ti_lt, ti_sub (by rw [ti_nI (by omega)]; have : (-1 : Int32).toInt = -1 := rfl; omega) (by rw [ti_nI (by omega)]; have : (-1 : Int32).toInt = -1 := rfl; omega), ti_nI (by omega)]
      have : (-1 : Int32).toInt = -1 := rfl
      have : (0 : Int32).toInt = 0 := rfl
      omega
    rw [if_pos neg]
    refine ⟨_, _, _, rfl, rfl, ?_⟩
    refine h.tape (fun k hk q1 q2 => ?_) (fun k hk q => p5 k (by unfold cM at hk; omega) (by unfold cM at hk; omega)) p6 ?_
    · rw [up_ne q1]
      exact p4 k (by unfold cX at hk; omega) (by unfold cX at hk; omega) (by unfold cX at hk; omega) (by unfold cX at hk; omega) (by unfold cX at hk; omega)
    · unfold TR
      rw [up_eq, p7]
      refine ⟨rfl, by decide, by decide, fun i hi => ?_⟩
      have : (0 : Int32).toInt = 0 := rfl
      omega
  · rw [p2, bnd_s, p3]
    dsimp only
    rw [if_neg (nI_pos (by omega))]
    obtain ⟨h8, e8, f1, f2⟩ := become_ok (c0 := 1) (c1 := 23) (h := At h4 k1) (Or.inl (by omega))
    rw [e8, bnd_s]
    refine ⟨_, _, _, rfl, rfl, ?_⟩
    have vd : ∀ f i, vl f i → h8 (1 + f) i = vxh hx h4 (1 + f) i := fun f i v => by
      have := (vl_b v).1
      rw [vx_at (by omega), show 1 + f + 22 = 23 + f by omega, f1 f i v, At_ne (by omega)]
    have R1 : R h8 (upA hm 1 r1) := by
      refine p8.house (fun k hk q => ?_) (fun _ _ _ => rfl) rfl rfl (p8.1.move vd (fun _ _ => rfl)) (p8.2.1.move vd)
      unfold cX at hk
      rw [f2 k (by omega), At_ne (by omega)]
      unfold vxh
      rw [if_neg (by omega)]
      exact p4 k (by omega) (by omega) (by omega) (by omega) (by omega)
    refine R1.tape (fun k hk q1 q2 => up_ne q1) (fun k hk q => ?_) ?_ ?_
    · by_cases y : k = 1
      · subst y; rw [upA_at, upA_at]
      · rw [upA_ne y, upA_ne y]
        exact p5 k (by unfold cM at hk; omega) (by unfold cM at hk; omega)
    · rw [upA_ne (by decide), upA_ne (by decide)]; exact p6
    · unfold TR
      rw [up_eq, upA_ne (by decide), p7]
      refine ⟨rfl, by decide, by decide, fun i hi => ?_⟩
      have : (0 : Int32).toInt = 0 := rfl
      omega
