theorem maybe_eq {tds : Nat → Nat} {F a : Nat} (hF : F ≤ 6) (haF : a < F) : bs (fun i => (tds i).testBit a && decide (0 < cN tds i 10 (clr (2 ^ F - 1) a))) 10 = bs (stQ (okT tds) F a 0 0) 10 := by
  refine bs_ext (fun j hj => ?_)
  unfold stQ
  rw [ways_eq1 hF (by omega), decide_eq_true (Nat.zero_le a), decide_eq_true haF]
  have hu : hU 0 j = true := by unfold hU; rw [Nat.zero_testBit, decide_eq_true hj]; rfl
  rw [hu]
  unfold okT
  rw [show 5 - (5 - a) = a by omega]
  rfl
theorem maybe_0 {tds : Nat → Nat} {F a : Nat} (hF : F ≤ 6) (haF : a < F) (h0 : CF (okT tds) (SF F) 6 (hU 0) = 0) : bs (stQ (okT tds) F a 0 0) 10 = 0 := by
  rw [show (0 : Nat) = bs (fun _ => false) 10 from (no_bs (fun _ => rfl)).symm]
  refine bs_ext (fun j hj => ?_)
  rcases Bool.eq_false_or_eq_true (stQ (okT tds) F a 0 0 j) with z | z
  · exfalso
    unfold stQ at z
    simp only [Bool.and_eq_true, decide_eq_true_eq] at z
    obtain ⟨-, -, z1, z2, z3⟩ := z
    have k := CF_add (ok := okT tds) 6 (SF F) (rmv (hU 0) j) j hj (by unfold rmv; simp)
    rw [add_rmv z1, h0] at k
    have ge := sm_ge (P := fun s => SF F s && okT tds j s) (f := fun s => CF (okT tds) (rmv (SF F) s) 6 (rmv (hU 0) j)) 6 (5 - a) (by omega) (by
      have : SF F (5 - a) = true := by unfold SF; exact decide_eq_true (by omega)
      rw [this, z2]; rfl)
    have z3' : 0 < CF (okT tds) (rmv (SF F) (5 - a)) 6 (rmv (hU 0) j) := z3
    omega
  · exact z
theorem o_maybe {hx hm : Hp} {fu : Nat} (hf : 70 ≤ fu) (h : R hx hm) (x1 x2 : Int32) : Eqv (X7_maybe fu x1 x2 hx) (X8_maybe fu x1 x2 hm) := by
  obtain ⟨np, np1, np2⟩ := npN h.2.1
  unfold X7_maybe X8_maybe X7_isSheet X8_isSheet X7_isFace
  rw [w8]
  rcases wn x1 (M := 3) 4 (by decide) (by decide) with ⟨q, -⟩ | ⟨s, q, r, t⟩
  · rw [q, if_pos rfl, if_pos rfl]; exact fB h
  · have hS := h.2.2.2.2.1
    obtain ⟨n, n1, n2, n3⟩ := szN hS q
    rw [t, if_neg n10, if_neg n10, r, shc_nI q, cl_nI (by omega), missX hS q]
    simp only [ck_nI q (show 4 < 2147483648 by decide)]
    by_cases b : hm 9 s = 0
    · rw [if_pos b, if_neg n10, if_pos b]; exact fQ h
    · rw [if_neg b, if_pos rfl, if_neg b, n2, n3, show jmin (6 : Int32) (nI n) = nI (min 6 n) from jmin_nI (a := 6) (by omega) (by omega)]
      rcases wn x2 (M := nI (min 6 n) - 1) (min 6 n) (by rw [show (1 : Int32) = nI 1 from rfl, pk_sub_toInt (by omega) (by omega)]; rfl) (by omega) with ⟨c, c1⟩ | ⟨a, a1, rfl, c⟩
      · rw [if_pos c]
        rcases wn x2 (M := 5) 6 (by decide) (by decide) with ⟨d, -⟩ | ⟨a, a1, rfl, d⟩
        · rw [if_pos d]; exact fB h
        · have : ¬ a < n := fun z => c1 a (by omega) rfl
          rw [if_neg (by rw [d]; decide), if_neg (show ¬ nI a < nI n from fun z => by rw [nI_ltI (by omega) (by omega)] at z; omega)]
          exact fB h
      · rcases wn (nI a) (M := 5) 6 (by decide) (by decide) with ⟨d, d1⟩ | ⟨a', a2, e, d⟩
        · exact absurd rfl (d1 a (by omega))
        rw [if_neg (by rw [d]; decide), if_neg (show ¬ X7_within (nI a) 0 (nI (min 6 n) - 1) = 0 by rw [c]; decide), if_pos (nI_lt (show a < n by omega) (by omega)), bnd_eta]
        have haF : a < min n 6 := by omega
        obtain ⟨h1, p1, p2, p3⟩ := tlX h.2.1 (fu := fu) (by omega) np1 np2 n1 (shcC q) n2
        obtain ⟨g1, c1, c2, c3, c4⟩ := waysO h (fu := fu) (a := a) (aq := nI a) (by omega) np1 np2 q n1 n3 (fun f hf => nI_eq (by omega) (by omega))
        obtain ⟨h2, b1, b2⟩ := hf24 (fu := fu) (full := clr (2 ^ (min n 6) - 1) a) (a := a) (tds := td hx (47 + 2 * s) np (min n 6)) hf (Nat.lt_of_le_of_lt (clr_le _ _) (full_lt (by omega))) (by omega) (47 + 2 * s) (fun j => td_lt (by omega)) 10 0 fu h1 (by omega) (by omega) p2 (fun i _ => by
          rw [ways_eq1 (by omega) (by omega)]
          have := CF_b (ok := okT (td hx (47 + 2 * s) np (min n 6))) (S := rmv (SF (min n 6)) (5 - a)) 6 (rmv (hU 0) i)
          omega)
        unfold X6_headsFor
        rw [p1, bnd_s, facesX n1 (by rw [p3 _ (by omega)]; exact n2), clr_nI (by omega), show X6_headsFor_24 fu (47 + 2 * s) fu (nI a) (nI (clr (2 ^ (min n 6) - 1) a)) 0 0 h1 = _ from b1, c1, bnd_s, maybe_eq (by omega) haF]
        dsimp only
        have Rr : R h2 g1 := h.fr2 (fun c x1 x2 => by rw [b2 c x2, p3 c x1]) c3 c4
        have cb := CF_b (ok := okT (td hx (47 + 2 * s) np (min n 6))) (S := SF (min n 6)) 6 (hU 0)
        by_cases z : CF (okT (td hx (47 + 2 * s) np (min n 6))) (SF (min n 6)) 6 (hU 0) = 0
        · rw [if_pos (by rw [z]; rfl), maybe_0 (by omega) haF z]
          exact ⟨_, _, _, rfl, rfl, Rr⟩
        · rw [if_neg (show ¬ nI (CF (okT (td hx (47 + 2 * s) np (min n 6))) (SF (min n 6)) 6 (hU 0)) = 0 from fun y => z ((nI_eq (b := 0) (by omega) (by omega)).mp y)), c2]
          exact ⟨_, _, _, rfl, rfl, Rr⟩
