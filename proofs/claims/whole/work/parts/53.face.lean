theorem vx_lo5 {hx0 hm0 h : Hp} {r : Nat → Int32} (rr : R (vxh hx0 h) (upA hm0 1 r)) {f : Nat} (hf : f < 6) : 0 ≤ r (15 + f) := by
  have a := rf5 rr.1 hf
  rw [upA_at] at a
  have c := (rr.2.1.1 5 f (Or.inr ⟨by omega, by omega, hf⟩)).1
  rw [a, ti_le]
  exact c
theorem vx_lo1 {hx0 hm0 h : Hp} {r : Nat → Int32} (rr : R (vxh hx0 h) (upA hm0 1 r)) : 0 ≤ r 1 := by
  have a := rpa rr.1
  rw [upA_at] at a
  obtain ⟨n, n1, n2, n3⟩ := paN rr.2.1
  rw [a, n3]
  exact nI_pos' (by omega)
theorem nm_n {b : Nat → Int32} {L p : Nat} {a : Int32} {c : Int32} {n : Nat} (h : nm b L p a c) (ha : 0 ≤ a.toInt) (hc : c.toInt = (n : Int)) : ∃ f, f ≤ n ∧ tkV b L p = nI f := by
  have h1 := ti_le.mp h.2.1
  have h2 := ti_le.mp h.2.2
  exact ti_ex (by omega) (by omega)
theorem isWx {b : Nat → Int32} {L fu k w : Nat} {g : Hp} (s : AT b L k g) (hB : BY b L g) (hw : w < 14) (hf : 20 ≤ fu) : ∃ x, X8_isWord fu w g = some x := by
  have a := isW (fu := fu) s hB hw hf
  by_cases z : wd b L (tp b L k) w
  · exact ⟨1, a.1 z⟩
  · exact ⟨0, a.2 z⟩
theorem face_sim {b : Nat → Int32} {L T fu k0 k m : Nat} {hx0 hm0 h g : Hp} {r : Nat → Int32} (t : TT b L T h) (s : GS b L k g) (hk : k ≤ T) (hk0 : k0 < k) (hf : 130 ≤ fu) (hh : HF hx0 h) (gf : GF hm0 g m r) (rr : R (vxh hx0 h) (upA hm0 1 r)) (e19 : g 0 19 = h 23 10) (hm : m < 120) : ItR b L T hx0 hm0 m k0 (X3_readFace fu (At h k)) (bnd (X8_number fu 0 5 g) (fun r32 => bnd (X8_isWord fu 7 r32.2) (fun r35 => bnd (X8_must fu r35 r32.2) (fun h38 => bnd (X8_number fu 0 255 h38) (fun r40 => bnd (X8_isNext fu 11 r40.2) (fun r43 => if r43.1 = 0 then bnd (X8_item 10 r32.1 r40.1 (-1) r43.2) (fun h47 => some h47)
      else bnd (X8_number fu 0 99 r43.2) (fun r49 => bnd (X8_item 10 r32.1 r40.1 r49.1 r49.2) (fun h52 => some h52)))))))) := by
  have mb : ∀ (x y : Int32) (q : Hp), bnd (X8_isNext fu 11 q) (fun r43 => if r43.1 = 0 then bnd (X8_item 10 x y (-1) r43.2) (fun h47 => some h47) else bnd (X8_number fu 0 99 r43.2) (fun r49 => bnd (X8_item 10 x y r49.1 r49.2) (fun h52 => some h52))) = bnd (mayR fu 11 0 99 (-1) q) (fun r => bnd (X8_item 10 x y r.1 r.2) (fun h => some h)) := fun x y q => mayR_b (K := fun v p => bnd (X8_item 10 x y v p) (fun h => some h))
  simp only [mb]
  unfold X3_readFace
  have n := numG (fu := fu) s hf 0 5
  rcases tnX t hk 0 5 with ⟨a1, a2, a3⟩ | ⟨a1, a3⟩
  · obtain ⟨f, hf6, ef⟩ := nm_n (n := 5) a1 (by decide) (by decide)
    obtain ⟨g1, c1, c2, c3⟩ := n.1 a1
    rw [a3, bnd_s, c1, bnd_s]
    dsimp only
    rw [ef]
    have iff1 : ¬ X7_isFace (nI f) = 0 := by
      unfold X7_isFace
      rcases wr (nI f) 0 5 with ⟨q, q1⟩ | ⟨q, q1⟩
      · exfalso; apply q1; rw [ti_nI (by omega)]
        have : (0 : Int32).toInt = 0 := rfl
        have : (5 : Int32).toInt = 5 := rfl
        omega
      · rw [q]; decide
    rw [if_neg iff1]
    have iw := isW (fu := fu) (w := 7) c2.1 c2.2.2 (by decide) (by omega)
    rcases tkX t (k := k + 1) (w := 7) (fu := fu) (by omega) (by decide) (by omega) with ⟨d1, d2, d3⟩ | ⟨d1, d3⟩
    · obtain ⟨g2, m1, m2, m3⟩ := must1 hf c2
      rw [d3, bnd_s, if_neg n10, iw.1 d1, bnd_s, m1, bnd_s]
      have n2 := numG (fu := fu) m2 hf 0 255
      have l28 : lnX 28 = 6 := rfl
      have l29 : lnX 29 = 6 := rfl
      rcases tllX t (k := k + 1 + 1) (c := 28) (x := f) (lo := 0) (hi := 255) (by omega) (by decide) (by decide) (by rw [l28]; omega) (by rw [l28]; decide) with ⟨q1, q2, q3⟩ | ⟨q1, q3⟩
      · obtain ⟨g3, u1, u2, u3⟩ := n2.1 q1
        rw [q3, bnd_s, if_neg n10, u1, bnd_s]
        dsimp only
        have lk : 0 ≤ (tkV b L (tp b L (k + 1 + 1))).toInt ∧ (tkV b L (tp b L (k + 1 + 1))).toInt ≤ 255 := ⟨ti_le.mp q1.2.1, ti_le.mp q1.2.2⟩
        have t1 : TT b L T (up h 28 f (tkV b L (tp b L (k + 1 + 1)))) := t.up (by omega)
        have vU : vxh hx0 (up h 28 f (tkV b L (tp b L (k + 1 + 1)))) = up (vxh hx0 h) 6 f (tkV b L (tp b L (k + 1 + 1))) := vx_up (d := 6) (by omega)
        have gfx : GF hm0 g3 m r := ((gf.rd c3).rd m3).rd u3
        rcases mayS (fu := fu) (w := 11) (c := 29) (x := f) (lo := 0) (hi := 99) (-1) t1 u2 (by omega) hf (by decide) (by decide) (by decide) (by rw [l29]; omega) (by rw [l29]; decide) with ⟨v3, v4⟩ | ⟨k1, v, g4, v1, v2, v3, v4, v5, v6, v7, v8⟩ | ⟨k1, v, g4, v2, v3, v4, v5, v6⟩
        · rw [v3, bnd_s, if_neg n10, v4, bnd_s]
          dsimp only
          obtain ⟨g5, i1, i2, i3, i4⟩ := it_ok u2 gfx hm (so_face0 (f := f) (by omega) (tkV b L (tp b L (k + 1 + 1))) (vx_lo5 rr (by omega)))
          rw [i1, bnd_s]
          left
          refine ⟨_, _, g5, _, by omega, q2, rfl, rfl, t1, i2, hh.up (by omega), i3, ?_, ?_⟩
          · rw [vU, ← upA_up]
            exact rr.up1 (f := 5) (i := f) (Or.inr ⟨by omega, by omega, by show f < 6; omega⟩) lk ⟨by omega, by omega, by omega, by omega⟩
          · rw [i4, u3.1 19 (by decide) (by decide) (by decide) (by decide) (by decide), m3.1 19 (by decide) (by decide) (by decide) (by decide) (by decide), c3.1 19 (by decide) (by decide) (by decide) (by decide) (by decide), up_ne (by decide)]; exact e19
        · rw [v3, bnd_s, if_neg n10, v4, bnd_s]
          dsimp only
          obtain ⟨g5, i1, i2, i3, i4⟩ := it_ok v5 (gfx.rd v6) hm (so_face (f := f) (by omega) (tkV b L (tp b L (k + 1 + 1))) v (vx_lo5 rr (by omega)) (ti_le.mpr v7))
          rw [i1, bnd_s]
          left
          refine ⟨k1, _, g5, _, by omega, v2, rfl, rfl, t1.up (by omega), i2, (hh.up (by omega)).up (by omega), i3, ?_, ?_⟩
          · have vU2 : vxh hx0 (up (up h 28 f (tkV b L (tp b L (k + 1 + 1)))) 29 f v) = up (up (vxh hx0 h) 7 f v) 6 f (tkV b L (tp b L (k + 1 + 1))) := by
              rw [up_cm (c := 28) (d := 29) (by decide)]
              have w1 : vxh hx0 (up (up h 29 f v) 28 f (tkV b L (tp b L (k + 1 + 1)))) = up (vxh hx0 (up h 29 f v)) 6 f (tkV b L (tp b L (k + 1 + 1))) := vx_up (d := 6) (by omega)
              have w2 : vxh hx0 (up h 29 f v) = up (vxh hx0 h) 7 f v := vx_up (d := 7) (by omega)
              rw [w1, w2]
            rw [vU2, ← upA_up, ← upA_up]
            exact (rr.up1 (f := 6) (i := f) (Or.inr ⟨by omega, by omega, by show f < 6; omega⟩) (v := v) ⟨v7, v8⟩ ⟨by omega, by omega, by omega, by omega⟩).up1 (f := 5) (i := f) (Or.inr ⟨by omega, by omega, by show f < 6; omega⟩) lk ⟨by omega, by omega, by omega, by omega⟩
          · rw [i4, v6.1 19 (by decide) (by decide) (by decide) (by decide) (by decide), u3.1 19 (by decide) (by decide) (by decide) (by decide) (by decide), m3.1 19 (by decide) (by decide) (by decide) (by decide) (by decide), c3.1 19 (by decide) (by decide) (by decide) (by decide) (by decide), up_ne (by decide), up_ne (by decide)]; exact e19
        · rw [v3, bnd_s, if_pos rfl, v4, bnd_s]
          dsimp only
          obtain ⟨g5, i1, i2⟩ := it_wr 10 (nI f) (tkV b L (tp b L (k + 1 + 1))) v v5 (gfx.rd v6) hm
          rw [i1, bnd_s]
          right
          exact ⟨k1, _, g5, v2, rfl, rfl, t1, hh.up (by omega), i2⟩
      · obtain ⟨v, g3, u1, u2, u3⟩ := n2.2 q1
        rw [q3, bnd_s, if_pos rfl, u1, bnd_s]
        dsimp only
        rw [mayW u2, bnd_s]
        dsimp only
        obtain ⟨g5, i1, i2⟩ := it_wr 10 (nI f) v (-1) u2 (((gf.rd c3).rd m3).rd u3) hm
        rw [i1, bnd_s]
        right
        exact ⟨_, _, g5, d2, rfl, rfl, t, hh, i2⟩
    · have m0 := must0 (fu := fu) c2
      rw [d3, bnd_s, if_pos rfl, iw.2 d1, bnd_s, m0.1, bnd_s, numW m0.2, bnd_s]
      dsimp only
      rw [mayW m0.2, bnd_s]
      dsimp only
      obtain ⟨g5, i1, i2⟩ := it_wr 10 (nI f) (up g1 0 15 1 0 14) (-1) m0.2 ((gf.rd c3).rd rd2.wr) hm
      rw [i1, bnd_s]
      right
      exact ⟨_, _, g5, a2, rfl, rfl, t, hh, i2⟩
  · obtain ⟨v, g1, c1, c2, c3⟩ := n.2 a1
    obtain ⟨x, ex⟩ := isWx (fu := fu) (w := 7) c2.1 c2.2.2 (by decide) (by omega)
    rw [a3, bnd_s, c1, bnd_s]
    dsimp only
    rw [if_pos (by decide), ex, bnd_s, mustW c2, bnd_s, numW c2, bnd_s]
    dsimp only
    rw [mayW c2, bnd_s]
    dsimp only
    obtain ⟨g5, i1, i2⟩ := it_wr 10 v (g1 0 14) (-1) c2 (gf.rd c3) hm
    rw [i1, bnd_s]
    right
    exact ⟨_, _, g5, hk, rfl, rfl, t, hh, i2⟩
theorem show_sim {b : Nat → Int32} {L T fu k0 k m : Nat} {hx0 hm0 h g : Hp} {r : Nat → Int32} (t : TT b L T h) (s : GS b L k g) (hk : k ≤ T) (hk0 : k0 < k) (hf : 130 ≤ fu) (hh : HF hx0 h) (gf : GF hm0 g m r) (rr : R (vxh hx0 h) (upA hm0 1 r)) (e19 : g 0 19 = h 23 10) (hm : m < 120) : ItR b L T hx0 hm0 m k0 (X3_readShow (At h k)) (bnd (X8_number fu 0 5 g) (fun r24 => bnd (X8_number fu 0 5 r24.2) (fun r27 => bnd (X8_item 11 r24.1 r27.1 0 r27.2) (fun h30 => some h30)))) := by
  unfold X3_readShow
  have n := numG (fu := fu) s hf 0 5
  rcases tnX t hk 0 5 with ⟨a1, a2, a3⟩ | ⟨a1, a3⟩
  · obtain ⟨f, hf6, ef⟩ := nm_n (n := 5) a1 (by decide) (by decide)
    obtain ⟨g1, c1, c2, c3⟩ := n.1 a1
    rw [a3, bnd_s, c1, bnd_s]
    dsimp only
    rw [ef]
    have iff1 : ¬ X7_isRoom (nI f) = 0 := by
      unfold X7_isRoom
      rcases wr (nI f) 0 5 with ⟨q, q1⟩ | ⟨q, q1⟩
      · exfalso; apply q1; rw [ti_nI (by omega)]
        have : (0 : Int32).toInt = 0 := rfl
        have : (5 : Int32).toInt = 5 := rfl
        omega
      · rw [q]; decide
    rw [if_neg iff1]
    have n2 := numG (fu := fu) c2 hf 0 5
    have l30 : lnX 30 = 6 := rfl
    rcases tllX t (k := k + 1) (c := 30) (x := f) (lo := 0) (hi := 5) (by omega) (by decide) (by decide) (by rw [l30]; omega) (by rw [l30]; decide) with ⟨q1, q2, q3⟩ | ⟨q1, q3⟩
    · obtain ⟨g3, u1, u2, u3⟩ := n2.1 q1
      have lk : 0 ≤ (tkV b L (tp b L (k + 1))).toInt ∧ (tkV b L (tp b L (k + 1))).toInt ≤ 5 := ⟨ti_le.mp q1.2.1, ti_le.mp q1.2.2⟩
      rw [q3, bnd_s, if_neg n10, u1, bnd_s]
      dsimp only
      obtain ⟨g5, i1, i2, i3, i4⟩ := it_ok u2 ((gf.rd c3).rd u3) hm (so_show (r := r) (f := f) (by omega) (tkV b L (tp b L (k + 1))) 0 (ti_le.mpr lk.1))
      rw [i1, bnd_s]
      left
      refine ⟨_, _, g5, _, by omega, q2, rfl, rfl, t.up (by omega), i2, hh.up (by omega), i3, ?_, ?_⟩
      · have vU : vxh hx0 (up h 30 f (tkV b L (tp b L (k + 1)))) = up (vxh hx0 h) 8 f (tkV b L (tp b L (k + 1))) := vx_up (d := 8) (by omega)
        rw [vU, ← upA_up]
        exact rr.up1 (f := 7) (i := f) (Or.inr ⟨by omega, by omega, by show f < 6; omega⟩) ⟨by show (-1 : Int) ≤ _; omega, lk.2⟩ ⟨by omega, by omega, by omega, by omega⟩
      · rw [i4, u3.1 19 (by decide) (by decide) (by decide) (by decide) (by decide), c3.1 19 (by decide) (by decide) (by decide) (by decide) (by decide), up_ne (by decide)]; exact e19
    · obtain ⟨v, g3, u1, u2, u3⟩ := n2.2 q1
      rw [q3, bnd_s, if_pos rfl, u1, bnd_s]
      dsimp only
      obtain ⟨g5, i1, i2⟩ := it_wr 11 (nI f) v 0 u2 ((gf.rd c3).rd u3) hm
      rw [i1, bnd_s]
      right
      exact ⟨_, _, g5, a2, rfl, rfl, t, hh, i2⟩
  · obtain ⟨v, g1, c1, c2, c3⟩ := n.2 a1
    rw [a3, bnd_s, c1, bnd_s]
    dsimp only
    rw [if_pos (by decide), numW c2, bnd_s]
    dsimp only
    obtain ⟨g5, i1, i2⟩ := it_wr 11 v (g1 0 14) 0 c2 (gf.rd c3) hm
    rw [i1, bnd_s]
    right
    exact ⟨_, _, g5, hk, rfl, rfl, t, hh, i2⟩
theorem pace_sim {b : Nat → Int32} {L T fu k0 k m : Nat} {hx0 hm0 h g : Hp} {r : Nat → Int32} (t : TT b L T h) (s : GS b L k g) (hk : k ≤ T) (hk0 : k0 < k) (hf : 130 ≤ fu) (hh : HF hx0 h) (gf : GF hm0 g m r) (rr : R (vxh hx0 h) (upA hm0 1 r)) (e19 : g 0 19 = h 23 10) (hm : m < 120) : ItR b L T hx0 hm0 m k0 (bnd (X3_readPace (At h k)) (fun r14 => if r14.1 = 0 then some (0, r14.2) else some (1, r14.2))) (bnd (X8_number fu 1 20 g) (fun r19 => bnd (X8_item 12 r19.1 0 0 r19.2) (fun h22 => some h22))) := by
  unfold X3_readPace
  have n := numG (fu := fu) s hf 1 20
  rcases tnX t hk 1 20 with ⟨a1, a2, a3⟩ | ⟨a1, a3⟩
  · obtain ⟨g1, c1, c2, c3⟩ := n.1 a1
    have lk : 1 ≤ (tkV b L (tp b L k)).toInt ∧ (tkV b L (tp b L k)).toInt ≤ 20 := ⟨ti_le.mp a1.2.1, ti_le.mp a1.2.2⟩
    rw [a3, bnd_s, c1, bnd_s]
    dsimp only
    rw [if_pos (nm_0 a1 (by decide)), bnd_s, if_neg n10, At_up (by decide)]
    obtain ⟨g5, i1, i2, i3, i4⟩ := it_ok c2 (gf.rd c3) hm (so_pace (tkV b L (tp b L k)) 0 0 (vx_lo1 rr))
    rw [i1, bnd_s]
    left
    refine ⟨_, _, g5, _, by omega, a2, rfl, rfl, t.up (by omega), i2, hh.up (by omega), i3, ?_, ?_⟩
    · have vU : vxh hx0 (up h 23 13 (tkV b L (tp b L k))) = up (vxh hx0 h) 1 13 (tkV b L (tp b L k)) := vx_up (d := 1) (by omega)
      rw [vU, ← upA_up]
      exact rr.up1 (f := 0) (i := 13) (Or.inl ⟨rfl, by omega, by omega⟩) lk ⟨by omega, by omega, by omega, by omega⟩
    · rw [i4, c3.1 19 (by decide) (by decide) (by decide) (by decide) (by decide), up_nj (by decide)]; exact e19
  · obtain ⟨v, g1, c1, c2, c3⟩ := n.2 a1
    rw [a3, bnd_s, c1, bnd_s]
    dsimp only
    rw [if_neg (by decide), bnd_s, if_pos rfl]
    obtain ⟨g5, i1, i2⟩ := it_wr 12 v 0 0 c2 (gf.rd c3) hm
    rw [i1, bnd_s]
    right
    exact ⟨_, _, g5, hk, rfl, rfl, t, hh, i2⟩
