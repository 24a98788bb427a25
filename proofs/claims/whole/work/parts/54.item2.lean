theorem ri_st {fu n i np : Nat} {h : Hp} (e : h 23 10 = nI np) (hn : np < 10) (hi : i < 7) : X3_readItem_2 fu (n + 1) (nI i) h = bnd (X3_takes fu i h) (fun r => if r.1 = 0 then X3_readItem_2 fu n (nI i + 1) r.2 else bnd (X3_readPart fu (nI i) r.2) (fun q => some (q.1, q.2))) := by
  have n10' : ¬ (10 : Int32) ≤ h 23 10 := by rw [e]; exact nI_ge (b := 10) hn (by decide)
  rcases (show i = 0 ∨ i = 1 ∨ i = 2 ∨ i = 3 ∨ i = 4 ∨ i = 5 ∨ i = 6 by omega) with rfl | rfl | rfl | rfl | rfl | rfl | rfl
  · rw [X3_readItem_2, if_neg (by decide), if_neg n10', if_neg (by decide), if_neg (by decide), if_neg (by decide), if_neg (by decide), if_neg (by decide), if_neg (by decide)]
  · rw [X3_readItem_2, if_neg (by decide), if_neg n10', if_pos (by decide)]
  · rw [X3_readItem_2, if_neg (by decide), if_neg n10', if_neg (by decide), if_pos (by decide)]
  · rw [X3_readItem_2, if_neg (by decide), if_neg n10', if_neg (by decide), if_neg (by decide), if_pos (by decide)]
  · rw [X3_readItem_2, if_neg (by decide), if_neg n10', if_neg (by decide), if_neg (by decide), if_neg (by decide), if_pos (by decide)]
  · rw [X3_readItem_2, if_neg (by decide), if_neg n10', if_neg (by decide), if_neg (by decide), if_neg (by decide), if_neg (by decide), if_pos (by decide)]
  · rw [X3_readItem_2, if_neg (by decide), if_neg n10', if_neg (by decide), if_neg (by decide), if_neg (by decide), if_neg (by decide), if_neg (by decide), if_pos (by decide)]
theorem ri_k {b : Nat → Int32} {L T fu k np w : Nat} {h : Hp} (t : TT b L T h) (hk : k ≤ T) (hf : 130 ≤ fu) (e : h 23 10 = nI np) (hn : np < 10) (hw : w < 7) (z : wd b L (tp b L k) w) : ∀ r i n, i + r = w → r < n → X3_readItem_2 fu n (nI i) (At h k) = X3_readPart fu (nI w) (At h (k + 1)) ∧ k < T := by
  intro r
  induction r with
  | zero =>
    intro i n hi hn2
    obtain ⟨m, rfl⟩ : ∃ m, n = m + 1 := ⟨n - 1, by omega⟩
    obtain rfl : i = w := by omega
    rw [ri_st (np := np) (by rw [At_ne (by decide)]; exact e) hn hw]
    rcases tkX t (w := i) (fu := fu) hk (by omega) (by omega) with ⟨a, c, d⟩ | ⟨a, d⟩
    · rw [d, bnd_s, if_neg n10, bnd_eta]
      exact ⟨rfl, c⟩
    · exact absurd z a
  | succ r ih =>
    intro i n hi hn2
    obtain ⟨m, rfl⟩ : ∃ m, n = m + 1 := ⟨n - 1, by omega⟩
    rw [ri_st (np := np) (by rw [At_ne (by decide)]; exact e) hn (by omega)]
    rcases tkX t (w := i) (fu := fu) hk (by omega) (by omega) with ⟨a, c, d⟩ | ⟨a, d⟩
    · have := wd_inj (show i < 14 by omega) (show w < 14 by omega) a z
      omega
    · rw [d, bnd_s, if_pos rfl, nI_1]
      exact ih (i + 1) m (by omega) (by omega)
theorem ri_n {b : Nat → Int32} {L T fu k np : Nat} {h : Hp} (t : TT b L T h) (hk : k ≤ T) (hf : 130 ≤ fu) (e : h 23 10 = nI np) (hn : np < 10) (z : ∀ w, w < 7 → ¬ wd b L (tp b L k) w) : ∀ r i n, i + r = 7 → r < n → X3_readItem_2 fu n (nI i) (At h k) = X3_readItem_43 fu (At h k) := by
  intro r
  induction r with
  | zero =>
    intro i n hi hn2
    obtain ⟨m, rfl⟩ : ∃ m, n = m + 1 := ⟨n - 1, by omega⟩
    rw [X3_readItem_2, if_pos (show (6 : Int32) < nI i from nI_lt (a := 6) (by omega) (by omega))]
  | succ r ih =>
    intro i n hi hn2
    obtain ⟨m, rfl⟩ : ∃ m, n = m + 1 := ⟨n - 1, by omega⟩
    rw [ri_st (np := np) (by rw [At_ne (by decide)]; exact e) hn (by omega)]
    rcases tkX t (w := i) (fu := fu) hk (by omega) (by omega) with ⟨a, c, d⟩ | ⟨a, d⟩
    · exact absurd a (z i (by omega))
    · rw [d, bnd_s, if_pos rfl, nI_1]
      exact ih (i + 1) m (by omega) (by omega)
theorem ri_f {fu : Nat} {h : Hp} (hf : 0 < fu) (e : h 23 10 = 10) : X3_readItem fu h = X3_readItem_43 fu h := by
  unfold X3_readItem
  obtain ⟨m, rfl⟩ : ∃ m, fu = m + 1 := ⟨fu - 1, by omega⟩
  rw [X3_readItem_2, if_neg (by decide), if_pos (by rw [e]; decide)]
theorem item43 {b : Nat → Int32} {L T fu k m : Nat} {hx0 hm0 h g : Hp} {r : Nat → Int32} (t : TT b L T h) (s : GS b L k g) (hk : k ≤ T) (hf : 130 ≤ fu) (iv : INV hx0 hm0 h g m r) (hm : m < 120) : ItR b L T hx0 hm0 m k (X3_readItem_43 fu (At h k)) (bnd (X8_isNext fu 10 g) (fun r6 => if r6.1 = 0 then bnd (X8_isNext fu 12 r6.2) (fun r10 => if r10.1 = 0 then bnd (X8_isWord fu 13 r10.2) (fun r14 => bnd (X8_must fu r14 r10.2) (fun h17 => bnd (X8_number fu (1 : Int32) (20 : Int32) h17) (fun r19 => bnd (X8_item (12 : Int32) r19.1 (0 : Int32) (0 : Int32) r19.2) (fun h22 => some h22))))
        else bnd (X8_number fu (0 : Int32) (5 : Int32) r10.2) (fun r24 => bnd (X8_number fu (0 : Int32) (5 : Int32) r24.2) (fun r27 => bnd (X8_item (11 : Int32) r24.1 r27.1 (0 : Int32) r27.2) (fun h30 => some h30))))
      else bnd (X8_number fu (0 : Int32) (5 : Int32) r6.2) (fun r32 => bnd (X8_isWord fu 7 r32.2) (fun r35 => bnd (X8_must fu r35 r32.2) (fun h38 => bnd (X8_number fu (0 : Int32) (255 : Int32) h38) (fun r40 => bnd (X8_isNext fu 11 r40.2) (fun r43 => if r43.1 = 0 then bnd (X8_item (10 : Int32) r32.1 r40.1 (-1 : Int32) r43.2) (fun h47 => some h47)
      else bnd (X8_number fu (0 : Int32) (99 : Int32) r43.2) (fun r49 => bnd (X8_item (10 : Int32) r32.1 r40.1 r49.1 r49.2) (fun h52 => some h52))))))))) := by
  obtain ⟨hh, gf, rr, e19⟩ := iv
  unfold X3_readItem_43
  have i10 := isN (fu := fu) (w := 10) s (by decide) hf
  have i12 := isN (fu := fu) (w := 12) s (by decide) hf
  rcases tkX t (w := 10) (fu := fu) hk (by decide) (by omega) with ⟨a1, a2, a3⟩ | ⟨a1, a3⟩
  · obtain ⟨g1, c1, c2, c3⟩ := i10.1 a1
    rw [a3, bnd_s, if_neg n10, c1, bnd_s, if_neg n10, bnd_eta]
    dsimp only
    exact face_sim t c2 (by omega) (by omega) hf hh (gf.rd c3) rr (by rw [c3.1 19 (by decide) (by decide) (by decide) (by decide) (by decide)]; exact e19) hm
  rw [a3, bnd_s, if_pos rfl, i10.2 a1, bnd_s, if_pos rfl]
  dsimp only
  rcases tkX t (w := 12) (fu := fu) hk (by decide) (by omega) with ⟨b1, b2, b3⟩ | ⟨b1, b3⟩
  · obtain ⟨g1, c1, c2, c3⟩ := i12.1 b1
    rw [b3, bnd_s, if_neg n10, c1, bnd_s, if_neg n10, bnd_eta]
    dsimp only
    exact show_sim t c2 (by omega) (by omega) hf hh (gf.rd c3) rr (by rw [c3.1 19 (by decide) (by decide) (by decide) (by decide) (by decide)]; exact e19) hm
  rw [b3, bnd_s, if_pos rfl, i12.2 b1, bnd_s, if_pos rfl]
  dsimp only
  have i13 := isW (fu := fu) (w := 13) s.1 s.2.2 (by decide) (by omega)
  rcases tkX t (w := 13) (fu := fu) hk (by decide) (by omega) with ⟨d1, d2, d3⟩ | ⟨d1, d3⟩
  · obtain ⟨g1, c1, c2, c3⟩ := must1 hf s
    rw [d3, bnd_s, if_neg n10, i13.1 d1, bnd_s, c1, bnd_s]
    exact pace_sim t c2 (by omega) (by omega) hf hh (gf.rd c3) rr (by rw [c3.1 19 (by decide) (by decide) (by decide) (by decide) (by decide)]; exact e19) hm
  · have m0 := must0 (fu := fu) s
    rw [d3, bnd_s, if_pos rfl, i13.2 d1, bnd_s, m0.1, bnd_s, numW m0.2, bnd_s]
    dsimp only
    obtain ⟨g5, i1, i2⟩ := it_wr 12 (up g 0 15 1 0 14) 0 0 m0.2 (gf.rd rd2.wr) hm
    rw [i1, bnd_s]
    right
    exact ⟨k, h, g5, hk, rfl, rfl, t, hh, i2⟩
theorem item_sim {b : Nat → Int32} {L T fu k m : Nat} {hx0 hm0 h g : Hp} {r : Nat → Int32} (t : TT b L T h) (s : GS b L k g) (hk : k ≤ T) (hf : 130 ≤ fu) (iv : INV hx0 hm0 h g m r) (hm : m < 120) : ItR b L T hx0 hm0 m k (X3_readItem fu (At h k)) (X8_readItem fu g) := by
  have iv0 := iv
  obtain ⟨hh, gf, rr, e19⟩ := iv
  obtain ⟨np, n1, n2⟩ := npN rr.2.1
  rw [vx_at (by omega)] at n2
  have n2 : h 23 10 = nI np := n2
  have kt := kT0 (fu := fu) s.1 s.2.2 (by omega)
  unfold X8_readItem
  by_cases kd : ∃ w, w < 7 ∧ wd b L (tp b L k) w
  · obtain ⟨w, hw, z⟩ := kd
    rw [kt.1 w hw z, bnd_s, if_neg (nI_pos (by omega)), e19, n2]
    by_cases d : np < 10
    · rw [if_neg (show ¬ (10 : Int32) ≤ nI np from nI_ge (b := 10) d (by decide))]
      obtain ⟨c1, c2⟩ := ri_k t hk hf n2 d hw z w 0 fu (by omega) (by omega)
      obtain ⟨g1, q1, q2, q3⟩ := must1 hf s
      have c1' : X3_readItem fu (At h k) = X3_readPart fu (nI w) (At h (k + 1)) := c1
      rw [c1', q1, bnd_s]
      have e : g1 0 19 = nI np := by rw [q3.1 19 (by decide) (by decide) (by decide) (by decide) (by decide), e19]; exact n2
      rw [e, nI_1]
      have mb : bnd (X8_isNext fu 7 (up g1 0 19 (nI (np + 1)))) (fun r66 => if r66.1 = 0 then X8_readItem_59 fu (nI w) 0 r66.2 else bnd (X8_number fu 0 255 r66.2) (fun r70 => X8_readItem_59 fu (nI w) r70.1 r70.2)) = bnd (mayR fu 7 0 255 0 (up g1 0 19 (nI (np + 1)))) (fun r => X8_readItem_59 fu (nI w) r.1 r.2) := mayR_b (K := fun v q => X8_readItem_59 fu (nI w) v q)
      rw [mb]
      exact part_sim t q2.u19 (by omega) (by omega) hf hh (gf.rd q3).u19 rr n2 d up_eq hw hm
    · obtain rfl : np = 10 := by omega
      have m0 := must0 (fu := fu) s
      rw [if_pos (show (10 : Int32) ≤ nI 10 by decide), ri_f (by omega) (by rw [At_ne (by decide)]; exact n2), m0.1, bnd_s]
      have nw : ∀ v, 7 ≤ v → v < 14 → ¬ wd b L (tp b L k) v := fun v h1 h2 q => by
        have := wd_inj h2 (show w < 14 by omega) q z
        omega
      have c43 : X3_readItem_43 fu (At h k) = some (0, At h k) := by
        unfold X3_readItem_43
        rcases tkX t (w := 10) (fu := fu) hk (by decide) (by omega) with ⟨a1, a2, a3⟩ | ⟨a1, a3⟩
        · exact absurd a1 (nw 10 (by decide) (by decide))
        rw [a3, bnd_s, if_pos rfl]
        dsimp only
        rcases tkX t (w := 12) (fu := fu) hk (by decide) (by omega) with ⟨b1, b2, b3⟩ | ⟨b1, b3⟩
        · exact absurd b1 (nw 12 (by decide) (by decide))
        rw [b3, bnd_s, if_pos rfl]
        dsimp only
        rcases tkX t (w := 13) (fu := fu) hk (by decide) (by omega) with ⟨d1, d2, d3⟩ | ⟨d1, d3⟩
        · exact absurd d1 (nw 13 (by decide) (by decide))
        rw [d3, bnd_s, if_pos rfl]
      rw [c43, isNW m0.2.u19, bnd_s, if_pos rfl]
      obtain ⟨g5, i1, i2⟩ := w59 (fu := fu) (nI w) 0 (m0.2.u19 (v := up g 0 15 1 0 19 + 1)) (gf.rd rd2.wr).u19 hm
      right
      exact ⟨k, h, g5, hk, rfl, i1, t, hh, i2⟩
  · have nk : ∀ w, w < 7 → ¬ wd b L (tp b L k) w := fun w h1 h2 => kd ⟨w, h1, h2⟩
    rw [kt.2 nk, bnd_s, if_pos (by decide)]
    have c : X3_readItem fu (At h k) = X3_readItem_43 fu (At h k) := by
      by_cases d : np < 10
      · exact ri_n t hk hf n2 d nk 7 0 fu (by omega) (by omega)
      · obtain rfl : np = 10 := by omega
        exact ri_f (by omega) (by rw [At_ne (by decide)]; exact n2)
    rw [c]
    exact item43 t s hk hf iv0 hm
