theorem o_of {hx hm : Hp} (h : R hx hm) (x1 x2 : Int32) : Eqv (X7_of x1 x2 hx) (X8_of x1 x2 hm) := by
  obtain ⟨np, n1, n2⟩ := npN h.2.1
  unfold X7_of X8_of
  rw [w8]
  have key : ∀ f, f < 4 → Eqv (if X1_hasPart x1 hx = 0 then bnd (X7_finding (-1000001 : Int32) hx) (fun r => some (r.1, r.2)) else chk (inR x1 10) (some (hx (2 + f) x1.toNatClampNeg, hx))) (bnd (X8_isPart x1 hm) (fun r2 => if r2 = 0 then bnd (X8_finding (-1000001 : Int32) hm) (fun r => some (r.1, r.2)) else if X7_within (nI f) 0 3 = 0 then bnd (X8_finding (-1000001 : Int32) hm) (fun r => some (r.1, r.2)) else bnd (X8_partIs x1 (nI f) hm) (fun r => some (r, hm)))) := by
    intro f hf
    rcases hasP h.1 n2 n1 x1 with ⟨a, b, c⟩ | ⟨p, a, b, c, d⟩
    · rw [a, b, bnd_s, if_pos rfl, if_pos rfl]; exact fB h
    · rw [c, d, bnd_s, if_neg n10, if_neg n10]
      rcases wn (nI f) (M := 3) 4 (by decide) (by decide) with ⟨q, r⟩ | ⟨p1, q, r, t⟩
      · exact absurd rfl (r f hf)
      · rw [t, if_neg n10, b, ck_nI (by omega) (by decide), cl_nI (by omega), pI h.1 (by omega) hf, bnd_s]
        exact ⟨_, _, _, rfl, rfl, h⟩
  by_cases e0 : x2 = 0
  · subst e0; rw [if_pos rfl]; exact key 0 (by decide)
  · rw [if_neg e0]
    by_cases e1 : x2 = 1
    · subst e1; rw [if_pos rfl]; exact key 1 (by decide)
    · rw [if_neg e1]
      by_cases e2 : x2 = 2
      · subst e2; rw [if_pos rfl]; exact key 2 (by decide)
      · rw [if_neg e2]
        by_cases e3 : x2 = 3
        · subst e3; rw [if_pos rfl]; exact key 3 (by decide)
        · rw [if_neg e3]
          have hw : X7_within x2 0 3 = 0 := by
            rcases wn x2 (M := 3) 4 (by decide) (by decide) with ⟨q, -⟩ | ⟨p1, q, r, t⟩
            · exact q
            · rcases (show p1 = 0 ∨ p1 = 1 ∨ p1 = 2 ∨ p1 = 3 by omega) with z | z | z | z <;> rw [z] at r
              · exact absurd r e0
              · exact absurd r e1
              · exact absurd r e2
              · exact absurd r e3
          rcases hasP h.1 n2 n1 x1 with ⟨a, b, c⟩ | ⟨p, a, b, c, d⟩
          · rw [b, bnd_s, if_pos rfl]
            try rw [a, if_pos rfl]
            exact fB h
          · rw [d, bnd_s, if_neg n10, hw, if_pos rfl]
            try rw [c, if_neg n10]
            exact fB h
theorem o_like {hx hm : Hp} {fu : Nat} (hf : 11 ≤ fu) (h : R hx hm) (x1 x2 : Int32) : Eqv (X7_like x1 x2 hx) (X8_like fu x1 x2 hm) := by
  obtain ⟨np, n1, n2⟩ := npN h.2.1
  unfold X7_like X8_like X7_isFace X8_isFace
  rw [w8]
  rcases hasP h.1 n2 n1 x1 with ⟨a, b, c⟩ | ⟨p, a, b, c, d⟩
  · rw [a, b, bnd_s, if_pos rfl, if_pos rfl]; exact fB h
  · rw [c, d, bnd_s, if_neg n10, if_neg n10]
    rcases wn x2 (M := 5) 6 (by decide) (by decide) with ⟨q, -⟩ | ⟨f, q, r, t⟩
    · rw [q, if_pos rfl, if_pos rfl]; exact fB h
    · rw [t, if_neg n10, if_neg n10, b, r, likeX (by omega) q, likeM hf h.1 h.2.1 (by omega) q, bnd_s, bnd_s]
      exact ⟨_, _, _, rfl, rfl, h⟩
theorem o_carries {hx hm : Hp} (h : R hx hm) (x1 x2 : Int32) : Eqv (X7_carries x1 x2 hx) (X8_carries x1 x2 hm) := by
  obtain ⟨np, n1, n2⟩ := npN h.2.1
  unfold X7_carries X8_carries X7_isPlace X8_isPlace
  rw [w8]
  rcases hasP h.1 n2 n1 x1 with ⟨a, b, c⟩ | ⟨p, a, b, c, d⟩
  · rw [a, b, bnd_s, if_pos rfl, if_pos rfl]; exact fB h
  · rw [c, d, bnd_s, if_neg n10, if_neg n10]
    rcases wr x2 (-1) 5 with ⟨q, -⟩ | ⟨q, r, t⟩
    · rw [q, if_pos rfl, if_pos rfl]; exact fB h
    · rw [q, if_neg n10, if_neg n10, b, ck_nI (by omega) (by decide), cl_nI (by omega), pI3 h.1 (by omega), bnd_s]
      by_cases e : hx 5 p = x2
      · rw [if_pos e, if_pos e]; exact fS h
      · rw [if_neg e, if_neg e, carX (by omega), carM h.1 h.2.1 (by omega) r, bnd_s, bnd_s]
        exact ⟨_, _, _, rfl, rfl, h⟩
theorem o_show {hx hm : Hp} (h : R hx hm) (x1 x2 : Int32) : Eqv (X7_show x1 x2 hx) (X8_show x1 x2 hm) := by
  unfold X7_show X8_show X7_isRoom X8_isRoom X7_isFace X7_show_26
  rw [w8]
  rcases wn x1 (M := 5) 6 (by decide) (by decide) with ⟨q, -⟩ | ⟨f, q, r, t⟩
  · rw [q, if_pos rfl, if_pos rfl]; exact fB h
  · rw [t, if_neg n10, if_neg n10, r]
    have good : -1 ≤ x2.toInt ∧ x2.toInt ≤ 5 → Eqv (chk (inR (nI f) 6) (chk (inR (nI f) 6) (some (hx 8 (nI f).toNatClampNeg, up hx 8 (nI f).toNatClampNeg x2)))) (bnd (X8_become (27 + nI f) x2 hm) (fun r => some (r.1, r.2))) := by
      intro hb
      rw [bnd_eta, show (27 : Int32) = nI 27 from rfl, nI_add, become_nI (by omega), ck_nI q (by decide), ck_nI q (by decide), cl_nI (by omega), rf7 h.1 q]
      exact ⟨_, _, _, rfl, rfl, h.up1 (f := 7) (i := f) (Or.inr ⟨by omega, by omega, q⟩) hb ⟨by omega, by omega, by omega, by omega⟩⟩
    rcases wr x2 (-1) 5 with ⟨a, b⟩ | ⟨a, b, c⟩
    · rw [a, if_pos rfl]
      have e0 : (-1 : Int32).toInt = -1 := rfl
      have e5 : (5 : Int32).toInt = 5 := rfl
      have e00 : (0 : Int32).toInt = 0 := rfl
      rcases wr x2 0 5 with ⟨d, -⟩ | ⟨d, e, f⟩
      · rw [d, if_pos rfl, if_neg (fun z => b (by rw [z]; decide))]; exact fB h
      · exact absurd ⟨by omega, f⟩ b
    · rw [a, if_neg n10]
      rcases wr x2 0 5 with ⟨d, e⟩ | ⟨d, e, f⟩
      · rw [d, if_pos rfl, if_pos (by
          rw [ti_eq]
          have e0 : (-1 : Int32).toInt = -1 := rfl
          have e5 : (5 : Int32).toInt = 5 := rfl
          have e00 : (0 : Int32).toInt = 0 := rfl
          omega)]
        exact good ⟨b, c⟩
      · rw [d, if_neg n10]; exact good ⟨b, c⟩
theorem o_face {hx hm : Hp} (h : R hx hm) (x1 x2 x3 : Int32) : Eqv (X7_face x1 x2 x3 hx) (X8_face x1 x2 x3 hm) := by
  unfold X7_face X8_face X7_isFace X7_face_30 X8_face_11 X8_face_31 X8_isLooks X8_isFace
  rw [w8]
  have e0 : (0 : Int32).toInt = 0 := rfl
  rcases wn x1 (M := 5) 6 (by decide) (by decide) with ⟨q, -⟩ | ⟨f, q, r, t⟩
  · simp only [q, if_true]
    have : Eqv (bnd (X7_finding (-1000001 : Int32) hx) (fun r => some (r.1, r.2))) (bnd (X8_finding (-1000001 : Int32) hm) (fun r => some (r.1, r.2))) := fB h
    repeat' split
    all_goals exact this
  · have F := fB h
    rw [t]
    by_cases c0 : x2 = 0
    · subst c0
      have hw : X7_within 0 0 1 = 1 := by decide
      rw [hw]
      rcases wr x3 0 255 with ⟨a, b⟩ | ⟨a, b, c⟩
      · rw [a]
        repeat' split
        all_goals first | exact F | (exact absurd (by assumption) n10) | (exfalso; simp_all; done)
      · have G : Eqv (chk (inR x1 6) (chk (inR x1 6) (some (hx 6 x1.toNatClampNeg, up hx 6 x1.toNatClampNeg x3)))) (bnd (X8_become (15 + 6 * 0 + x1) x3 hm) (fun r => some (r.1, r.2))) := by
          rw [r, bnd_eta, show (15 : Int32) + 6 * 0 + nI f = nI (15 + f) by rw [← nI_add]; rfl, become_nI (by omega), ck_nI q (by decide), ck_nI q (by decide), cl_nI (by omega), rf5 h.1 q]
          exact ⟨_, _, _, rfl, rfl, h.up1 (f := 5) (i := f) (Or.inr ⟨by omega, by omega, q⟩) ⟨b, c⟩ ⟨by omega, by omega, by omega, by omega⟩⟩
        rw [a]
        repeat' split
        all_goals first | exact F | exact G | (exact absurd (by assumption) n10) | (exfalso; simp_all; done)
    · by_cases c1 : x2 = 1
      · subst c1
        have hw : X7_within 1 0 1 = 1 := by decide
        rw [hw]
        rcases wr x3 0 99 with ⟨a, b⟩ | ⟨a, b, c⟩
        · rw [a]
          repeat' split
          all_goals first | exact F | (exact absurd (by assumption) n10) | (exfalso; simp_all; done)
        · have G : Eqv (chk (inR x1 6) (chk (inR x1 6) (some (hx 7 x1.toNatClampNeg, up hx 7 x1.toNatClampNeg x3)))) (bnd (X8_become (15 + 6 * 1 + x1) x3 hm) (fun r => some (r.1, r.2))) := by
            rw [r, bnd_eta, show (15 : Int32) + 6 * 1 + nI f = nI (21 + f) by rw [← nI_add]; rfl, become_nI (by omega), ck_nI q (by decide), ck_nI q (by decide), cl_nI (by omega), rf6 h.1 q]
            exact ⟨_, _, _, rfl, rfl, h.up1 (f := 6) (i := f) (Or.inr ⟨by omega, by omega, q⟩) ⟨b, c⟩ ⟨by omega, by omega, by omega, by omega⟩⟩
          rw [a]
          repeat' split
          all_goals first | exact F | exact G | (exact absurd (by assumption) n10) | (exfalso; simp_all; done)
      · have hw : X7_within x2 0 1 = 0 := by
          rcases wn x2 (M := 1) 2 (by decide) (by decide) with ⟨q, -⟩ | ⟨p1, q, r, t⟩
          · exact q
          · rcases (show p1 = 0 ∨ p1 = 1 by omega) with z | z <;> rw [z] at r
            · exact absurd r c0
            · exact absurd r c1
        rw [hw]
        repeat' split
        all_goals first | exact F | (exact absurd (by assumption) n10) | (exfalso; simp_all; done)
theorem o_change {hx hm : Hp} (h : R hx hm) (x1 x2 x3 : Int32) : Eqv (X7_change x1 x2 x3 hx) (X8_change x1 x2 x3 hm) := by
  obtain ⟨np, n1, n2⟩ := npN h.2.1
  unfold X7_change X8_change X8_change_23 X8_change_38 X8_change_55 X8_isKind X8_isLooks X8_isPlace
  rw [w8]
  have F := fB h
  rcases hasP h.1 n2 n1 x1 with ⟨a, b, c⟩ | ⟨p, a, b, c, d⟩
  · simp only [a, b, bnd_s, if_true]
    repeat' split
    all_goals exact F
  · simp only [c, d, bnd_s, n10, if_false]
    have good : ∀ f, f < 4 → loH (1 + f) p ≤ x3.toInt ∧ x3.toInt ≤ hiH (1 + f) p → Eqv (chk (inR x1 10) (chk (inR x1 10) (some (hx (2 + f) x1.toNatClampNeg, up hx (2 + f) x1.toNatClampNeg x3)))) (bnd (X8_become (X8_at x1 (nI f)) x3 hm) (fun r => some (r.1, r.2))) := by
      intro f hf hb
      have hv : vl (1 + f) p := by
        right
        refine ⟨by omega, by omega, ?_⟩
        have : ∀ f, f < 4 → lnH (1 + f) = 10 := by decide
        rw [this f hf]; omega
      have e : ix (1 + f) p = 33 + 4 * p + f := by
        rcases (show f = 0 ∨ f = 1 ∨ f = 2 ∨ f = 3 by omega) with rfl | rfl | rfl | rfl
        · rfl
        · show 34 + 4 * p = _; omega
        · show 35 + 4 * p = _; omega
        · show 36 + 4 * p = _; omega
      have e2 := h.1 (1 + f) p hv
      have e3 := h.up1 hv hb ⟨by omega, by omega, by omega, by omega⟩
      rw [e, show 1 + (1 + f) = 2 + f by omega] at e2 e3
      rw [b, at_nI, bnd_eta, become_nI (by omega), ck_nI (by omega) (by decide), ck_nI (by omega) (by decide), cl_nI (by omega), e2]
      exact ⟨_, _, _, rfl, rfl, e3⟩
    by_cases e0 : x2 = 0
    · subst e0
      rw [if_pos rfl, if_pos rfl, if_neg (show ¬ (0 : Int32) = 1 by decide), if_neg (show ¬ (0 : Int32) = 2 by decide), if_neg (show ¬ (0 : Int32) = 3 by decide)]
      rw [show inR (0 : Int32) 4 = true by decide, chk_t, chk_t]
      rcases wr x3 0 6 with ⟨q, r⟩ | ⟨q, r, t⟩
      · rw [show X7_within x3 (LTr (0 : Int32).toNatClampNeg) (MTr (0 : Int32).toNatClampNeg) = 0 from q, q, if_pos rfl, if_pos rfl]; exact F
      · rw [show X7_within x3 (LTr (0 : Int32).toNatClampNeg) (MTr (0 : Int32).toNatClampNeg) = 1 from q, q, if_neg n10, if_neg n10]; exact good 0 (by decide) ⟨r, t⟩
    · rw [if_neg e0, if_neg e0]
      by_cases e1 : x2 = 1
      · subst e1
        rw [if_pos rfl, if_pos rfl, if_neg (show ¬ (1 : Int32) = 2 by decide), if_neg (show ¬ (1 : Int32) = 3 by decide)]
        rw [show inR (1 : Int32) 4 = true by decide, chk_t, chk_t]
        rcases wr x3 0 255 with ⟨q, r⟩ | ⟨q, r, t⟩
        · rw [show X7_within x3 (LTr (1 : Int32).toNatClampNeg) (MTr (1 : Int32).toNatClampNeg) = 0 from q, q, if_pos rfl, if_pos rfl]; exact F
        · rw [show X7_within x3 (LTr (1 : Int32).toNatClampNeg) (MTr (1 : Int32).toNatClampNeg) = 1 from q, q, if_neg n10, if_neg n10]; exact good 1 (by decide) ⟨r, t⟩
      · rw [if_neg e1, if_neg e1]
        by_cases e2 : x2 = 2
        · subst e2
          rw [if_pos rfl, if_pos rfl, if_neg (show ¬ (2 : Int32) = 3 by decide)]
          rw [show inR (2 : Int32) 4 = true by decide, chk_t, chk_t]
          rcases wr x3 1 60 with ⟨q, r⟩ | ⟨q, r, t⟩
          · rw [show X7_within x3 (LTr (2 : Int32).toNatClampNeg) (MTr (2 : Int32).toNatClampNeg) = 0 from q, q, if_pos rfl, if_pos rfl]; exact F
          · rw [show X7_within x3 (LTr (2 : Int32).toNatClampNeg) (MTr (2 : Int32).toNatClampNeg) = 1 from q, q, if_neg n10, if_neg n10]; exact good 2 (by decide) ⟨by have : (1 : Int32).toInt = 1 := rfl; show (0 : Int) ≤ _; omega, t⟩
        · rw [if_neg e2, if_neg e2]
          by_cases e3 : x2 = 3
          · subst e3
            rw [if_pos rfl, if_pos rfl]
            rw [show inR (3 : Int32) 4 = true by decide, chk_t, chk_t]
            rcases wr x3 (-1) 5 with ⟨q, r⟩ | ⟨q, r, t⟩
            · rw [show X7_within x3 (LTr (3 : Int32).toNatClampNeg) (MTr (3 : Int32).toNatClampNeg) = 0 from q, q, if_pos rfl, if_pos rfl]; exact F
            · rw [show X7_within x3 (LTr (3 : Int32).toNatClampNeg) (MTr (3 : Int32).toNatClampNeg) = 1 from q, q, if_neg n10, if_neg n10]; exact good 3 (by decide) ⟨r, t⟩
          · rw [if_neg e3, if_neg e3]; exact F
