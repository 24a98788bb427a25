theorem or0 (x : Int32) : x ||| 0 = x := Int32.or_zero
/-! likeness is a small number -/
def lkC (x0 u : Int32) (b : Bool) : Option Int32 :=
    if x0 = (1 : Int32) then some ((2 : Int32) * ((8 : Int32) - u))
    else if x0 = (2 : Int32) then some (((2 : Int32) * ((8 : Int32) - u)) + (2 : Int32))
    else if x0 = (3 : Int32) then (if b then some (jmax (0 : Int32) ((((2 : Int32) * ((8 : Int32) - u)) + (2 : Int32)) + (-5 : Int32)))
      else some (jmax (0 : Int32) ((((2 : Int32) * ((8 : Int32) - u)) + (2 : Int32)) + (5 : Int32))))
    else if x0 = (4 : Int32) then some (((8 : Int32) - u) + (3 : Int32))
    else if x0 = (5 : Int32) then some (((8 : Int32) - u) / (2 : Int32))
    else if x0 = (6 : Int32) then some (jmax (3 : Int32) (((8 : Int32) - u) / (2 : Int32)))
    else some ((8 : Int32) - u)
theorem lkC_dec : ∀ k, k < 7 → ∀ c, c < 9 → ∀ b : Bool, ∃ v, v < 24 ∧ lkC (nI k) (nI c) b = some (nI v) := by decide +kernel
theorem lkC_eq (k l f : Int32) : X2_likeness k l f = lkC k (X2_unlike l f) (decide (f &&& 128 = 0)) := by
  unfold X2_likeness lkC
  by_cases c : f &&& 128 = 0
  · simp only [if_pos c, decide_eq_true c]; rfl
  · simp only [if_neg c, decide_eq_false c]; rfl
theorem lkH_n {h : Hp} (hi : HI 1 h) {p f : Nat} (hp : p < 10) (hf : f < 6) : ∃ v, v < 24 ∧ lkH h p f = nI v := by
  obtain ⟨k, k1, k2⟩ := kdN hi hp
  obtain ⟨l, l1, l2⟩ := lkN hi hp
  obtain ⟨g, g1, g2⟩ := flN hi hf
  have e := lk_X (h 2 p) (h 3 p) (h 6 f)
  unfold lkH
  rw [lkC_eq, k2, l2, g2] at e
  unfold X2_unlike at e
  rw [nx_xor, and255 _ (xor_lt l1 g1)] at e
  obtain ⟨c, c1, c2⟩ := pop_le _ (xor_lt l1 g1)
  rw [c2] at e
  obtain ⟨v, v1, v2⟩ := lkC_dec k k1 c (by omega) (decide (nI g &&& 128 = 0))
  rw [v2] at e
  injection e with e
  exact ⟨v, v1, by rw [k2, l2, g2]; exact e.symm⟩
/-! till all are gone -/
theorem emp {hx hm : Hp} (h : HR 1 1 hx hm) {fu nv : Nat} (e : hx 1 11 = nI nv) (hn : nv ≤ 4) : ∀ (k p n : Nat) (a : Int32), p + k = nv → k < n → ∃ r, X1_minutesTillEmpty_4 fu hx n a (nI p) = some r ∧ X8_empty_4 fu hm n a (nI p) = some r := by
  intro k
  induction k with
  | zero =>
    intro p n a hp hn1
    obtain ⟨m, rfl⟩ : ∃ m, n = m + 1 := ⟨n - 1, by omega⟩
    rw [X1_minutesTillEmpty_4, X8_empty_4, rnv h, e, if_pos (nI_le (by omega) (by omega)), if_pos (nI_le (by omega) (by omega))]
    exact ⟨_, rfl, rfl⟩
  | succ k ih =>
    intro p n a hp hn1
    obtain ⟨m, rfl⟩ : ∃ m, n = m + 1 := ⟨n - 1, by omega⟩
    rw [X1_minutesTillEmpty_4, X8_empty_4, rnv h, e, if_neg (nI_ge (by omega) (by omega)), if_neg (nI_ge (by omega) (by omega)), show (73 : Int32) + nI p = nI (73 + p) from nI_add 73 p, ck_nI (by omega) (by decide), ck_nI (by omega) (by decide), cl_nI (by omega), cl_nI (by omega), rf8 h (by omega), rpa h, rck h, nI_1]
    exact ih (p + 1) m _ (by omega) (by omega)
theorem o_empty {hx hm : Hp} {fu : Nat} (hf : 11 ≤ fu) (h : R hx hm) : ∃ r, X7_empty fu hx = some r ∧ X8_empty fu hm = some r := by
  obtain ⟨nv, n1, n2⟩ := nvN h.2.1
  obtain ⟨r, a, b⟩ := emp (fu := fu) h.1 n2 n1 nv 0 fu 0 (by omega) (by omega)
  refine ⟨r, ?_, b⟩
  unfold X7_empty X1_minutesTillEmpty
  rw [show X1_minutesTillEmpty_4 fu hx fu 0 0 = _ from a, bnd_s]
/-! the likest part -/
theorem lks {hx hm : Hp} (h : R hx hm) {fu np f : Nat} (hfu : 11 ≤ fu) (e : hx 1 10 = nI np) (hn : np ≤ 10) (hf : f < 6) : ∀ (k p n b : Nat), p + k = np → k < n → b < p → ∃ r, X1_likestTo_4 fu hx n (nI f) (nI b) (nI p) = some r ∧ X8_likest_21 fu n (nI f) (nI b) (lkH hx b f) (nI p) hm = some (r, hm) := by
  intro k
  induction k with
  | zero =>
    intro p n b hp hn1 hb
    obtain ⟨m, rfl⟩ : ∃ m, n = m + 1 := ⟨n - 1, by omega⟩
    rw [X1_likestTo_4, X8_likest_21, rnp h.1, e, if_pos (nI_le (by omega) (by omega)), if_pos (nI_le (by omega) (by omega)), if_pos (nI_pos' (by omega))]
    exact ⟨_, rfl, rfl⟩
  | succ k ih =>
    intro p n b hp hn1 hb
    obtain ⟨m, rfl⟩ : ∃ m, n = m + 1 := ⟨n - 1, by omega⟩
    rw [X1_likestTo_4, X8_likest_21, rnp h.1, e, if_neg (nI_ge (by omega) (by omega)), if_neg (nI_ge (by omega) (by omega)), likeX (by omega) hf, bnd_s, likeX (by omega) hf, bnd_s, likeM hfu h.1 h.2.1 (by omega) hf, bnd_s, nI_1]
    unfold jmax
    by_cases c : lkH hx p f ≤ lkH hx b f
    · rw [if_pos c, if_pos c, bnd_s, if_neg (fun z => by rw [ti_lt] at z; rw [ti_le] at c; omega)]
      exact ih (p + 1) m b (by omega) (by omega) (by omega)
    · rw [if_neg c, if_neg c, bnd_s, if_pos (by rw [ti_lt]; rw [ti_le] at c; omega)]
      exact ih (p + 1) m p (by omega) (by omega) (by omega)
theorem o_likest {hx hm : Hp} {fu : Nat} (hf : 12 ≤ fu) (h : R hx hm) (x : Int32) : Eqv (X7_likest fu x hx) (X8_likest fu x hm) := by
  obtain ⟨np, n1, n2⟩ := npN h.2.1
  unfold X7_likest X8_likest X7_isFace X8_isFace X1_likestTo
  rw [w8]
  rcases wn x (M := 5) 6 (by decide) (by decide) with ⟨q, -⟩ | ⟨f, q, r, t⟩
  · rw [q, if_pos rfl, if_pos rfl]; exact fB h
  · rw [t, if_neg n10, if_neg n10, r, n2]
    obtain ⟨m, rfl⟩ : ∃ m, fu = m + 1 := ⟨fu - 1, by omega⟩
    by_cases z : np = 0
    · subst z
      rw [if_pos nI_0, X8_likest_21, rnp h.1, n2, if_pos (by decide), if_neg (by decide)]; exact fN h
    · rw [if_neg (nI_ne0 (by omega) (by omega)), X8_likest_21, rnp h.1, n2, if_neg (show ¬ nI np ≤ 0 from nI_nle (by omega) (by omega)), show (0 : Int32) = nI 0 from rfl, likeM (by omega) h.1 h.2.1 (by omega) q, bnd_s]
      obtain ⟨v, v1, v2⟩ := lkH_n h.2.1 (p := 0) (by omega) q
      have lt : ¬ lkH hx 0 f ≤ -1 := by rw [v2, ti_le, ti_nI (by omega), ti_litm1]; omega
      rw [if_neg lt, bnd_s, nI_1, show jmax (-1) (lkH hx 0 f) = lkH hx 0 f by unfold jmax; rw [if_pos (by rw [ti_lt]; rw [ti_le] at lt; omega)]]
      have fx := lks (fu := m + 1) h (by omega) n2 n1 q (np - 1) 1 m 0 (by omega) (by omega) (by omega)
      have fy := lks (fu := m + 1) h (by omega) n2 n1 q (np - 1) 1 (m + 1) 0 (by omega) (by omega) (by omega)
      obtain ⟨r1, a1, b1⟩ := fx
      obtain ⟨r2, a2, b2⟩ := fy
      have same : ∀ (k p n b : Nat) (r : Int32), X1_likestTo_4 (m + 1) hx n (nI f) (nI b) (nI p) = some r → X1_likestTo_4 (m + 1) hx (n + 1) (nI f) (nI b) (nI p) = some r := by
        intro k p n
        induction n generalizing p with
        | zero => intro b r e; rw [X1_likestTo_4] at e; cases e
        | succ n ih =>
          intro b r e
          rw [X1_likestTo_4]
          rw [X1_likestTo_4] at e
          by_cases c : hx 1 10 ≤ nI p
          · rw [if_pos c] at e ⊢; exact e
          · rw [if_neg c] at e ⊢
            obtain ⟨u1, e1, e⟩ := bnd_some e
            obtain ⟨u2, e2, e⟩ := bnd_some e
            rw [e1, e2, bnd_s, bnd_s]
            rw [nI_1] at e ⊢
            by_cases d : u1 ≤ u2
            · rw [if_pos d] at e ⊢; exact ih (p + 1) b r e
            · rw [if_neg d] at e ⊢; exact ih (p + 1) p r e
      have a3 := same 0 1 m 0 r1 a1
      rw [show (1 : Int32) = nI 1 from rfl]
      rw [a3, b1, bnd_s]
      exact ⟨_, _, _, rfl, rfl, h⟩
theorem whm {hx hm : Hp} (h : R hx hm) {fu p : Nat} (hfu : 11 ≤ fu) (hp : p < 10) : ∀ (k f n b : Nat), f + k = 6 → k < n → b < f → ∃ r, X1_likestOf_4 fu hx n (nI p) (nI b) (nI f) = some r ∧ X8_whom_19 fu n (nI p) (nI b) (nI f) hm = some (r, hm) := by
  intro k
  induction k with
  | zero =>
    intro f n b hf hn1 hb
    obtain ⟨m, rfl⟩ : ∃ m, n = m + 1 := ⟨n - 1, by omega⟩
    rw [X1_likestOf_4, X8_whom_19, if_pos (show (6 : Int32) ≤ nI f from nI_le (a := 6) (by omega) (by omega)), if_pos (show (6 : Int32) ≤ nI f from nI_le (a := 6) (by omega) (by omega))]
    exact ⟨_, rfl, rfl⟩
  | succ k ih =>
    intro f n b hf hn1 hb
    obtain ⟨m, rfl⟩ : ∃ m, n = m + 1 := ⟨n - 1, by omega⟩
    rw [X1_likestOf_4, X8_whom_19, if_neg (show ¬ (6 : Int32) ≤ nI f from nI_ge (b := 6) (by omega) (by omega)), if_neg (show ¬ (6 : Int32) ≤ nI f from nI_ge (b := 6) (by omega) (by omega)), likeX hp (by omega), bnd_s, likeX hp (by omega), bnd_s, likeM hfu h.1 h.2.1 hp (by omega), bnd_s, likeM hfu h.1 h.2.1 hp (by omega), bnd_s, nI_1]
    by_cases c : lkH hx p f ≤ lkH hx p b
    · rw [if_pos c, if_pos c]; exact ih (f + 1) m b (by omega) (by omega) (by omega)
    · rw [if_neg c, if_neg c]; exact ih (f + 1) m f (by omega) (by omega) (by omega)
theorem o_whom {hx hm : Hp} {fu : Nat} (hf : 12 ≤ fu) (h : R hx hm) (x : Int32) : Eqv (X7_whom fu x hx) (X8_whom fu x hm) := by
  obtain ⟨np, n1, n2⟩ := npN h.2.1
  unfold X7_whom X8_whom X1_likestOf
  rcases hasP h.1 n2 n1 x with ⟨a, b, c⟩ | ⟨p, a, b, c, d⟩
  · rw [a, b, bnd_s, if_pos rfl, if_pos rfl]; exact fB h
  · rw [c, d, bnd_s, if_neg n10, if_neg n10, b]
    obtain ⟨r, r1, r2⟩ := whm h (fu := fu) (p := p) (by omega) (by omega) 5 1 fu 0 (by omega) (by omega) (by omega)
    rw [show X1_likestOf_4 fu hx fu (nI p) 0 1 = _ from r1, show X8_whom_19 fu fu (nI p) 0 1 hm = _ from r2, bnd_s]
    exact ⟨_, _, _, rfl, rfl, h⟩
/-! moulds -/
def cuV (h : Hp) (p f : Nat) : Int32 := X2_unlike (h 3 p) (h 6 f) * h 4 p
theorem cutX {h : Hp} {p f : Nat} (hp : p < 10) (hf : f < 6) : X1_cutCost (nI p) (nI f) h = some (cuV h p f) := by
  unfold X1_cutCost
  rw [ck_nI hp (by decide), ck_nI hf (by decide), ck_nI hp (by decide), cl_nI (by omega), cl_nI (by omega)]
  rfl
theorem cutM {hx hm : Hp} {fu : Nat} (hfu : 11 ≤ fu) (h : HR 1 1 hx hm) (hi : HI 1 hx) {p f : Nat} (hp : p < 10) (hf : f < 6) : X8_cutOf fu (nI p) (nI f) hm = some (cuV hx p f) := by
  unfold X8_cutOf cuV X2_unlike
  obtain ⟨l, l1, l2⟩ := lkN hi hp
  obtain ⟨g, g1, g2⟩ := flN hi hf
  rw [pI1 h hp, bnd_s, show (15 : Int32) + nI f = nI (15 + f) from nI_add 15 f, ck_nI (by omega) (by decide), cl_nI (by omega), rf5 h hf, l2, g2, nx_xor, bits_nI hfu (by have := xor_lt l1 g1; omega), bnd_s, pI2 h hp, bnd_s, and255 _ (xor_lt l1 g1)]
theorem mld {hx hm : Hp} (h : R hx hm) {fu np f : Nat} (hfu : 11 ≤ fu) (e : hx 1 10 = nI np) (hn : np ≤ 10) (hf : f < 6) : ∀ (k p n b : Nat), p + k = np → k < n → b < p → b < 10 → ∃ r, r < 10 ∧ X1_nearestMould_4 fu hx n (nI f) (nI b) (nI p) = some (nI r) ∧ X8_mouldOf_35 fu n (nI f) 0 (nI b) (nI p) hm = some (nI r, hm) ∧ X8_mouldOf_35 fu n (nI f) 1 (nI b) (nI p) hm = some (cuV hx r f, hm) := by
  intro k
  induction k with
  | zero =>
    intro p n b hp hn1 hb hb1
    obtain ⟨m, rfl⟩ : ∃ m, n = m + 1 := ⟨n - 1, by omega⟩
    rw [X1_nearestMould_4, X8_mouldOf_35, X8_mouldOf_35, rnp h.1, e, if_pos (nI_le (by omega) (by omega)), if_pos (nI_le (by omega) (by omega)), if_pos (nI_le (by omega) (by omega)), if_pos rfl, if_neg n10, cutM hfu h.1 h.2.1 hb1 hf, bnd_s]
    exact ⟨b, hb1, rfl, rfl, rfl⟩
  | succ k ih =>
    intro p n b hp hn1 hb hb1
    obtain ⟨m, rfl⟩ : ∃ m, n = m + 1 := ⟨n - 1, by omega⟩
    rw [X1_nearestMould_4, X8_mouldOf_35, X8_mouldOf_35, rnp h.1, e, if_neg (nI_ge (by omega) (by omega)), if_neg (nI_ge (by omega) (by omega)), if_neg (nI_ge (by omega) (by omega)), cutX (by omega) hf, bnd_s, cutX (by omega) hf, bnd_s, cutM hfu h.1 h.2.1 (by omega) hf, bnd_s, cutM hfu h.1 h.2.1 (by omega) hf, bnd_s, bnd_s, bnd_s, nI_1]
    by_cases c : cuV hx b f ≤ cuV hx p f
    · rw [if_pos c, if_pos c, if_pos c]; exact ih (p + 1) m b (by omega) (by omega) (by omega) hb1
    · rw [if_neg c, if_neg c, if_neg c]; exact ih (p + 1) m p (by omega) (by omega) (by omega) (by omega)
theorem o_mould {hx hm : Hp} {fu : Nat} (hf : 12 ≤ fu) (h : R hx hm) (x : Int32) : Eqv (X7_mould fu x hx) (X8_mould fu x hm) := by
  obtain ⟨np, n1, n2⟩ := npN h.2.1
  unfold X7_mould X8_mould X8_mouldOf X7_isFace X8_isFace X1_nearestMould
  rw [w8, bnd_eta]
  rcases wn x (M := 5) 6 (by decide) (by decide) with ⟨q, -⟩ | ⟨f, q, r, t⟩
  · rw [q, if_pos rfl, if_pos rfl]; exact fB h
  · rw [t, if_neg n10, if_neg n10, r, rnp h.1, n2]
    by_cases z : np = 0
    · subst z; rw [if_pos nI_0, if_pos nI_0]; exact fN h
    · rw [if_neg (nI_ne0 (by omega) (by omega)), if_neg (nI_ne0 (by omega) (by omega))]
      obtain ⟨r, r0, r1, r2, r3⟩ := mld h (fu := fu) (by omega) n2 n1 q (np - 1) 1 fu 0 (by omega) (by omega) (by omega) (by omega)
      rw [show X1_nearestMould_4 fu hx fu (nI f) 0 1 = _ from r1, show X8_mouldOf_35 fu fu (nI f) 0 0 1 hm = _ from r2, bnd_s]
      exact ⟨_, _, _, rfl, rfl, h⟩
theorem o_cuts {hx hm : Hp} {fu : Nat} (hf : 12 ≤ fu) (h : R hx hm) (x : Int32) : Eqv (X7_cuts fu x hx) (X8_cuts fu x hm) := by
  obtain ⟨np, n1, n2⟩ := npN h.2.1
  unfold X7_cuts X8_cuts X8_mouldOf X7_isFace X8_isFace X1_nearestMould
  rw [w8, bnd_eta]
  rcases wn x (M := 5) 6 (by decide) (by decide) with ⟨q, -⟩ | ⟨f, q, r, t⟩
  · rw [q, if_pos rfl, if_pos rfl]; exact fB h
  · rw [t, if_neg n10, if_neg n10, r, rnp h.1, n2]
    by_cases z : np = 0
    · subst z; rw [if_pos nI_0, if_pos nI_0]; exact fN h
    · rw [if_neg (nI_ne0 (by omega) (by omega)), if_neg (nI_ne0 (by omega) (by omega))]
      obtain ⟨r, r0, r1, r2, r3⟩ := mld h (fu := fu) (by omega) n2 n1 q (np - 1) 1 fu 0 (by omega) (by omega) (by omega) (by omega)
      rw [show X1_nearestMould_4 fu hx fu (nI f) 0 1 = _ from r1, show X8_mouldOf_35 fu fu (nI f) 1 0 1 hm = _ from r3, bnd_s, cutX r0 q, bnd_s]
      exact ⟨_, _, _, rfl, rfl, h⟩
/-! heads that are like enough -/
theorem hlk {hx hm : Hp} (h : R hx hm) {fu np f : Nat} (hfu : 11 ≤ fu) (e : hx 1 10 = nI np) (hn : np ≤ 10) (hf : f < 6) (v : Int32) : ∀ (k p n : Nat) (a : Int32), p + k = np → k < n → ∃ r, X1_headsLike_5 fu hx n (nI f) v a (nI p) = some r ∧ X8_headsLike_5 fu hm n (nI f) v a (nI p) = some r := by
  intro k
  induction k with
  | zero =>
    intro p n a hp hn1
    obtain ⟨m, rfl⟩ : ∃ m, n = m + 1 := ⟨n - 1, by omega⟩
    rw [X1_headsLike_5, X8_headsLike_5, rnp h.1, e, if_pos (nI_le (by omega) (by omega)), if_pos (nI_le (by omega) (by omega))]
    exact ⟨_, rfl, rfl⟩
  | succ k ih =>
    intro p n a hp hn1
    obtain ⟨m, rfl⟩ : ∃ m, n = m + 1 := ⟨n - 1, by omega⟩
    rw [X1_headsLike_5, X8_headsLike_5, rnp h.1, e, if_neg (nI_ge (by omega) (by omega)), if_neg (nI_ge (by omega) (by omega)), headX (by omega) h.2.1 (by omega), headM (by omega) h.1 h.2.1 (by omega), bnd_s, bnd_s, nI_1, or0]
    by_cases c : isH hx p = true
    · rw [if_pos c, if_neg n10, if_neg n10, likeX (by omega) hf, likeM hfu h.1 h.2.1 (by omega) hf, bnd_s, bnd_s]
      by_cases d : lkH hx p f < v
      · rw [if_pos d, if_pos d]; exact ih (p + 1) m _ (by omega) (by omega)
      · rw [if_neg d, if_neg d]; exact ih (p + 1) m _ (by omega) (by omega)
    · rw [if_neg c, if_pos rfl, if_pos rfl]; exact ih (p + 1) m _ (by omega) (by omega)
theorem heads_eq {hx hm : Hp} {fu : Nat} (hfu : 11 ≤ fu) (h : R hx hm) {f : Nat} (hf : f < 6) (v : Int32) : ∃ r, X1_headsLike fu (nI f) v hx = some r ∧ X8_headsLike fu (nI f) v hm = some r := by
  obtain ⟨np, n1, n2⟩ := npN h.2.1
  exact hlk h hfu n2 n1 hf v np 0 fu 0 (by omega) (by omega)
theorem o_fire {hx hm : Hp} {fu : Nat} (hf : 12 ≤ fu) (h : R hx hm) (x1 x2 : Int32) : Eqv (X7_fire fu x1 x2 hx) (X8_fire fu x1 x2 hm) := by
  unfold X7_fire X8_fire X7_isFace X8_isFace
  rw [w8]
  rcases wn x1 (M := 5) 6 (by decide) (by decide) with ⟨q, -⟩ | ⟨f, q, r, t⟩
  · rw [q, if_pos rfl, if_pos rfl]; exact fB h
  · rw [t, if_neg n10, if_neg n10, r]
    rcases wr x2 0 99 with ⟨a, b⟩ | ⟨a, b, c⟩
    · rw [a, if_pos rfl, if_pos rfl]; exact fB h
    · rw [a, if_neg n10, if_neg n10]
      obtain ⟨v, v1, v2⟩ := heads_eq (fu := fu) (by omega) h q x2
      rw [v1, v2, bnd_s, bnd_s]
      exact ⟨_, _, _, rfl, rfl, h⟩
theorem stdL {hx hm : Hp} (h : R hx hm) {fu : Nat} (hfu : 11 ≤ fu) (x1 x2 : Int32) : ∀ (k f n : Nat) (a : Int32), f + k = 6 → k < n → Eqv (X7_stand_41 fu n x1 x2 a (nI f) hx) (X8_stand_40 fu n x1 x2 a (nI f) hm) := by
  intro k
  induction k with
  | zero =>
    intro p n a hp hn1
    obtain ⟨m, rfl⟩ : ∃ m, n = m + 1 := ⟨n - 1, by omega⟩
    rw [X7_stand_41, X8_stand_40, if_pos (show (6 : Int32) ≤ nI p from nI_le (a := 6) (by omega) (by omega)), if_pos (show (6 : Int32) ≤ nI p from nI_le (a := 6) (by omega) (by omega))]
    exact ⟨_, _, _, rfl, rfl, h⟩
  | succ k ih =>
    intro p n a hp hn1
    obtain ⟨m, rfl⟩ : ∃ m, n = m + 1 := ⟨n - 1, by omega⟩
    obtain ⟨v, v1, v2⟩ := heads_eq hfu h (show p < 6 by omega) x2
    rw [X7_stand_41, X8_stand_40, if_neg (show ¬ (6 : Int32) ≤ nI p from nI_ge (b := 6) (by omega) (by omega)), if_neg (show ¬ (6 : Int32) ≤ nI p from nI_ge (b := 6) (by omega) (by omega)), v1, v2, bnd_s, bnd_s, nI_1, or0]
    by_cases c : v &&& (x1 ^^^ (-1)) = 0
    · rw [if_pos c, if_pos c]; exact ih (p + 1) m _ (by omega) (by omega)
    · rw [if_neg c, if_neg c]; exact ih (p + 1) m _ (by omega) (by omega)
theorem o_stand {hx hm : Hp} {fu : Nat} (hf : 12 ≤ fu) (h : R hx hm) (x1 x2 : Int32) : Eqv (X7_stand fu x1 x2 hx) (X8_stand fu x1 x2 hm) := by
  unfold X7_stand X8_stand
  rw [w8, rnp h.1]
  rcases wr x1 0 (1 <<< (hx 1 10 &&& 31) - 1) with ⟨q, -⟩ | ⟨q, -⟩
  · rw [q, if_pos rfl, if_pos rfl]; exact fB h
  · rw [q, if_neg n10, if_neg n10]
    rcases wr x2 0 99 with ⟨a, b⟩ | ⟨a, b, c⟩
    · rw [a, if_pos rfl, if_pos rfl]; exact fB h
    · rw [a, if_neg n10, if_neg n10]
      exact stdL h (by omega) x1 x2 6 0 fu 0 (by omega) (by omega)
