theorem sub0 (x : Int32) : x - 0 = x := by
  rw [Int32.sub_eq_add_neg]
  exact Int32.add_zero x
theorem givL {hx hm h2 g : Hp} (h : R hx hm) (hR : HR 1 1 hx g) {fu np N : Nat} (hfu : 1100 ≤ fu) (np1 : np ≤ 10) (np2 : hx 1 10 = nI np) (hN : N < 6) (g6 : g 0 6 = nI 0) (ht : tab hx np 0 g 6) (gj : ∀ j, j ≠ 6 → g 0 j = hm 0 j) (gc : ∀ c, c ≠ 5 → c ≠ 0 → g c = hm c)
    (a5 : ∀ hs rooms h, sub hs (bs (isH hx) np) → sub rooms (bs (shP hx) 6) → h 35 = h2 35 → ∃ h3, X0_fill fu (nI rooms) (nI hs) h = some (nI (bN (RT hx) hs 10 rooms), h3) ∧ (∀ m, sub m rooms → h3 36 m = nI (bN (RT hx) hs 10 m)) ∧ (∀ q, q ≠ 36 → h3 q = h q))
    (e35 : ∀ j r, j < np → isH hx j = true → r < 6 → shP hx r = true → h2 35 (6 * j + r) = nI (RT hx j (5 - r))) : ∀ (d r n n1 : Nat) (hX : Hp) (x3 x4 : Int32) (hs u rooms : Nat), r + d = N + 1 → d < n → d < n1 → hX 35 = h2 35 → hX 34 3 = nI rooms → hX 34 2 = nI hs → (∀ c, c ≠ 34 → c ≠ 35 → c ≠ 36 → hX c = hx c) → sub hs (bs (isH hx) np) → (∀ q, rooms.testBit q = (decide (r ≤ q) && (bs (shP hx) 6).testBit q)) → hJ hs 10 = Hu (HB hx np 0) u → u < 1024 → dj (HB hx np 0) u → Eqv (X0_headIn_24 fu n (nI N) x3 x4 (nI r) hX) (X8_given_28 fu n1 (nI N) x3 (nI u) x4 (nI r) g) := by
  have hI := h.2.1
  have l1 := isH_lt hx np1
  have l2 : bs (shP hx) 6 < 64 := bs_lt _ _
  intro d
  induction d with
  | zero =>
    intro r n n1 hX x3 x4 hs u rooms hr hn hn1 f1 f2 f3 f4 f5 f6 f7 f8 f9
    obtain ⟨m, rfl⟩ : ∃ m, n = m + 1 := ⟨n - 1, by omega⟩
    obtain ⟨m1, rfl⟩ : ∃ m, n1 = m + 1 := ⟨n1 - 1, by omega⟩
    rw [X0_headIn_24, X8_given_28, if_pos (nI_lt (by omega) (by omega)), if_pos (nI_lt (by omega) (by omega))]
    exact ⟨_, _, _, rfl, rfl, h.fr f4 gj gc⟩
  | succ d ih =>
    intro r n n1 hX x3 x4 hs u rooms hr hn hn1 f1 f2 f3 f4 f5 f6 f7 f8 f9
    obtain ⟨m, rfl⟩ : ∃ m, n = m + 1 := ⟨n - 1, by omega⟩
    obtain ⟨m1, rfl⟩ : ∃ m, n1 = m + 1 := ⟨n1 - 1, by omega⟩
    have r6 : r < 6 := by omega
    have hsl := sub_le f5
    have subr : sub rooms (bs (shP hx) 6) := fun q hq => by rw [f6, Bool.and_eq_true] at hq; exact hq.2
    have rl := sub_le subr
    have nlt : ¬ nI N < nI r := fun z => by rw [nI_ltI (by omega) (by omega)] at z; omega
    have z1 : np = 0 → nI np - (1 : Int32) = -1 := fun e => by rw [e]; decide
    have z2 : ∀ q, np = q + 1 → nI np - (1 : Int32) = nI q := fun q e => by
      rw [e, show nI (q + 1) - (1 : Int32) = nI (q + 1 - 1) from pk_sub (a := q + 1) (b := 1) (by omega)]
      rfl
    rw [X0_headIn_24, X8_given_28, if_neg nlt, if_neg nlt, rnp hR, np2, g47 hR hI (by omega) np1 np2 g6 ht f8 f9 r6 (X8_given_28 fu m1) (nI N) x3 np fu (-1) _ (by omega) (by omega) z1 z2, f2]
    have rb1 : ∀ q, (clr rooms r).testBit q = (decide (r + 1 ≤ q) && (bs (shP hx) 6).testBit q) := fun q => by
      rw [clr_bit, f6]
      by_cases e : q = r
      · rw [e, decide_eq_false (show ¬ r + 1 ≤ r by omega)]; simp
      · by_cases e2 : r ≤ q
        · have : r + 1 ≤ q := by omega
          simp [e, e2, this]
        · have : ¬ r + 1 ≤ q := by omega
          simp [e2, this]
    have br : rooms.testBit r = shP hx r := by rw [f6, bs_bit, decide_eq_true (show r ≤ r by omega), decide_eq_true r6]; simp
    by_cases s : shP hx r = true
    · rw [if_neg (fun z => by rw [(and_z (by omega) (by omega)).mp z] at br; rw [s] at br; exact absurd br (by decide)), clr_nI (by omega)]
      unfold X0_firstHead
      obtain ⟨h1, q1, q2⟩ := fh (fu := fu) (u := u) (x3 := x3) (h2 := h2) np1 r6 f5 (sub_clr subr) s f7 rb1 a5 (fun j hj => by
        have := f5 j hj
        rw [bs_bit, Bool.and_eq_true] at this
        exact e35 j r (by simpa using this.1) this.2 r6 s) 10 0 fu (up hX 34 3 (nI (clr rooms r))) (by omega) (by omega) (by rw [up_ne (by decide)]; exact f1) up_eq (by rw [up_nj (by decide)]; exact f3)
      rw [show X0_firstHead_2 fu fu (nI r) x3 0 (up hX 34 3 (nI (clr rooms r))) = _ from q1, bnd_s]
      dsimp only
      rw [lw_dn np1 (fun i hi => by unfold gQ Hu at hi; rw [Bool.and_eq_true, Bool.and_eq_true, Bool.and_eq_true] at hi; exact HB_np hi.2.1.1)]
      have h34 : h1 34 2 = nI hs := by rw [q2 34 (by decide), up_nj (by decide)]; exact f3
      have h35 : h1 35 = h2 35 := by rw [q2 35 (by decide), up_ne (by decide)]; exact f1
      have h33 : h1 34 3 = nI (clr rooms r) := by rw [q2 34 (by decide), up_eq]
      have ho : ∀ c, c ≠ 34 → c ≠ 35 → c ≠ 36 → h1 c = hx c := fun c c1 c2 c3 => by rw [q2 c c3, up_ne c1, f4 c c1 c2 c3]
      rcases dn_s (Q := gQ hx np u r x3) np (-1) with ⟨j, j1, j2, -, j4⟩ | ⟨-, j4⟩
      · rw [j4]
        have j2' := j2
        unfold gQ at j2'
        rw [Bool.and_eq_true, Bool.and_eq_true] at j2'
        have hju : Hu (HB hx np 0) u j = true := j2'.2.1
        have hbj : HB hx np 0 j = true := by unfold Hu at hju; rw [Bool.and_eq_true] at hju; exact hju.1
        have hsj : hs.testBit j = true := by rw [← f7] at hju; unfold hJ at hju; rw [Bool.and_eq_true] at hju; exact hju.2
        obtain ⟨f, w1, w2, w3, w4⟩ := rt_ok hI (show j < 10 by omega) r6 s
        have isj := f5 j hsj
        rw [bs_bit, Bool.and_eq_true] at isj
        unfold X0_headIn_69 g47R X8_given_152
        rw [if_neg (show ¬ nI j = (-1 : Int32) from fun z => by rw [ti_eq, ti_nI (by omega), ti_litm1] at z; omega), show nI j * (6 : Int32) = nI (j * 6) from pk_mul j 6, nI_add, show j * 6 + r = 6 * j + r by omega, ck_nI (by omega) (by decide), cl_nI (by omega), h34, clr_nI (by omega), up_ne (by decide), h35, e35 j r j1 isj.2 r6 s, if_pos (nI_pos' (by omega)), show (27 : Int32) + nI r = nI (27 + r) from nI_add 27 r, ck_nI (by omega) (by decide), cl_nI (show 27 + r < 2147483648 by omega), rf7 hR r6, w2, likeM (by omega) hR hI (by omega) w1, bnd_s, if_pos (nI_pos' (by omega)), w4, or_bit (by omega), nI_1]
        refine ih (r + 1) m m1 _ _ _ (clr hs j) (u ||| 2 ^ j) (clr rooms r) (by omega) (by omega) (by omega) (by rw [up_ne (by decide)]; exact h35) (by rw [up_nj (by decide)]; exact h33) up_eq (fun c c1 c2 c3 => by rw [up_ne c1]; exact ho c c1 c2 c3) (sub_clr f5) rb1 ?_ (or_lt10 f8 (by omega)) (dj_or f9 hbj)
        rw [hJ_clr, f7, Hu_or]
      · rw [j4]
        unfold X0_headIn_69 g47R X8_given_152
        rw [if_pos rfl, if_neg (by decide), if_neg (by decide), sub0, or_0, nI_1]
        exact ih (r + 1) m m1 h1 x3 (-1) hs u (clr rooms r) (by omega) (by omega) (by omega) h35 h33 h34 ho f5 rb1 f7 f8 f9
    · have s' : shP hx r = false := by simpa using s
      have nq : dn (gQ hx np u r x3) np (-1) = -1 := by
        rcases dn_s (Q := gQ hx np u r x3) np (-1) with ⟨j, j1, j2, -, j4⟩ | ⟨-, j4⟩
        · unfold gQ at j2; rw [s'] at j2; simp at j2
        · exact j4
      rw [if_pos ((and_z (by omega) (by omega)).mpr (by rw [br]; exact s')), nq]
      unfold X0_headIn_69 g47R X8_given_152
      rw [if_pos rfl, if_neg (by decide), if_neg (by decide), sub0, or_0, nI_1]
      refine ih (r + 1) m m1 hX x3 (-1) hs u rooms (by omega) (by omega) (by omega) f1 f2 f3 f4 f5 (fun q => ?_) f7 f8 f9
      rw [f6]
      by_cases e : q = r
      · subst e
        rw [bs_bit, s']
        simp
      · by_cases e2 : r ≤ q
        · have : r + 1 ≤ q := by omega
          simp [e2, this]
        · have : ¬ r + 1 ≤ q := by omega
          simp [e2, this]
theorem o_given {hx hm : Hp} {fu : Nat} (hf : 1100 ≤ fu) (h : R hx hm) (x : Int32) : Eqv (X7_given fu x hx) (X8_given fu x hm) := by
  obtain ⟨np, np1, np2⟩ := npN h.2.1
  unfold X7_given X8_given X7_isRoom X8_isRoom
  rw [w8]
  rcases wn x (M := 5) 6 (by decide) (by decide) with ⟨a, -⟩ | ⟨N, N1, rfl, a⟩
  · rw [if_pos a, if_pos a]; exact fB h
  have a' : ¬ X7_within (nI N) 0 5 = 0 := by rw [a]; decide
  rw [if_neg a', if_neg a', bnd_eta]
  obtain ⟨h2, a1, a2, a3, a4, a5⟩ := lookX h.2.1 (fu := fu) (by omega) np1 np2
  obtain ⟨h2', s1, -, -, s4, -⟩ := svX h.2.1 (fu := fu) (by omega) np1 np2
  have eh : h2' = h2 := by rw [a1] at s1; injection s1 with s1; exact s1.symm
  subst eh
  obtain ⟨h3, b1, b2, b3⟩ := a5 _ _ h2' (sub_rf _) (sub_rf _) rfl
  obtain ⟨g, c1, c2, c3, c4, c5⟩ := findM h.1 h.2.1 (fu := fu) (lo := 0) hf np1 np2 (by omega)
  have hRg : HR 1 1 hx g := h.1.frame (fun _ _ => rfl) (c5 1 (by decide) (by decide))
  unfold X0_headIn
  rw [a1, bnd_s, a2, a3, b1, bnd_s, show X8_findMost fu 0 hm = _ from c1, bnd_s, most_eq np1]
  exact givL (h2 := h2') h hRg hf np1 np2 N1 c3 c2 c4 c5 a5 s4 (N + 1) 0 fu fu h3 _ (-1) (bs (isH hx) np) 0 (bs (shP hx) 6) (by omega) (by omega) (by omega) (b3 35 (by decide)) (by rw [b3 34 (by decide)]; exact a2) (by rw [b3 34 (by decide)]; exact a3) (fun c x1 x2 x3 => by rw [b3 c x3, a4 c x1 x2]) (sub_rf _) (fun q => by rw [decide_eq_true (Nat.zero_le q), Bool.true_and]) (by rw [hJ_all np1, Hu_0]) (by omega) (fun i _ b => by rw [Nat.zero_testBit] at b; exact absurd b (by decide))
