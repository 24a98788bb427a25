theorem MI1.up {w w' : Nat → Int32} {np nv pa ck : Nat} (h : MI1 w np nv pa ck) (e : ∀ j, j < 36 ∨ 73 ≤ j → w' j = w j) : MI1 w' np nv pa ck := by
  obtain ⟨a0, a1, a2, a3, a4, a5, a6, a7, a8, a9⟩ := h
  exact ⟨by rw [e 0 (by omega)]; exact a0, by rw [e 1 (by omega)]; exact a1, by rw [e 2 (by omega)]; exact a2, by rw [e 3 (by omega)]; exact a3, a4, a5, a6, a7, a8, fun v hv => by rw [e (73 + v) (by omega)]; exact a9 v hv⟩
theorem isUn {hx hm : Hp} (h : R hx hm) {fu np nv ck pa p w : Nat} {y : Int32} (hfu : 9300 ≤ fu) (np1 : np ≤ 10) (np2 : hx 1 10 = nI np) (nv1 : nv ≤ 4) (nv2 : hx 1 11 = nI nv) (pa1 : 1 ≤ pa) (pa2 : pa ≤ 20) (pa3 : hx 1 13 = nI pa) (ck1 : ck ≤ 9000) (ck2 : hx 1 12 = nI ck) (pp : p < np) (y1 : -1 ≤ y.toInt) (y2 : y.toInt ≤ 5) (hw : w ≤ 60) : ∃ b : Bool, ∃ hm1, X1_staysUnseen fu (nI p) y (nI w) hx = some (if b then 1 else 0) ∧ X8_isUnseen fu (nI p) y (nI w) (nI (bs (wcP hx p) nv)) hm = some (if b then 1 else 0, hm1) ∧ R hx hm1 := by
  have hR := h.1
  have hI := h.2.1
  have hp : p < 10 := by omega
  obtain ⟨m, m1, m2, m3⟩ := caB hI hp y1 y2
  have hcl : ∀ v, v < 4 → hx 9 v = nI (hx 9 v).toNatClampNeg ∧ (hx 9 v).toNatClampNeg ≤ ck := fun v hv => by
    obtain ⟨c, ck', c1, c2, c3, c4⟩ := cmN hI hv
    have : ck' = ck := (nI_eq (by omega) (by omega)).mp (c4.symm.trans ck2)
    rw [c3, cl_nI (by omega)]
    exact ⟨rfl, by omega⟩
  have pl5 : ∀ q, q < 10 → hm 1 (36 + 4 * q) = hx 5 q := fun q hq => hR 4 q (vl14 (by omega) (by omega) hq)
  obtain ⟨K, hK⟩ : ∃ K, K = 1000000 - (ck + w + m) := ⟨_, rfl⟩
  refine ⟨allF (okX hx p pa ck w (ck + w + m) K y) 0 nv, ?_⟩
  have X : X1_staysUnseen fu (nI p) y (nI w) hx = some (if allF (okX hx p pa ck w (ck + w + m) K y) 0 nv then 1 else 0) := by
    unfold X1_staysUnseen
    rw [carX hp, bnd_s, m3, ck2, nI_add, nI_add]
    exact su22 hI hK np2 nv1 nv2 pa2 pa3 (by omega) ck2 hp y2 hw (by omega) nv 0 fu (by omega) (by omega)
  obtain ⟨h2, i1, i2, i3⟩ := cpRow_ok (fu := fu) (c0 := 1) (c1 := 3) (by decide) (by omega) hm
  have e2 : h2 1 = hm 1 := i3 1 (by decide)
  have M2 : MI1 (h2 1) np nv pa ck := by
    rw [e2]
    exact ⟨by rw [rck hR]; exact ck2, by rw [rpa hR]; exact pa3, by rw [rnp hR]; exact np2, by rw [rnv hR]; exact nv2, np1, nv1, pa1, pa2, by omega, fun v hv => ⟨(hx 9 v).toNatClampNeg, (hcl v (by omega)).2, by rw [rf8 hR (by omega)]; exact (hcl v (by omega)).1⟩⟩
  obtain ⟨h4, j1, j2, j3, j4, j5, j6⟩ := mns (fu := fu) (by omega) w 0 fu w ck h2 M2 (by omega) (by omega) (by omega) (by omega)
  have ca : X8_carryOf (nI p) y h4 = some (nI m) := by
    rw [carF hp (h := hm) (fun j a b => by rw [j4 j (by omega) (by omega), e2]) y, carM hR hI hp y1, m3]
  have M4 : MI1 (up h4 1 (36 + 4 * p) (-2) 1) np nv pa (ck + w) := j2.up (fun j hj => up_nj (by omega))
  obtain ⟨h5, k1, k2, k3, k4, k5, k6⟩ := mns (fu := fu) (by omega) m 0 fu m (ck + w) (up h4 1 (36 + 4 * p) (-2)) M4 (by omega) (by omega) (by omega) (by omega)
  have M6 : MI1 (up h5 1 (36 + 4 * p) y 1) np nv pa (ck + w + m) := k2.up (fun j hj => up_nj (by omega))
  have r1 : ∀ v, v < 4 → cmR (h2 1) v = (hx 9 v).toNatClampNeg := fun v hv => by unfold cmR; rw [e2, rf8 hR hv]
  have r2 : ∀ v, v < 4 → cmR (up h4 1 (36 + 4 * p) (-2) 1) v = (hx 9 v).toNatClampNeg := fun v hv => by rw [← r1 v hv]; unfold cmR; rw [up_nj (by omega), j4 _ (by omega) (by omega)]
  have r3 : ∀ v, v < 4 → cmR (up h5 1 (36 + 4 * p) y 1) v = (hx 9 v).toNatClampNeg := fun v hv => by rw [← r2 v hv]; unfold cmR; rw [up_nj (by omega), k4 _ (by omega) (by omega)]
  obtain ⟨k, h7, l1, l2, l3, l4, l5, l6, l7, l8⟩ := un22 (W := wcP hx p) (fu := fu) (p := p) (c0 := ck) (by omega) ck1 (9200 - (ck + w + m)) (ck + w + m) fu (up h5 1 (36 + 4 * p) y) M6 (by omega) (by omega) (fun v hv _ => by rw [r3 v (by omega)]; exact (hcl v (by omega)).2)
  -- what is seen at the end
  have p2 : ∀ q, q < 10 → h2 1 (36 + 4 * q) = hx 5 q := fun q hq => by rw [e2]; exact pl5 q hq
  have p4 : ∀ q, q < 10 → up h4 1 (36 + 4 * p) (-2) 1 (36 + 4 * q) = if q = p then -2 else hx 5 q := fun q hq => by
    by_cases z : q = p
    · rw [if_pos z, z, up_eq]
    · rw [if_neg z, up_nj (by omega), j4 _ (by omega) (by omega), p2 q hq]
  have p6 : ∀ q, q < 10 → up h5 1 (36 + 4 * p) y 1 (36 + 4 * q) = if q = p then y else hx 5 q := fun q hq => by
    by_cases z : q = p
    · rw [if_pos z, z, up_eq]
    · rw [if_neg z, up_nj (by omega), k4 _ (by omega) (by omega), p4 q hq, if_neg z]
  have b4 : ∀ q, q < 10 → (if q = p then (-2 : Int32) else hx 5 q).toInt ≤ 5 := fun q hq => by
    by_cases z : q = p
    · rw [if_pos z]; decide
    · rw [if_neg z]; exact (plB hI hq).2
  have b6 : ∀ q, q < 10 → (if q = p then y else hx 5 q).toInt ≤ 5 := fun q hq => by
    by_cases z : q = p
    · rw [if_pos z]; exact y2
    · rw [if_neg z]; exact (plB hI hq).2
  have s0 : ∀ v q, v < 4 → q < 10 → hm 1 (77 + 10 * v + q) = hx 10 (10 * v + q) := fun v q hv hq => by
    rw [show 77 + 10 * v + q = 77 + (10 * v + q) by omega]; exact rf9 hR (by omega)
  have see : ∀ v q, v < nv → q < np → h7 1 (77 + 10 * v + q) = hx 10 (10 * v + q) ||| nI (pb (hx 9 v).toNatClampNeg pa ck w (hx 5 q)) ||| nI (pb (hx 9 v).toNatClampNeg pa (ck + w) m (if q = p then -2 else hx 5 q)) ||| nI (pb (hx 9 v).toNatClampNeg pa (ck + w + m) k (if q = p then y else hx 5 q)) := by
    intro v q hv hq
    have hc := (hcl v (by omega)).2
    rw [l4 v q hv hq, up_nj (by omega), k3 v q hv hq, up_nj (by omega), j3 v q hv hq, e2, s0 v q (by omega) (by omega)]
    rw [← e2, acc_pb pa1 (r1 v (by omega)) hc (by rw [p2 q (by omega)]; exact (plB hI (by omega)).2) w (by omega), p2 q (by omega),
      acc_pb pa1 (r2 v (by omega)) (by omega) (by rw [p4 q (by omega)]; exact b4 q (by omega)) m (by omega), p4 q (by omega),
      acc_pb pa1 (r3 v (by omega)) (by omega) (by rw [p6 q (by omega)]; exact b6 q (by omega)) k (by omega), p6 q (by omega)]
  have hs : ∀ v q, v < 4 → q < 10 → ∃ s, s < 64 ∧ h7 1 (77 + 10 * v + q) = nI s := by
    intro v q hv hq
    obtain ⟨s, s1, s2⟩ := sgN hI (i := 10 * v + q) (by omega)
    by_cases z : v < nv ∧ q < np
    · rw [see v q z.1 z.2, s2, nx_or, nx_or, nx_or]
      exact ⟨_, Nat.or_lt_two_pow (n := 6) (Nat.or_lt_two_pow (n := 6) (Nat.or_lt_two_pow (n := 6) s1 (pb_lt (plB hI hq).2)) (pb_lt (b4 q hq))) (pb_lt (b6 q hq)), rfl⟩
    · rw [l6 v q hv hq (by omega), up_nj (by omega), k5 v q hv hq (by omega), up_nj (by omega), j5 v q hv hq (by omega), e2, s0 v q hv hq]
      exact ⟨s, s1, s2⟩
  have okE : allF (okM h7 (wcP hx p) p) 0 nv = allF (okX hx p pa ck w (ck + w + m) K y) 0 nv := allF_ext nv 0 (fun v _ hv => by
    unfold okM okX
    by_cases z : wcP hx p v = true
    · have far := l8 v (by omega) z
      rw [r3 v (by omega)] at far
      unfold srP sX
      rw [see v p (by omega) pp, if_pos rfl, if_pos rfl, pb_n (pl := -2) (by decide), pb_far y2 pa1 far (show k ≤ K by omega), show nI 0 = 0 from rfl, or0]
    · have z' : wcP hx p v = false := by simpa using z
      rw [z', Bool.false_and, Bool.false_and])
  obtain ⟨h8, o1, o2, o3⟩ := cpRow_ok (fu := fu) (c0 := 3) (c1 := 1) (by decide) (by omega) h7
  have h7o : ∀ c, c ≠ 1 → h7 c = h2 c := fun c hc => by rw [l7 c hc, up_ne hc, k6 c hc, up_ne hc, j6 c hc]
  refine ⟨h8, X, ?_, ?_⟩
  · unfold X8_isUnseen X8_minutes X8_moves
    rw [i1, bnd_s, show X8_minutes_2 fu fu (nI w) 0 h2 = _ from j1, bnd_s, ca, bnd_s, show X8_at (nI p) 3 = nI (33 + 4 * p + 3) from at_nI p 3, show 33 + 4 * p + 3 = 36 + 4 * p by omega]
    simp only [ck_nI (show 36 + 4 * p < 117 by omega) (show 117 < 2147483648 by decide), cl_nI (show 36 + 4 * p < 2147483648 by omega)]
    rw [show jmax (1 : Int32) (nI m) = nI (max 1 m) from jmax_nI (a := 1) (by omega) (by omega), show max 1 m = m by omega]
    unfold X8_minutes
    rw [show X8_minutes_2 fu fu (nI m) 0 (up h4 1 (36 + 4 * p) (-2)) = _ from k1, bnd_s, bnd_s, l1]
    have := un45 (h := h7) (W := wcP hx p) (fu := fu) (nv := nv) (p := p) (by omega) hp l2.2.2.2.1 nv1 hs nv 0 fu true (by omega) (by omega)
    rw [show X8_isUnseen_45 fu fu (nI p) (nI (bs (wcP hx p) nv)) 1 0 h7 = _ from this, o1, bnd_s, okE, Bool.true_and]
  · have c8 : ∀ c, c ≠ 1 → c ≠ 3 → h8 c = hm c := fun c c1 c3 => by rw [o3 c c1, h7o c c1, i3 c c3]
    refine h.house (fun k _ _ => rfl) (fun k kc k1 => c8 k k1 (by unfold cM at kc; omega)) (by rw [c8 0 (by decide) (by decide)]) (by rw [c8 0 (by decide) (by decide)]) (fun f i v => ?_) hI
    rw [o2 _ (ix_lt v), h7o 3 (by decide), i2 _ (ix_lt v)]
    exact hR f i v
theorem unsL {hx : Hp} {fu np nv ck pa p : Nat} {y : Int32} (hfu : 9300 ≤ fu) (np1 : np ≤ 10) (np2 : hx 1 10 = nI np) (nv1 : nv ≤ 4) (nv2 : hx 1 11 = nI nv) (pa1 : 1 ≤ pa) (pa2 : pa ≤ 20) (pa3 : hx 1 13 = nI pa) (ck1 : ck ≤ 9000) (ck2 : hx 1 12 = nI ck) (pp : p < np) (y1 : -1 ≤ y.toInt) (y2 : y.toInt ≤ 5) : ∀ (k w n : Nat) (hm : Hp), R hx hm → w + k = 61 → k < n → Eqv (X7_unseen_60 fu n (nI p) y (nI w) hx) (X8_unseen_60 fu n (nI p) y (nI (bs (wcP hx p) nv)) (nI w) hm) := by
  intro k
  induction k with
  | zero =>
    intro w n hm h hw hn
    obtain ⟨m, rfl⟩ : ∃ m, n = m + 1 := ⟨n - 1, by omega⟩
    rw [X7_unseen_60, X8_unseen_60, if_pos (show (60 : Int32) < nI w from nI_lt (a := 60) (by omega) (by omega)), if_pos (show (60 : Int32) < nI w from nI_lt (a := 60) (by omega) (by omega)), if_neg (show ¬ nI w ≤ (60 : Int32) from nI_ge (a := 60) (by omega) (by omega))]
    exact fN h
  | succ k ih =>
    intro w n hm h hw hn
    obtain ⟨m, rfl⟩ : ∃ m, n = m + 1 := ⟨n - 1, by omega⟩
    obtain ⟨b, hm1, e1, e2, R1⟩ := isUn h hfu np1 np2 nv1 nv2 pa1 pa2 pa3 ck1 ck2 pp y1 y2 (show w ≤ 60 by omega)
    have nlt : ¬ (60 : Int32) < nI w := fun z => by rw [ti_lt, ti_nI (by omega), show (60 : Int32).toInt = 60 from rfl] at z; omega
    rw [X7_unseen_60, X8_unseen_60, if_neg nlt, if_neg nlt, e1, e2, bnd_s, bnd_s, nI_1]
    cases b with
    | false =>
      rw [if_pos (show (if false = true then (1 : Int32) else 0) = 0 from rfl)]
      rw [if_pos (show ((if false = true then (1 : Int32) else 0), hm1).1 = 0 from rfl)]
      exact ih (w + 1) m hm1 R1 (by omega) (by omega)
    | true =>
      rw [if_neg (show ¬ (if true = true then (1 : Int32) else 0) = 0 from n10)]
      rw [if_neg (show ¬ ((if true = true then (1 : Int32) else 0), hm1).1 = 0 from n10), if_pos (show nI w ≤ (60 : Int32) from nI_le (b := 60) (by omega) (by omega))]
      exact ⟨_, _, _, rfl, rfl, R1⟩
theorem o_unseen {hx hm : Hp} {fu : Nat} (hf : 9300 ≤ fu) (h : R hx hm) (x y : Int32) : Eqv (X7_unseen fu x y hx) (X8_unseen fu x y hm) := by
  have hR := h.1
  have hI := h.2.1
  obtain ⟨ck, ck1, ck2⟩ := ckN hI
  obtain ⟨np, np1, np2⟩ := npN hI
  obtain ⟨nv, nv1, nv2⟩ := nvN hI
  obtain ⟨pa, pa1, pa2, pa3⟩ := paN hI
  unfold X7_unseen X8_unseen
  rcases hasP hR np2 np1 x with ⟨a, b, -⟩ | ⟨p, p1, rfl, a, b⟩
  · rw [if_pos a, b, bnd_s, if_pos rfl]; exact fB h
  rw [if_neg (by rw [a]; decide), b, bnd_s, if_neg n10]
  unfold X7_isPlace X8_isPlace
  rw [w8]
  rcases wr y (-1) 5 with ⟨c, -⟩ | ⟨c, y1, y2⟩
  · rw [if_pos c, if_pos c]; exact fB h
  have c' : ¬ X7_within y (-1) 5 = 0 := by rw [c]; decide
  rw [if_neg c', if_neg c', ck10 (by omega), cl_nI (by omega), pI3 hR (by omega), bnd_s]
  rw [show (-1 : Int32).toInt = -1 from rfl] at y1
  rw [show (5 : Int32).toInt = 5 from rfl] at y2
  by_cases d : hx 5 p = y
  · rw [if_pos d, if_pos d]; exact fS h
  rw [if_neg d, if_neg d]
  simp only [rck hR, ck2]
  by_cases z : ck ≤ 9000
  · rw [if_pos (show nI ck ≤ (9000 : Int32) from nI_le (b := 9000) z (by omega)), if_pos (show nI ck ≤ (9000 : Int32) from nI_le (b := 9000) z (by omega)), who_ok h (by omega) nv2 nv1 np2 np1 p1, bnd_s]
    exact unsL hf np1 np2 nv1 nv2 pa1 pa2 pa3 z ck2 p1 y1 y2 61 0 fu hm h (by omega) (by omega)
  · rw [if_neg (show ¬ nI ck ≤ (9000 : Int32) from nI_ge (a := 9000) (by omega) (by omega)), if_neg (show ¬ nI ck ≤ (9000 : Int32) from nI_ge (a := 9000) (by omega) (by omega))]; exact fS h
theorem hidL {hx : Hp} {fu np nv ck pa : Nat} {y : Int32} (hfu : 9300 ≤ fu) (np1 : np ≤ 10) (np2 : hx 1 10 = nI np) (nv1 : nv ≤ 4) (nv2 : hx 1 11 = nI nv) (pa1 : 1 ≤ pa) (pa2 : pa ≤ 20) (pa3 : hx 1 13 = nI pa) (ck1 : ck ≤ 9000) (ck2 : hx 1 12 = nI ck) (y1 : -1 ≤ y.toInt) (y2 : y.toInt ≤ 5) : ∀ (k p n : Nat) (a : Int32) (hm : Hp), R hx hm → p + k = np → k < n → Eqv (X7_hidden_38 fu n y a (nI p) hx) (X8_hidden_37 fu n y a (nI p) hm) := by
  intro k
  induction k with
  | zero =>
    intro p n a hm h hp hn
    obtain ⟨m, rfl⟩ : ∃ m, n = m + 1 := ⟨n - 1, by omega⟩
    rw [X7_hidden_38, X8_hidden_37, rnp h.1, np2, if_pos (nI_le (by omega) (by omega)), if_pos (nI_le (by omega) (by omega))]
    exact ⟨_, _, _, rfl, rfl, h⟩
  | succ k ih =>
    intro p n a hm h hp hn
    obtain ⟨m, rfl⟩ : ∃ m, n = m + 1 := ⟨n - 1, by omega⟩
    rw [X7_hidden_38, X8_hidden_37, rnp h.1, np2, if_neg (nI_ge (by omega) (by omega)), if_neg (nI_ge (by omega) (by omega)), ck10 (by omega), cl_nI (by omega), pI3 h.1 (by omega), bnd_s, nI_1, or0]
    by_cases d : hx 5 p = y
    · rw [if_pos d, if_pos d]; exact ih (p + 1) m a hm h (by omega) (by omega)
    obtain ⟨b, hm1, e1, e2, R1⟩ := isUn h hfu np1 np2 nv1 nv2 pa1 pa2 pa3 ck1 ck2 (show p < np by omega) y1 y2 (show 0 ≤ 60 by omega)
    rw [if_neg d, if_neg d, show X1_staysUnseen fu (nI p) y 0 hx = _ from e1, who_ok h (by omega) nv2 nv1 np2 np1 (by omega), bnd_s, bnd_s, show X8_isUnseen fu (nI p) y 0 (nI (bs (wcP hx p) nv)) hm = _ from e2, bnd_s]
    cases b with
    | false =>
      rw [if_pos (show (if false = true then (1 : Int32) else 0) = 0 from rfl)]
      rw [if_pos (show ((if false = true then (1 : Int32) else 0), hm1).1 = 0 from rfl)]
      exact ih (p + 1) m a hm1 R1 (by omega) (by omega)
    | true =>
      rw [if_neg (show ¬ (if true = true then (1 : Int32) else 0) = 0 from n10)]
      rw [if_neg (show ¬ ((if true = true then (1 : Int32) else 0), hm1).1 = 0 from n10)]
      exact ih (p + 1) m _ hm1 R1 (by omega) (by omega)
theorem o_hidden {hx hm : Hp} {fu : Nat} (hf : 9300 ≤ fu) (h : R hx hm) (y : Int32) : Eqv (X7_hidden fu y hx) (X8_hidden fu y hm) := by
  have hR := h.1
  have hI := h.2.1
  obtain ⟨ck, ck1, ck2⟩ := ckN hI
  obtain ⟨np, np1, np2⟩ := npN hI
  obtain ⟨nv, nv1, nv2⟩ := nvN hI
  obtain ⟨pa, pa1, pa2, pa3⟩ := paN hI
  unfold X7_hidden X8_hidden X7_isPlace X8_isPlace
  rw [w8]
  rcases wr y (-1) 5 with ⟨c, -⟩ | ⟨c, y1, y2⟩
  · rw [if_pos c, if_pos c]; exact fB h
  have c' : ¬ X7_within y (-1) 5 = 0 := by rw [c]; decide
  rw [if_neg c', if_neg c']
  rw [show (-1 : Int32).toInt = -1 from rfl] at y1
  rw [show (5 : Int32).toInt = 5 from rfl] at y2
  simp only [rck hR, ck2]
  by_cases z : ck ≤ 9000
  · rw [if_pos (show nI ck ≤ (9000 : Int32) from nI_le (b := 9000) z (by omega)), if_pos (show nI ck ≤ (9000 : Int32) from nI_le (b := 9000) z (by omega))]
    exact hidL hf np1 np2 nv1 nv2 pa1 pa2 pa3 z ck2 y1 y2 np 0 fu 0 hm h (by omega) (by omega)
  · rw [if_neg (show ¬ nI ck ≤ (9000 : Int32) from nI_ge (a := 9000) (by omega) (by omega)), if_neg (show ¬ nI ck ≤ (9000 : Int32) from nI_ge (a := 9000) (by omega) (by omega))]; exact fS h
