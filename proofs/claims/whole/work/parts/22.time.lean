/-! whether somebody who came at c, a room each pa minutes, is in room r as one of k minutes from f on begins -/
def ps (c r pa f k : Nat) : Bool := decide (max (c + r * pa) f < min (c + r * pa + pa) (f + k))
theorem ps_0 {c r pa f : Nat} : ps c r pa f 0 = false := by
  unfold ps
  simp only [decide_eq_false_iff_not]
  omega
theorem div_r {x pa r : Nat} (hp : 1 ≤ pa) : x / pa = r ↔ r * pa ≤ x ∧ x < r * pa + pa := by
  have e1 := Nat.div_add_mod x pa
  have e2 := Nat.mod_lt x (show 0 < pa by omega)
  constructor
  · intro h
    rw [h, Nat.mul_comm] at e1
    generalize r * pa = Q at *
    omega
  · rintro ⟨a, b⟩
    have c : x / pa < r + 1 := (Nat.div_lt_iff_lt_mul (by omega)).mpr (by rw [Nat.add_mul, Nat.one_mul]; exact b)
    have d : r ≤ x / pa := (Nat.le_div_iff_mul_le (by omega)).mpr a
    omega
theorem ps_S {c r pa f k : Nat} (hp : 1 ≤ pa) (hc : c ≤ f) : ps c r pa f (k + 1) = (ps c r pa f k || decide ((f + k - c) / pa = r)) := by
  have hd := div_r (x := f + k - c) (r := r) hp
  unfold ps
  generalize r * pa = Q at *
  by_cases a : (f + k - c) / pa = r
  · have := hd.mp a
    simp only [a, decide_true, Bool.or_true, decide_eq_true_eq]
    omega
  · have : ¬ (Q ≤ f + k - c ∧ f + k - c < Q + pa) := fun z => a (hd.mpr z)
    simp only [a, decide_false, Bool.or_false, decide_eq_decide]
    omega
/-! a minute of the reference -/
def sb (rm pl : Int32) : Int32 := if rm < 0 then 0 else if pl = rm then (1 : Int32) <<< (rm &&& 31) else 0
theorem m20 {fu v np : Nat} (hv : v < 4) (hn : np ≤ 10) (rm : Int32) (k2 : Int32 → Hp → Option Hp) : ∀ (k p n : Nat) (h : Hp), h 1 2 = nI np → p + k = np → k < n → ∃ h1, X8_minute_20 fu k2 n (nI v) rm (nI p) h = k2 (nI (v + 1)) h1 ∧ (∀ q, p ≤ q → q < np → h1 1 (77 + 10 * v + q) = h 1 (77 + 10 * v + q) ||| sb rm (h 1 (36 + 4 * q))) ∧ (∀ j, j < 77 + 10 * v + p ∨ 77 + 10 * v + np ≤ j → h1 1 j = h 1 j) ∧ (∀ c, c ≠ 1 → h1 c = h c) := by
  intro k
  induction k with
  | zero =>
    intro p n h e hp hk
    obtain ⟨m, rfl⟩ : ∃ m, n = m + 1 := ⟨n - 1, by omega⟩
    rw [X8_minute_20, e, if_pos (nI_le (by omega) (by omega)), nI_1]
    exact ⟨h, rfl, fun q a b => by omega, fun j _ => rfl, fun c _ => rfl⟩
  | succ k ih =>
    intro p n h e hp hk
    obtain ⟨m, rfl⟩ : ∃ m, n = m + 1 := ⟨n - 1, by omega⟩
    have go : ∀ w : Int32, w = sb rm (h 1 (36 + 4 * p)) → ∃ h1, X8_minute_20 fu k2 m (nI v) rm (nI (p + 1)) (up h 1 (77 + 10 * v + p) (h 1 (77 + 10 * v + p) ||| w)) = k2 (nI (v + 1)) h1 ∧ (∀ q, p ≤ q → q < np → h1 1 (77 + 10 * v + q) = h 1 (77 + 10 * v + q) ||| sb rm (h 1 (36 + 4 * q))) ∧ (∀ j, j < 77 + 10 * v + p ∨ 77 + 10 * v + np ≤ j → h1 1 j = h 1 j) ∧ (∀ c, c ≠ 1 → h1 c = h c) := by
      intro w hw
      obtain ⟨h1, a, b, c, d⟩ := ih (p + 1) m (up h 1 (77 + 10 * v + p) (h 1 (77 + 10 * v + p) ||| w)) (by rw [up_nj (by omega)]; exact e) (by omega) (by omega)
      refine ⟨h1, a, fun q q1 q2 => ?_, fun j hj => ?_, fun z hz => ?_⟩
      · by_cases z : q = p
        · subst z; rw [c _ (by omega), up_eq, hw]
        · rw [b q (by omega) q2, up_nj (by omega), up_nj (by omega)]
      · rw [c j (by omega), up_nj (by omega)]
      · rw [d z hz, up_ne hz]
    rw [X8_minute_20, e, if_neg (nI_ge (by omega) (by omega)), show (10 : Int32) * nI v = nI (10 * v) from pk_mul 10 v, show (77 : Int32) + nI (10 * v) = nI (77 + 10 * v) from nI_add 77 (10 * v), nI_add]
    simp only [ck_nI (show 77 + 10 * v + p < 117 by omega) (show 117 < 2147483648 by decide), cl_nI (show 77 + 10 * v + p < 2147483648 by omega), nI_1]
    have e3 : X8_partIs (nI p) 3 h = some (h 1 (36 + 4 * p)) := by
      unfold X8_partIs
      rw [show X8_at (nI p) 3 = nI (33 + 4 * p + 3) from at_nI p 3, ck_nI (by omega) (by decide), cl_nI (by omega), show 33 + 4 * p + 3 = 36 + 4 * p by omega]
    by_cases a : rm < 0
    · rw [if_pos a]; exact go 0 (by unfold sb; rw [if_pos a])
    · rw [if_neg a, e3, bnd_s]
      by_cases b : h 1 (36 + 4 * p) = rm
      · rw [if_pos b]; exact go _ (by unfold sb; rw [if_neg a, if_pos b])
      · rw [if_neg b]; exact go 0 (by unfold sb; rw [if_neg a, if_neg b])
/-- a row that minutes can work on -/
def MI1 (w : Nat → Int32) (np nv pa ck : Nat) : Prop := w 0 = nI ck ∧ w 1 = nI pa ∧ w 2 = nI np ∧ w 3 = nI nv ∧ np ≤ 10 ∧ nv ≤ 4 ∧ 1 ≤ pa ∧ pa ≤ 20 ∧ ck ≤ 30000 ∧ ∀ v, v < nv → ∃ c, c ≤ ck ∧ w (73 + v) = nI c
def cmR (w : Nat → Int32) (v : Nat) : Nat := (w (73 + v)).toNatClampNeg
def rq (w : Nat → Int32) (pa t v : Nat) : Int32 := if (t - cmR w v) / pa < 6 then nI ((t - cmR w v) / pa) else -1
theorem roomR {h : Hp} {np nv pa ck v : Nat} (hM : MI1 (h 1) np nv pa ck) (hv : v < nv) : X8_roomOf (nI v) h = some (rq (h 1) pa ck v) := by
  obtain ⟨a0, a1, a2, a3, a4, a5, a6, a7, a8, a9⟩ := hM
  obtain ⟨c, c1, c2⟩ := a9 v hv
  unfold X8_roomOf rq cmR
  rw [show (73 : Int32) + nI v = nI (73 + v) from nI_add 73 v, ck_nI (by omega) (by decide), cl_nI (show 73 + v < 2147483648 by omega), a0, a1, c2, cl_nI (show c < 2147483648 by omega), show nz (nI pa) = true by unfold nz; simp [nI_ne0 (show 0 < pa by omega) (show pa < 2 ^ 31 by omega)], chk_t, pk_sub c1, pk_div (by omega) (by omega) (by omega)]
  have hb : (ck - c) / pa ≤ 30000 := Nat.le_trans (Nat.div_le_self _ _) (by omega)
  by_cases z : (ck - c) / pa < 6
  · rw [if_neg (show ¬ (6 : Int32) ≤ nI ((ck - c) / pa) from nI_ge (b := 6) z (by omega)), if_pos z]
  · rw [if_pos (show (6 : Int32) ≤ nI ((ck - c) / pa) from nI_le (a := 6) (by omega) (by omega)), if_neg z]
theorem m2 {fu np nv pa ck : Nat} (hfu : 11 ≤ fu) : ∀ (k v n : Nat) (h : Hp), MI1 (h 1) np nv pa ck → v + k = nv → k < n → ∃ h1, X8_minute_2 fu n (nI v) h = some h1 ∧ h1 1 0 = nI (ck + 1) ∧ (∀ u q, v ≤ u → u < nv → q < np → h1 1 (77 + 10 * u + q) = h 1 (77 + 10 * u + q) ||| sb (rq (h 1) pa ck u) (h 1 (36 + 4 * q))) ∧ (∀ j, j ≠ 0 → j < 77 → h1 1 j = h 1 j) ∧ (∀ u q, u < 4 → q < 10 → (u < v ∨ nv ≤ u ∨ np ≤ q) → h1 1 (77 + 10 * u + q) = h 1 (77 + 10 * u + q)) ∧ (∀ c, c ≠ 1 → h1 c = h c) := by
  intro k
  induction k with
  | zero =>
    intro v n h hM hv hk
    obtain ⟨m, rfl⟩ : ∃ m, n = m + 1 := ⟨n - 1, by omega⟩
    have hM' := hM
    obtain ⟨a0, a1, a2, a3, a4, a5, a6, a7, a8, a9⟩ := hM
    rw [X8_minute_2, a3, if_pos (nI_le (by omega) (by omega)), a0, nI_1]
    refine ⟨_, rfl, up_eq, fun u q b c d => by omega, fun j hj _ => up_nj hj, fun u q _ _ _ => up_nj (by omega), fun c hc => up_ne hc⟩
  | succ k ih =>
    intro v n h hM hv hk
    obtain ⟨m, rfl⟩ : ∃ m, n = m + 1 := ⟨n - 1, by omega⟩
    have hM' := hM
    obtain ⟨a0, a1, a2, a3, a4, a5, a6, a7, a8, a9⟩ := hM
    rw [X8_minute_2, a3, if_neg (nI_ge (by omega) (by omega)), roomR hM' (by omega), bnd_s]
    obtain ⟨g, g1, g2, g3, g4⟩ := m20 (fu := fu) (v := v) (by omega) a4 (rq (h 1) pa ck v) (X8_minute_2 fu m) np 0 fu h a2 (by omega) (by omega)
    rw [show X8_minute_20 fu (X8_minute_2 fu m) fu (nI v) (rq (h 1) pa ck v) 0 h = _ from g1]
    have lo : ∀ j, j < 77 → g 1 j = h 1 j := fun j hj => g3 j (by omega)
    have gM : MI1 (g 1) np nv pa ck := ⟨by rw [lo 0 (by omega)]; exact a0, by rw [lo 1 (by omega)]; exact a1, by rw [lo 2 (by omega)]; exact a2, by rw [lo 3 (by omega)]; exact a3, a4, a5, a6, a7, a8, fun u hu => by rw [lo (73 + u) (by omega)]; exact a9 u hu⟩
    obtain ⟨h1, b1, b2, b3, b4, b5, b6⟩ := ih (v + 1) m g gM (by omega) (by omega)
    have rqe : ∀ u, u < nv → rq (g 1) pa ck u = rq (h 1) pa ck u := fun u hu => by unfold rq cmR; rw [lo (73 + u) (by omega)]
    refine ⟨h1, b1, b2, fun u q c1 c2 c3 => ?_, fun j c1 c2 => by rw [b4 j c1 c2, lo j c2], fun u q c1 c2 c3 => ?_, fun c hc => by rw [b6 c hc, g4 c hc]⟩
    · by_cases z : u = v
      · subst z
        rw [b5 u q (by omega) (by omega) (by omega), g2 q (by omega) c3]
      · rw [b3 u q (by omega) c2 c3, g3 _ (by omega), rqe u c2, lo _ (by omega)]
    · rw [b5 u q c1 c2 (by omega), g3 _ (by omega)]
/-- k minutes: what is seen -/
def acc (w : Nat → Int32) (pa ck v p : Nat) : Nat → Int32
  | 0 => 0
  | k + 1 => acc w pa ck v p k ||| sb (rq w pa (ck + k) v) (w (36 + 4 * p))
theorem orA (a b c : Int32) : a ||| b ||| c = a ||| (b ||| c) := Int32.or_assoc a b c
theorem mns {fu np nv pa : Nat} (hfu : 11 ≤ fu) : ∀ (k i n K ck : Nat) (h : Hp), MI1 (h 1) np nv pa ck → i + k = K → K ≤ 10000 → ck + k ≤ 30000 → k < n → ∃ h1, X8_minutes_2 fu n (nI K) (nI i) h = some h1 ∧ MI1 (h1 1) np nv pa (ck + k) ∧ (∀ u q, u < nv → q < np → h1 1 (77 + 10 * u + q) = h 1 (77 + 10 * u + q) ||| acc (h 1) pa ck u q k) ∧ (∀ j, j ≠ 0 → j < 77 → h1 1 j = h 1 j) ∧ (∀ u q, u < 4 → q < 10 → (nv ≤ u ∨ np ≤ q) → h1 1 (77 + 10 * u + q) = h 1 (77 + 10 * u + q)) ∧ (∀ c, c ≠ 1 → h1 c = h c) := by
  intro k
  induction k with
  | zero =>
    intro i n K ck h hM hi hK hc hk
    obtain ⟨m, rfl⟩ : ∃ m, n = m + 1 := ⟨n - 1, by omega⟩
    rw [X8_minutes_2, if_pos (nI_le (by omega) (by omega))]
    exact ⟨h, rfl, hM, fun u q _ _ => (or0 _).symm, fun j _ _ => rfl, fun u q _ _ _ => rfl, fun c _ => rfl⟩
  | succ k ih =>
    intro i n K ck h hM hi hK hc hk
    obtain ⟨m, rfl⟩ : ∃ m, n = m + 1 := ⟨n - 1, by omega⟩
    have hM' := hM
    obtain ⟨a0, a1, a2, a3, a4, a5, a6, a7, a8, a9⟩ := hM
    rw [X8_minutes_2, if_neg (nI_ge (by omega) (by omega))]
    unfold X8_minute
    obtain ⟨g, b1, b2, b3, b4, b5, b6⟩ := m2 (fu := fu) (np := np) (pa := pa) (ck := ck) hfu nv 0 fu h hM' (by omega) (by omega)
    rw [show X8_minute_2 fu fu 0 h = _ from b1, bnd_s, nI_1]
    have gM : MI1 (g 1) np nv pa (ck + 1) := ⟨b2, by rw [b4 1 (by omega) (by omega)]; exact a1, by rw [b4 2 (by omega) (by omega)]; exact a2, by rw [b4 3 (by omega) (by omega)]; exact a3, a4, a5, a6, a7, by omega, fun u hu => by
      rw [b4 (73 + u) (by omega) (by omega)]
      obtain ⟨c, c1, c2⟩ := a9 u hu
      exact ⟨c, by omega, c2⟩⟩
    obtain ⟨h1, c1, c2, c3, c4, c5, c6⟩ := ih (i + 1) m K (ck + 1) g gM (by omega) hK (by omega) (by omega)
    refine ⟨h1, c1, by rw [show ck + (k + 1) = ck + 1 + k by omega]; exact c2, fun u q d1 d2 => ?_, fun j d1 d2 => by rw [c4 j d1 d2, b4 j d1 d2], fun u q d1 d2 d3 => by rw [c5 u q d1 d2 d3, b5 u q d1 d2 (by omega)], fun c hc => by rw [c6 c hc, b6 c hc]⟩
    rw [c3 u q d1 d2, b3 u q (by omega) d1 d2, orA]
    congr 1
    -- the first minute, then k more
    have ge : ∀ j, j ≠ 0 → j < 77 → g 1 j = h 1 j := b4
    have key : ∀ k, sb (rq (h 1) pa ck u) (h 1 (36 + 4 * q)) ||| acc (g 1) pa (ck + 1) u q k = acc (h 1) pa ck u q (k + 1) := by
      intro k
      induction k with
      | zero =>
        show sb (rq (h 1) pa ck u) (h 1 (36 + 4 * q)) ||| 0 = 0 ||| sb (rq (h 1) pa (ck + 0) u) (h 1 (36 + 4 * q))
        rw [or0, Int32.zero_or, Nat.add_zero]
      | succ k ih2 =>
        show sb (rq (h 1) pa ck u) (h 1 (36 + 4 * q)) ||| (acc (g 1) pa (ck + 1) u q k ||| sb (rq (g 1) pa (ck + 1 + k) u) (g 1 (36 + 4 * q))) = acc (h 1) pa ck u q (k + 1) ||| sb (rq (h 1) pa (ck + (k + 1)) u) (h 1 (36 + 4 * q))
        rw [← orA, ih2, ge (36 + 4 * q) (by omega) (by omega), show ck + 1 + k = ck + (k + 1) by omega]
        congr 2
        unfold rq cmR
        rw [ge (73 + u) (by omega) (by omega)]
    exact key k
/-- the bits of what is seen, told at once -/
def pb (c pa ck k : Nat) (pl : Int32) : Nat := if 0 ≤ pl then (if ps c pl.toNatClampNeg pa ck k && decide (pl.toNatClampNeg < 6) then 2 ^ pl.toNatClampNeg else 0) else 0
theorem acc_pb {w : Nat → Int32} {pa ck v p c : Nat} (hp : 1 ≤ pa) (hc : cmR w v = c) (hck : c ≤ ck) (hl : (w (36 + 4 * p)).toInt ≤ 5) : ∀ k, ck + k ≤ 100000 → acc w pa ck v p k = nI (pb c pa ck k (w (36 + 4 * p))) := by
  intro k
  generalize hpl : w (36 + 4 * p) = pl at hl
  induction k with
  | zero =>
    intro _
    show (0 : Int32) = _
    unfold pb
    rw [ps_0]
    by_cases a : 0 ≤ pl
    · rw [if_pos a]; rfl
    · rw [if_neg a]; rfl
  | succ k ih =>
    intro hk
    show acc w pa ck v p k ||| sb (rq w pa (ck + k) v) (w (36 + 4 * p)) = _
    rw [ih (by omega), hpl]
    unfold rq
    rw [hc]
    have hb : (ck + k - c) / pa ≤ 100000 := Nat.le_trans (Nat.div_le_self _ _) (by omega)
    by_cases a : 0 ≤ pl
    · obtain ⟨r, r1, r2⟩ := ti_ex (x := pl) (b := 5) (by rw [ti_le, ti_lit0] at a; exact a) hl
      have r6 : r < 6 := by omega
      have hq : ∀ k, pb c pa ck k pl = if ps c r pa ck k then 2 ^ r else 0 := by
        intro k
        unfold pb
        rw [if_pos a, r2, cl_nI (by omega)]
        simp only [r6, decide_true, Bool.and_true]
      have hs : sb (if (ck + k - c) / pa < 6 then nI ((ck + k - c) / pa) else -1) pl = nI (if (ck + k - c) / pa = r then 2 ^ r else 0) := by
        by_cases b : (ck + k - c) / pa < 6
        · rw [if_pos b]
          unfold sb
          rw [if_neg (nI_pos (by omega)), r2]
          by_cases d : (ck + k - c) / pa = r
          · rw [if_pos (by rw [d]), d, shl1 r (by omega), if_pos rfl]
          · rw [if_neg (fun z => d ((nI_eq (by omega) (by omega)).mp z).symm), if_neg d]; rfl
        · rw [if_neg b]
          unfold sb
          rw [if_pos (by decide), if_neg (show ¬ (ck + k - c) / pa = r by omega)]; rfl
      rw [hs, hq, hq, ps_S hp hck, nx_or]
      congr 1
      by_cases d : (ck + k - c) / pa = r
      · by_cases e : ps c r pa ck k = true
        · simp [d, e]
        · simp [d, e]
      · by_cases e : ps c r pa ck k = true
        · simp [d, e]
        · simp [d, e]
    · have hq : ∀ k, pb c pa ck k pl = 0 := fun k => by unfold pb; rw [if_neg a]
      rw [hq, hq]
      unfold sb
      by_cases b : (ck + k - c) / pa < 6
      · rw [if_pos b, if_neg (nI_pos (by omega)), if_neg (fun z => a (by rw [z]; exact nI_pos' (by omega)))]; rfl
      · rw [if_neg b, if_pos (by decide)]; rfl
