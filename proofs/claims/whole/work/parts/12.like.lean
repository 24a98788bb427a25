theorem nx_and (a b : Nat) : nI a &&& nI b = nI (a &&& b) := by
  apply Int32.toBitVec_inj.1
  show BitVec.ofNat 32 a &&& BitVec.ofNat 32 b = BitVec.ofNat 32 (a &&& b)
  apply BitVec.eq_of_getLsbD_eq
  intro i hi
  simp [hi]
theorem nx_or (a b : Nat) : nI a ||| nI b = nI (a ||| b) := by
  apply Int32.toBitVec_inj.1
  show BitVec.ofNat 32 a ||| BitVec.ofNat 32 b = BitVec.ofNat 32 (a ||| b)
  apply BitVec.eq_of_getLsbD_eq
  intro i hi
  simp [hi]
theorem nx_xor (a b : Nat) : nI a ^^^ nI b = nI (a ^^^ b) := by
  apply Int32.toBitVec_inj.1
  show BitVec.ofNat 32 a ^^^ BitVec.ofNat 32 b = BitVec.ofNat 32 (a ^^^ b)
  apply BitVec.eq_of_getLsbD_eq
  intro i hi
  simp [hi]
/-! counting bits -/
theorem bits_mono : ∀ (n : Nat) (fu fu1 : Nat) (a b r : Int32), X8_bits_4 fu n a b = some r → ∀ m, X8_bits_4 fu1 (n + m) a b = some r := by
  intro n
  induction n with
  | zero => intro fu fu1 a b r h; rw [X8_bits_4] at h; cases h
  | succ n ih =>
    intro fu fu1 a b r h m
    rw [Nat.succ_add, X8_bits_4]
    rw [X8_bits_4] at h
    by_cases c : b = 0
    · rw [if_pos c] at h ⊢; exact h
    · rw [if_neg c] at h ⊢; exact ih fu fu1 _ _ r h m
theorem bits_dec : ∀ x, x < 1024 → X8_bits_4 0 11 0 (nI x) = some (J6_bitCount_0f7a4 (nI x)) := by decide +kernel
theorem bits_nI {fu x : Nat} (hf : 11 ≤ fu) (hx : x < 1024) : X8_bits fu (nI x) = some (J6_bitCount_0f7a4 (nI x)) := by
  unfold X8_bits
  have := bits_mono 11 0 fu 0 (nI x) _ (bits_dec x hx) (fu - 11)
  rw [show 11 + (fu - 11) = fu by omega] at this
  exact this
theorem pop_le : ∀ x, x < 256 → ∃ c, c ≤ 8 ∧ J6_bitCount_0f7a4 (nI x) = nI c := by decide +kernel
/-! likeness -/
def lkV (k l f : Int32) : Int32 := (X2_likeness k l f).getD 0
theorem lk_X (k l f : Int32) : X2_likeness k l f = some (lkV k l f) := by
  have : ∃ r, X2_likeness k l f = some r := by
    unfold X2_likeness
    repeat' split
    all_goals exact ⟨_, rfl⟩
  obtain ⟨r, e⟩ := this
  unfold lkV
  rw [e]; rfl
theorem has7 : ∀ f, f < 256 → (X8_has (nI f) 7 = 0 ↔ nI f &&& 128 = 0) := by decide +kernel
theorem xor_lt {a b : Nat} (ha : a < 256) (hb : b < 256) : a ^^^ b < 256 := Nat.xor_lt_two_pow (n := 8) ha hb
theorem and255 : ∀ x, x < 256 → nI x &&& 255 = nI x := by decide +kernel
theorem lk_M {fu l f : Nat} (hf : 11 ≤ fu) (k : Int32) (hl : l < 256) (hff : f < 256) : X8_likeBy fu k (nI l) (nI f) = some (lkV k (nI l) (nI f)) := by
  rw [← lk_X]
  unfold X8_likeBy X2_likeness X2_unlike
  have hx := xor_lt hl hff
  rw [nx_xor, bits_nI hf (by omega), bnd_s, and255 _ hx]
  have h7 := has7 f hff
  by_cases c : nI f &&& 128 = 0
  · simp only [if_pos (h7.mpr c), if_pos c]
  · simp only [if_neg (fun q => c (h7.mp q)), if_neg c]
/-- how like a part is to a face -/
def lkH (h : Hp) (p f : Nat) : Int32 := lkV (h 2 p) (h 3 p) (h 6 f)
theorem likeX {h : Hp} {p f : Nat} (hp : p < 10) (hf : f < 6) : X1_likeTo (nI p) (nI f) h = some (lkH h p f) := by
  unfold X1_likeTo
  rw [ck_nI hp (by decide), ck_nI hp (by decide), ck_nI hf (by decide), cl_nI (by omega), cl_nI (by omega), lk_X, bnd_s]
  rfl
theorem pI {hx hm : Hp} (h : HR 1 1 hx hm) {p f : Nat} (hp : p < 10) (hf : f < 4) : X8_partIs (nI p) (nI f) hm = some (hx (2 + f) p) := by
  unfold X8_partIs
  rw [at_nI, ck_nI (by omega) (by decide), cl_nI (by omega)]
  have hv : vl (1 + f) p := by
    right
    refine ⟨by omega, by omega, ?_⟩
    have : ∀ f, f < 4 → lnH (1 + f) = 10 := by decide
    rw [this f hf]; exact hp
  have := h (1 + f) p hv
  have e : ix (1 + f) p = 33 + 4 * p + f := by
    rcases (show f = 0 ∨ f = 1 ∨ f = 2 ∨ f = 3 by omega) with rfl | rfl | rfl | rfl
    · rfl
    · show 34 + 4 * p = _; omega
    · show 35 + 4 * p = _; omega
    · show 36 + 4 * p = _; omega
  rw [e] at this
  rw [this, show 1 + (1 + f) = 2 + f by omega]
theorem pI0 {hx hm : Hp} (h : HR 1 1 hx hm) {p : Nat} (hp : p < 10) : X8_partIs (nI p) 0 hm = some (hx 2 p) := pI h hp (f := 0) (by decide)
theorem pI1 {hx hm : Hp} (h : HR 1 1 hx hm) {p : Nat} (hp : p < 10) : X8_partIs (nI p) 1 hm = some (hx 3 p) := pI h hp (f := 1) (by decide)
theorem pI2 {hx hm : Hp} (h : HR 1 1 hx hm) {p : Nat} (hp : p < 10) : X8_partIs (nI p) 2 hm = some (hx 4 p) := pI h hp (f := 2) (by decide)
theorem pI3 {hx hm : Hp} (h : HR 1 1 hx hm) {p : Nat} (hp : p < 10) : X8_partIs (nI p) 3 hm = some (hx 5 p) := pI h hp (f := 3) (by decide)
/-- looks of a part, of a face, are small numbers -/
theorem lkN {hx : Hp} (h : HI 1 hx) {p : Nat} (hp : p < 10) : ∃ l, l < 256 ∧ hx 3 p = nI l := by
  have := h.1 2 p (Or.inr ⟨by omega, by omega, hp⟩)
  obtain ⟨j, a, b⟩ := ti_ex (b := 255) this.1 this.2
  exact ⟨j, by omega, b⟩
theorem flN {hx : Hp} (h : HI 1 hx) {p : Nat} (hp : p < 6) : ∃ l, l < 256 ∧ hx 6 p = nI l := by
  have := h.1 5 p (Or.inr ⟨by omega, by omega, hp⟩)
  obtain ⟨j, a, b⟩ := ti_ex (b := 255) this.1 this.2
  exact ⟨j, by omega, b⟩
theorem kdN {hx : Hp} (h : HI 1 hx) {p : Nat} (hp : p < 10) : ∃ l, l < 7 ∧ hx 2 p = nI l := by
  have := h.1 1 p (Or.inr ⟨by omega, by omega, hp⟩)
  obtain ⟨j, a, b⟩ := ti_ex (b := 6) this.1 this.2
  exact ⟨j, by omega, b⟩
theorem wxN {hx : Hp} (h : HI 1 hx) {p : Nat} (hp : p < 10) : ∃ l, l ≤ 60 ∧ hx 4 p = nI l := by
  have := h.1 3 p (Or.inr ⟨by omega, by omega, hp⟩)
  obtain ⟨j, a, b⟩ := ti_ex (b := 60) this.1 this.2
  exact ⟨j, by omega, b⟩
theorem plB {hx : Hp} (h : HI 1 hx) {p : Nat} (hp : p < 10) : -1 ≤ (hx 5 p).toInt ∧ (hx 5 p).toInt ≤ 5 := h.1 4 p (Or.inr ⟨by omega, by omega, hp⟩)
theorem shB {hx : Hp} (h : HI 1 hx) {p : Nat} (hp : p < 6) : -1 ≤ (hx 8 p).toInt ∧ (hx 8 p).toInt ≤ 5 := h.1 7 p (Or.inr ⟨by omega, by omega, hp⟩)
theorem rf5 {hx hm : Hp} (h : HR 1 1 hx hm) {i : Nat} (hi : i < 6) : hm 1 (15 + i) = hx 6 i := h 5 i (Or.inr ⟨by omega, by omega, hi⟩)
theorem rf6 {hx hm : Hp} (h : HR 1 1 hx hm) {i : Nat} (hi : i < 6) : hm 1 (21 + i) = hx 7 i := h 6 i (Or.inr ⟨by omega, by omega, hi⟩)
theorem rf7 {hx hm : Hp} (h : HR 1 1 hx hm) {i : Nat} (hi : i < 6) : hm 1 (27 + i) = hx 8 i := h 7 i (Or.inr ⟨by omega, by omega, hi⟩)
theorem rf8 {hx hm : Hp} (h : HR 1 1 hx hm) {i : Nat} (hi : i < 4) : hm 1 (73 + i) = hx 9 i := h 8 i (Or.inr ⟨by omega, by omega, hi⟩)
theorem rf9 {hx hm : Hp} (h : HR 1 1 hx hm) {i : Nat} (hi : i < 40) : hm 1 (77 + i) = hx 10 i := h 9 i (Or.inr ⟨by omega, by omega, hi⟩)
theorem rfA {hx hm : Hp} (h : HR 1 1 hx hm) {i : Nat} (hi : i < 10) : hm 1 (5 + i) = hx 11 i := h 10 i (Or.inr ⟨by omega, by omega, hi⟩)
theorem rnp {hx hm : Hp} (h : HR 1 1 hx hm) : hm 1 2 = hx 1 10 := h 0 10 (Or.inl ⟨rfl, by omega, by omega⟩)
theorem rnv {hx hm : Hp} (h : HR 1 1 hx hm) : hm 1 3 = hx 1 11 := h 0 11 (Or.inl ⟨rfl, by omega, by omega⟩)
theorem rck {hx hm : Hp} (h : HR 1 1 hx hm) : hm 1 0 = hx 1 12 := h 0 12 (Or.inl ⟨rfl, by omega, by omega⟩)
theorem rpa {hx hm : Hp} (h : HR 1 1 hx hm) : hm 1 1 = hx 1 13 := h 0 13 (Or.inl ⟨rfl, by omega, by omega⟩)
theorem rzz {hx hm : Hp} (h : HR 1 1 hx hm) : hm 1 4 = hx 1 14 := h 0 14 (Or.inl ⟨rfl, by omega, by omega⟩)
theorem npN {hx : Hp} (h : HI 1 hx) : ∃ n, n ≤ 10 ∧ hx 1 10 = nI n := by
  have := h.1 0 10 (Or.inl ⟨rfl, by omega, by omega⟩)
  exact ti_ex (b := 10) this.1 this.2
theorem nvN {hx : Hp} (h : HI 1 hx) : ∃ n, n ≤ 4 ∧ hx 1 11 = nI n := by
  have := h.1 0 11 (Or.inl ⟨rfl, by omega, by omega⟩)
  exact ti_ex (b := 4) this.1 this.2
theorem ckN {hx : Hp} (h : HI 1 hx) : ∃ n, n ≤ 9999 ∧ hx 1 12 = nI n := by
  have := h.1 0 12 (Or.inl ⟨rfl, by omega, by omega⟩)
  exact ti_ex (b := 9999) this.1 this.2
theorem paN {hx : Hp} (h : HI 1 hx) : ∃ n, 1 ≤ n ∧ n ≤ 20 ∧ hx 1 13 = nI n := by
  have := h.1 0 13 (Or.inl ⟨rfl, by omega, by omega⟩)
  have h1 : (1 : Int) ≤ (hx 1 13).toInt := this.1
  obtain ⟨j, a, b⟩ := ti_ex (x := hx 1 13) (b := 20) (by omega) this.2
  exact ⟨j, by rw [b, ti_nI (by omega)] at h1; omega, a, b⟩
theorem likeM {hx hm : Hp} {fu p f : Nat} (hfu : 11 ≤ fu) (h : HR 1 1 hx hm) (hi : HI 1 hx) (hp : p < 10) (hf : f < 6) : X8_likeTo fu (nI p) (nI f) hm = some (lkH hx p f) := by
  unfold X8_likeTo
  rw [pI0 h hp, bnd_s, pI1 h hp, bnd_s, show (15 : Int32) = nI 15 from rfl, nI_add, ck_nI (by omega) (by decide), cl_nI (by omega), rf5 h hf]
  obtain ⟨l, h1, h2⟩ := lkN hi hp
  obtain ⟨q, h3, h4⟩ := flN hi hf
  unfold lkH
  rw [h2, h4, lk_M hfu _ h1 h3, bnd_s]
theorem hasP {hx hm : Hp} (h : HR 1 1 hx hm) {np : Nat} (e : hx 1 10 = nI np) (hn : np ≤ 10) (x : Int32) : (X1_hasPart x hx = 0 ∧ X8_isPart x hm = some 0 ∧ ∀ p, p < np → x ≠ nI p) ∨ (∃ p, p < np ∧ x = nI p ∧ X1_hasPart x hx = 1 ∧ X8_isPart x hm = some 1) := by
  unfold X1_hasPart X8_isPart
  rw [rnp h, e, w8]
  rcases wn x (M := nI np - 1) np (by rw [ti_sub, ti_nI (by omega)]; rfl; all_goals (rw [ti_nI (by omega)]; show _; have : (1 : Int32).toInt = 1 := rfl; omega)) (by omega) with ⟨a, b⟩ | ⟨p, a, b, c⟩
  · exact Or.inl ⟨a, by rw [a], b⟩
  · exact Or.inr ⟨p, a, b, c, by rw [c]⟩
/-! kinds -/
theorem un_mono : ∀ (n : Nat) (fu fu1 : Nat) (h h1 : Hp) (a b c r : Int32), X2_isUnder_4 fu h n a b c = some r → ∀ m, X2_isUnder_4 fu1 h1 (n + m) a b c = some r := by
  intro n
  induction n with
  | zero => intro fu fu1 h h1 a b c r e; rw [X2_isUnder_4] at e; cases e
  | succ n ih =>
    intro fu fu1 h h1 a b c r e m
    rw [Nat.succ_add, X2_isUnder_4]
    rw [X2_isUnder_4] at e
    by_cases c1 : (6 : Int32) < c
    · rw [if_pos c1] at e ⊢; exact e
    · rw [if_neg c1] at e ⊢
      by_cases c2 : b < 0
      · rw [if_pos c2] at e ⊢; exact e
      · rw [if_neg c2] at e ⊢
        by_cases c3 : (7 : Int32) ≤ b
        · rw [if_pos c3] at e ⊢; exact e
        · rw [if_neg c3] at e ⊢
          by_cases c4 : b = a
          · rw [if_pos c4] at e ⊢; exact e
          · rw [if_neg c4] at e ⊢
            obtain ⟨q, e⟩ := chk_some e
            rw [q]; exact ih fu fu1 h h1 _ _ _ r e m
theorem un8_mono : ∀ (n : Nat) (fu fu1 : Nat) (a b r : Int32), X8_isUnder_2 fu n a b = some r → ∀ m, X8_isUnder_2 fu1 (n + m) a b = some r := by
  intro n
  induction n with
  | zero => intro fu fu1 a b r e; rw [X8_isUnder_2] at e; cases e
  | succ n ih =>
    intro fu fu1 a b r e m
    rw [Nat.succ_add, X8_isUnder_2]
    rw [X8_isUnder_2] at e
    by_cases c2 : b < 0
    · rw [if_pos c2] at e ⊢; exact e
    · rw [if_neg c2] at e ⊢
      by_cases c4 : b = a
      · rw [if_pos c4] at e ⊢; exact e
      · rw [if_neg c4] at e ⊢
        exact ih fu fu1 _ _ r e m
def h00 : Hp := fun _ _ => 0
/-- whether a kind is under another -/
def isU (k t : Nat) : Bool := if t = 0 then true else if k = t then true else (t = 1 && (k = 2 || k = 3)) || (t = 2 && k = 3) || (t = 5 && k = 6)
theorem un_dec : ∀ k, k < 7 → ∀ t, t < 7 → X2_isUnder_4 0 h00 8 (nI t) (nI k) 0 = some (if isU k t then 1 else 0) ∧ X8_isUnder_2 0 8 (nI t) (nI k) = some (if isU k t then 1 else 0) := by decide +kernel
theorem unX {fu k t : Nat} (hf : 8 ≤ fu) (hk : k < 7) (ht : t < 7) (h : Hp) : X2_isUnder fu (nI k) (nI t) h = some (if isU k t then 1 else 0) := by
  unfold X2_isUnder
  have := un_mono 8 0 fu h00 h (nI t) (nI k) 0 _ (un_dec k hk t ht).1 (fu - 8)
  rw [show 8 + (fu - 8) = fu by omega] at this
  exact this
theorem unM {fu k t : Nat} (hf : 8 ≤ fu) (hk : k < 7) (ht : t < 7) : X8_isUnder fu (nI k) (nI t) = some (if isU k t then 1 else 0) := by
  unfold X8_isUnder
  have := un8_mono 8 0 fu (nI t) (nI k) _ (un_dec k hk t ht).2 (fu - 8)
  rw [show 8 + (fu - 8) = fu by omega] at this
  exact this
/-- a part is a head -/
def isH (h : Hp) (p : Nat) : Bool := isU (h 2 p).toNatClampNeg 1
theorem headX {hx : Hp} {fu p : Nat} (hf : 8 ≤ fu) (hi : HI 1 hx) (hp : p < 10) : X1_isHead fu (nI p) hx = some (if isH hx p then 1 else 0) := by
  unfold X1_isHead isH
  obtain ⟨k, h1, h2⟩ := kdN hi hp
  rw [ck_nI hp (by decide), cl_nI (by omega), h2, cl_nI (by omega), show X2_isUnder fu (nI k) 1 hx = _ from unX hf h1 (t := 1) (by decide) hx, bnd_s]
theorem headM {hx hm : Hp} {fu p : Nat} (hf : 8 ≤ fu) (h : HR 1 1 hx hm) (hi : HI 1 hx) (hp : p < 10) : X8_isHead fu (nI p) hm = some (if isH hx p then 1 else 0) := by
  unfold X8_isHead isH
  obtain ⟨k, h1, h2⟩ := kdN hi hp
  rw [pI0 h hp, bnd_s, h2, cl_nI (by omega), show X8_isUnder fu (nI k) 1 = _ from unM hf h1 (t := 1) (by decide), bnd_s]
theorem ck10 {α : Type} {p : Nat} (hp : p < 10) (x : Option α) : chk (inR (nI p) 10) x = x := ck_nI hp (by decide)
/-! carrying -/
theorem minM {hx hm : Hp} (h : HR 1 1 hx hm) (hi : HI 1 hx) {p : Nat} (hp : p < 10) (s0 : Int32) : X8_carryOf_26 hm (nI p) s0 = X2_minutes (hx 2 p) s0 (hx 4 p) := by
  unfold X8_carryOf_26 X2_minutes
  rw [pI0 h hp, bnd_s, pI2 h hp, bnd_s]
def caV (h : Hp) (p : Nat) (x : Int32) : Int32 := (X1_minutesTo (nI p) x h).getD 0
theorem mn_some (a b c : Int32) : ∃ r, X2_minutes a b c = some r := by
  unfold X2_minutes
  repeat' split
  all_goals exact ⟨_, rfl⟩
theorem carX {h : Hp} {p : Nat} (hp : p < 10) (x : Int32) : X1_minutesTo (nI p) x h = some (caV h p x) := by
  unfold caV X1_minutesTo X1_minutesTo_17
  simp only [ck10 hp, cl_nI (show p < 2147483648 by omega)]
  obtain ⟨r1, e1⟩ := mn_some (h 2 p) 6 (h 4 p)
  obtain ⟨r2, e2⟩ := mn_some (h 2 p) (jabs (h 5 p - x)) (h 4 p)
  rw [e1, e2, bnd_s, bnd_s]
  repeat' split
  all_goals rfl
theorem carM {hx hm : Hp} (h : HR 1 1 hx hm) (hi : HI 1 hx) {p : Nat} (hp : p < 10) {x : Int32} (hx1 : -1 ≤ x.toInt) : X8_carryOf (nI p) x hm = some (caV hx p x) := by
  rw [← carX hp]
  unfold X8_carryOf X1_minutesTo X1_minutesTo_17
  rw [pI3 h hp, bnd_s, minM h hi hp, minM h hi hp]
  simp only [ck10 hp, cl_nI (show p < 2147483648 by omega)]
  have hb := plB hi hp
  obtain ⟨r1, e1⟩ := mn_some (hx 2 p) 6 (hx 4 p)
  obtain ⟨r2, e2⟩ := mn_some (hx 2 p) (jabs (hx 5 p - x)) (hx 4 p)
  rw [e1, e2, bnd_s, bnd_s]
  have c1 : (hx 5 p < 0) ↔ hx 5 p = -1 := by rw [ti_lt, ti_eq]; show _ < (0 : Int) ↔ _ = (-1 : Int); omega
  have c2 : (0 ≤ x) ↔ ¬ x = -1 := by rw [ti_le, ti_eq]; show (0 : Int) ≤ _ ↔ ¬ _ = (-1 : Int); omega
  by_cases d1 : hx 5 p = -1
  · rw [if_pos (c1.mpr d1), if_pos d1]
  · rw [if_neg (fun q => d1 (c1.mp q)), if_neg d1]
    by_cases d2 : x = -1
    · rw [if_neg (fun q => (c2.mp q) d2), if_pos d2]
    · rw [if_pos (c2.mpr d2), if_neg d2]
