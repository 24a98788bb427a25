/-! the reference reads -/
def AT (b : Nat → Int32) (L k : Nat) (g : Hp) : Prop := g 0 11 = nI (tkB b L (tp b L k)) ∧ g 0 12 = nI (tp b L (k + 1)) ∧ g 0 13 = tkS b L (tp b L k) ∧ g 0 14 = tkV b L (tp b L k)
def rd2 (g g1 : Hp) : Prop := (∀ j, j ≠ 11 → j ≠ 12 → j ≠ 13 → j ≠ 14 → j ≠ 15 → g1 0 j = g 0 j) ∧ (∀ c, c ≠ 0 → g1 c = g c)
theorem rd2.rf {g : Hp} : rd2 g g := ⟨fun _ _ _ _ _ _ => rfl, fun _ _ => rfl⟩
theorem rd2.tr {g g1 g2 : Hp} (a : rd2 g g1) (c : rd2 g1 g2) : rd2 g g2 := ⟨fun j q1 q2 q3 q4 q5 => (c.1 j q1 q2 q3 q4 q5).trans (a.1 j q1 q2 q3 q4 q5), fun d hd => (c.2 d hd).trans (a.2 d hd)⟩
theorem rdS.r2 {g g1 : Hp} (a : rdS g g1) : rd2 g g1 := ⟨fun j q1 q2 q3 q4 _ => a.1 j q1 q2 q3 q4, a.2⟩
theorem rd2.wr {g : Hp} {v : Int32} : rd2 g (up g 0 15 v) := ⟨fun j _ _ _ _ q => up_nj q, fun c hc => up_ne hc⟩
def GS (b : Nat → Int32) (L k : Nat) (g : Hp) : Prop := AT b L k g ∧ g 0 15 = 0 ∧ BY b L g
def GW (b : Nat → Int32) (L k : Nat) (g : Hp) : Prop := AT b L k g ∧ g 0 15 = 1 ∧ BY b L g
theorem nxtT {b : Nat → Int32} {L fu : Nat} (hf : 130 ≤ fu) {k : Nat} {g : Hp} (hB : BY b L g) (e : g 0 12 = nI (tp b L k)) : ∃ g1, X8_next0 fu g = some g1 ∧ AT b L k g1 ∧ rdS g g1 := by
  have L1 := hB.2.1
  obtain ⟨g1, a1, a2, a3, a4, a5, a6⟩ := nx8 (b := b) (L := L) hf L (tp b L k) fu (up g 0 11 (g 0 12)) (hB.rd (rdS.up (by omega))) (by rw [up_eq, e]) (tp_L k) (by omega) (by omega)
  exact ⟨g1, a1, ⟨a2, a3, a4, a5⟩, (rdS.up (by omega)).tr a6⟩
theorem must1 {b : Nat → Int32} {L fu : Nat} (hf : 130 ≤ fu) {k : Nat} {g : Hp} (s : GS b L k g) : ∃ g1, X8_must fu 1 g = some g1 ∧ GS b L (k + 1) g1 ∧ rd2 g g1 := by
  obtain ⟨s1, s2, s3⟩ := s
  obtain ⟨g1, a1, a2, a3⟩ := nxtT hf (k := k + 1) s3 s1.2.1
  unfold X8_must
  rw [if_pos s2, if_neg (by decide), up_eq, if_pos rfl, up_id s2, a1, bnd_s]
  exact ⟨g1, rfl, ⟨a2, by rw [a3.1 15 (by decide) (by decide) (by decide) (by decide)]; exact s2, s3.rd a3⟩, a3.r2⟩
theorem must0 {b : Nat → Int32} {L fu k : Nat} {g : Hp} (s : GS b L k g) : X8_must fu 0 g = some (up g 0 15 1) ∧ GW b L k (up g 0 15 1) := by
  obtain ⟨s1, s2, s3⟩ := s
  unfold X8_must
  rw [if_pos s2, if_pos rfl, up_eq, if_neg (by decide)]
  refine ⟨rfl, ?_, up_eq, ?_⟩
  · unfold AT
    rw [up_nj (by decide), up_nj (by decide), up_nj (by decide), up_nj (by decide)]; exact s1
  · unfold BY
    rw [up_nj (by decide), up_ne (by decide)]; exact s3
theorem mustW {b : Nat → Int32} {L fu k : Nat} {g : Hp} (s : GW b L k g) (x : Int32) : X8_must fu x g = some g := by
  unfold X8_must
  rw [if_neg (by rw [s.2.1]; decide), up_eq, if_neg (by decide), up_id s.2.1]
theorem tS1 {b : Nat → Int32} {L p : Nat} : (tkS b L p = 1 ↔ cS b L p = 1) ∧ (tkS b L p = 2 ↔ cS b L p = 2) ∧ (tkS b L p = 0 ↔ ¬ tkB b L p < L) := by
  unfold tkS cS
  by_cases z : tkB b L p < L
  · rw [if_pos z, if_pos z]
    by_cases y1 : sof b (tkB b L p) = 1
    · rw [if_pos y1, y1]; exact ⟨Iff.rfl, by decide, by simp [z]⟩
    · rw [if_neg y1]
      by_cases y2 : sof b (tkB b L p) = 2
      · rw [if_pos y2, y2]; exact ⟨by decide, Iff.rfl, by simp [z]⟩
      · rw [if_neg y2]
        refine ⟨⟨fun q => absurd q (by decide), fun q => absurd q y1⟩, ⟨fun q => absurd q (by decide), fun q => absurd q y2⟩, by simp [z]⟩
  · rw [if_neg z, if_neg z]
    exact ⟨Iff.rfl, Iff.rfl, by simp [z]⟩
theorem wd_in {b : Nat → Int32} {L p i : Nat} (h : cS b L p = 1) (hi : i < tkE b L p - tkB b L p) : tkB b L p + i < L ∧ sof b (tkB b L p + i) = 1 := by
  have z : tkB b L p < L := cS_lt (by rw [h]; decide)
  have y : sof b (tkB b L p) = 1 := by unfold cS at h; rw [if_pos z] at h; exact h
  have e : tkE b L p = runF (sof b) L 1 L (tkB b L p) := by unfold tkE; rw [if_pos z, if_pos y]
  exact run_in L (tkB b L p) (tkB b L p + i) (by omega) (by omega)
theorem iw0 {fu w : Nat} {g : Hp} {n : Nat} {x : Int32} (hn : 0 < n) : X8_isWord_32 fu w g n 0 x = some 0 := by
  obtain ⟨m, rfl⟩ : ∃ m, n = m + 1 := ⟨n - 1, by omega⟩
  rw [X8_isWord_32]
  by_cases z : slen w ≤ x
  · rw [if_pos z]
  · rw [if_neg z, if_pos rfl]
theorem iw1 {b : Nat → Int32} {L fu k w : Nat} {g : Hp} (s : AT b L k g) (hB : BY b L g) (hw : w < 14) (z : cS b L (tp b L k) = 1) (e : tkE b L (tp b L k) - tkB b L (tp b L k) = stL.getD w 0) : ∀ r i n, i + r = stL.getD w 0 → r + 1 < n → ((∀ j, i ≤ j → j < stL.getD w 0 → b (tkB b L (tp b L k) + j) = schr w (nI j)) → X8_isWord_32 fu w g n 1 (nI i) = some 1) ∧ ((¬ ∀ j, i ≤ j → j < stL.getD w 0 → b (tkB b L (tp b L k) + j) = schr w (nI j)) → X8_isWord_32 fu w g n 1 (nI i) = some 0) := by
  have sb := st_b hw
  have sl : slen w = nI (stL.getD w 0) := rfl
  have hL := hB.2.1
  intro r
  induction r with
  | zero =>
    intro i n hi hn
    obtain ⟨m, rfl⟩ : ∃ m, n = m + 1 := ⟨n - 1, by omega⟩
    rw [X8_isWord_32, sl, if_pos (nI_le (by omega) (by omega))]
    exact ⟨fun _ => rfl, fun q => absurd (fun j a c => by omega) q⟩
  | succ r ih =>
    intro i n hi hn
    obtain ⟨m, rfl⟩ : ∃ m, n = m + 1 := ⟨n - 1, by omega⟩
    have es : sin w (nI i) = true := inR_nI (by omega) (by omega)
    have wi := wd_in z (i := i) (by omega)
    have c := cl1 (hB.2.2 _ wi.1).2
    rw [X8_isWord_32, sl, if_neg (nI_ge (by omega) (by omega)), if_neg (by decide), s.1, nI_add, ck_nI (by omega) (by decide), es, chk_t, cl_nI (by omega), (hB.2.2 _ wi.1).1, c.2.2.2.2.2 (Or.inl wi.2), nI_1]
    by_cases y : b (tkB b L (tp b L k) + i) = schr w (nI i)
    · rw [if_pos y]
      obtain ⟨a1, a2⟩ := ih (i + 1) m (by omega) (by omega)
      refine ⟨fun q => a1 (fun j h1 h2 => q j (by omega) h2), fun q => a2 (fun t => q (fun j h1 h2 => ?_))⟩
      by_cases x : j = i
      · rw [x]; exact y
      · exact t j (by omega) h2
    · rw [if_neg y, iw0 (by omega)]
      exact ⟨fun q => absurd (q i (Nat.le_refl i) (by omega)) y, fun _ => rfl⟩
theorem isW {b : Nat → Int32} {L fu k w : Nat} {g : Hp} (s : AT b L k g) (hB : BY b L g) (hw : w < 14) (hf : 20 ≤ fu) : (wd b L (tp b L k) w → X8_isWord fu w g = some 1) ∧ (¬ wd b L (tp b L k) w → X8_isWord fu w g = some 0) := by
  have sb := st_b hw
  have sl : slen w = nI (stL.getD w 0) := rfl
  have hL := hB.2.1
  have tL := tkE_b (b := b) (tp_L (b := b) (L := L) k)
  have eE : tp b L (k + 1) = tkE b L (tp b L k) := rfl
  unfold X8_isWord
  rw [s.2.2.1, s.2.1, s.1, eE, sl, pk_sub tL.1]
  by_cases z : cS b L (tp b L k) = 1
  · rw [if_pos (tS1.1.mpr z)]
    by_cases y : tkE b L (tp b L k) - tkB b L (tp b L k) = stL.getD w 0
    · rw [if_pos (by rw [y])]
      obtain ⟨a1, a2⟩ := iw1 (fu := fu) s hB hw z y (stL.getD w 0) 0 fu (by omega) (by omega)
      exact ⟨fun q => a1 (fun j _ hj => q.2.2 j hj), fun q => a2 (fun t => q ⟨z, y, fun j hj => t j (Nat.zero_le j) hj⟩)⟩
    · rw [if_neg (fun q => y ((nI_eq (by omega) (by omega)).mp q)), iw0 (by omega)]
      exact ⟨fun q => absurd q.2.1 y, fun _ => rfl⟩
  · rw [if_neg (fun q => z (tS1.1.mp q)), iw0 (by omega)]
    exact ⟨fun q => absurd q.1 z, fun _ => rfl⟩
theorem isN {b : Nat → Int32} {L fu k w : Nat} {g : Hp} (s : GS b L k g) (hw : w < 14) (hf : 130 ≤ fu) : (wd b L (tp b L k) w → ∃ g1, X8_isNext fu w g = some (1, g1) ∧ GS b L (k + 1) g1 ∧ rd2 g g1) ∧ (¬ wd b L (tp b L k) w → X8_isNext fu w g = some (0, g)) := by
  have a := isW (fu := fu) s.1 s.2.2 hw (by omega)
  unfold X8_isNext
  rw [if_pos s.2.1]
  refine ⟨fun q => ?_, fun q => ?_⟩
  · obtain ⟨g1, b1, b2, b3⟩ := must1 hf s
    rw [a.1 q, bnd_s, if_neg n10, if_neg (by decide), b1, bnd_s]
    exact ⟨g1, rfl, b2, b3⟩
  · rw [a.2 q, bnd_s, if_pos rfl, if_pos rfl]
theorem isNW {b : Nat → Int32} {L fu k w : Nat} {g : Hp} (s : GW b L k g) : X8_isNext fu w g = some (0, g) := by
  unfold X8_isNext
  rw [if_neg (by rw [s.2.1]; decide), if_pos rfl]
theorem numG {b : Nat → Int32} {L fu k : Nat} {g : Hp} (s : GS b L k g) (hf : 130 ≤ fu) (lo hi : Int32) : (nm b L (tp b L k) lo hi → ∃ g1, X8_number fu lo hi g = some (tkV b L (tp b L k), g1) ∧ GS b L (k + 1) g1 ∧ rd2 g g1) ∧ (¬ nm b L (tp b L k) lo hi → ∃ v g1, X8_number fu lo hi g = some (v, g1) ∧ GW b L k g1 ∧ rd2 g g1) := by
  unfold X8_number
  have m0 := must0 (fu := fu) s
  rw [s.1.2.2.1, s.1.2.2.2, w8]
  by_cases z : cS b L (tp b L k) = 2
  · rw [if_pos (tS1.2.1.mpr z)]
    rcases wr (tkV b L (tp b L k)) lo hi with ⟨e, y⟩ | ⟨e, y1, y2⟩
    · rw [if_pos e, m0.1, bnd_s]
      refine ⟨fun q => absurd ⟨ti_le.mp q.2.1, ti_le.mp q.2.2⟩ y, fun _ => ⟨_, _, rfl, m0.2, rd2.wr⟩⟩
    · obtain ⟨g1, b1, b2, b3⟩ := must1 hf s
      rw [if_neg (by rw [e]; decide), b1, bnd_s]
      exact ⟨fun _ => ⟨g1, rfl, b2, b3⟩, fun q => absurd ⟨z, ti_le.mpr y1, ti_le.mpr y2⟩ q⟩
  · rw [if_neg (fun q => z (tS1.2.1.mp q)), m0.1, bnd_s]
    exact ⟨fun q => absurd q.1 z, fun _ => ⟨_, _, rfl, m0.2, rd2.wr⟩⟩
theorem numW {b : Nat → Int32} {L fu k : Nat} {g : Hp} (s : GW b L k g) (lo hi : Int32) : X8_number fu lo hi g = some (g 0 14, g) := by
  unfold X8_number
  have m := mustW (fu := fu) s
  by_cases z : g 0 13 = 2
  · rw [if_pos z]
    by_cases y : X8_within (g 0 14) lo hi = 0
    · rw [if_pos y, m, bnd_s]
    · rw [if_neg y, m, bnd_s]
  · rw [if_neg z, m, bnd_s]
theorem wd_inj {b : Nat → Int32} {L p w1 w2 : Nat} (h1 : w1 < 14) (h2 : w2 < 14) (a : wd b L p w1) (c : wd b L p w2) : w1 = w2 := by
  have key : ∀ w1, w1 < 14 → ∀ w2, w2 < 14 → w1 ≠ w2 → stL.getD w1 0 = stL.getD w2 0 → ((List.range (stL.getD w1 0)).all (fun i => decide (schr w1 (nI i) = schr w2 (nI i)))) = false := by decide +kernel
  by_cases e : w1 = w2
  · exact e
  · have l : stL.getD w1 0 = stL.getD w2 0 := a.2.1.symm.trans c.2.1
    have k := key w1 h1 w2 h2 e l
    have t : ((List.range (stL.getD w1 0)).all (fun i => decide (schr w1 (nI i) = schr w2 (nI i)))) = true := by
      rw [List.all_eq_true]
      intro i hi
      have hi := List.mem_range.mp hi
      rw [decide_eq_true_eq, ← a.2.2 i hi, c.2.2 i (by omega)]
    rw [t] at k; cases k
theorem kT {b : Nat → Int32} {L fu k : Nat} {g : Hp} (s : AT b L k g) (hB : BY b L g) (hf : 20 ≤ fu) : ∀ r i n x, i + r = 7 → r < n → (∀ w, w < 7 → i ≤ w → wd b L (tp b L k) w → X8_kindTold_4 fu g n x (nI i) = some (nI w)) ∧ ((∀ w, w < 7 → i ≤ w → ¬ wd b L (tp b L k) w) → X8_kindTold_4 fu g n x (nI i) = some x) := by
  intro r
  induction r with
  | zero =>
    intro i n x hi hn
    obtain ⟨m, rfl⟩ : ∃ m, n = m + 1 := ⟨n - 1, by omega⟩
    rw [X8_kindTold_4, if_pos (show (7 : Int32) ≤ nI i from nI_le (a := 7) (by omega) (by omega))]
    exact ⟨fun w a c => by omega, fun _ => rfl⟩
  | succ r ih =>
    intro i n x hi hn
    obtain ⟨m, rfl⟩ : ∃ m, n = m + 1 := ⟨n - 1, by omega⟩
    have ek : knd (nI i) = i := cl_nI (by omega)
    rw [X8_kindTold_4, if_neg (show ¬ (7 : Int32) ≤ nI i from nI_ge (b := 7) (by omega) (by omega)), ck_nI (by omega) (by decide), ek, nI_1]
    have a := isW (fu := fu) s hB (w := i) (by omega) hf
    by_cases z : wd b L (tp b L k) i
    · rw [a.1 z, bnd_s, if_neg n10]
      have o := (ih (i + 1) m (nI i) (by omega) (by omega)).2 (fun w w1 w2 w3 => by have := wd_inj (show w < 14 by omega) (show i < 14 by omega) w3 z; omega)
      refine ⟨fun w w1 w2 w3 => ?_, fun q => absurd z (q i (by omega) (Nat.le_refl i))⟩
      have := wd_inj (show w < 14 by omega) (show i < 14 by omega) w3 z
      rw [this]; exact o
    · rw [a.2 z, bnd_s, if_pos rfl]
      obtain ⟨b1, b2⟩ := ih (i + 1) m x (by omega) (by omega)
      refine ⟨fun w w1 w2 w3 => b1 w w1 ?_ w3, fun q => b2 (fun w w1 w2 => q w w1 (by omega))⟩
      by_cases e : w = i
      · subst e; exact absurd w3 z
      · omega
theorem kT0 {b : Nat → Int32} {L fu k : Nat} {g : Hp} (s : AT b L k g) (hB : BY b L g) (hf : 20 ≤ fu) : (∀ w, w < 7 → wd b L (tp b L k) w → X8_kindTold fu g = some (nI w)) ∧ ((∀ w, w < 7 → ¬ wd b L (tp b L k) w) → X8_kindTold fu g = some (-1)) := by
  obtain ⟨a, c⟩ := kT (fu := fu) s hB hf 7 0 fu (-1) (by omega) (by omega)
  exact ⟨fun w w1 w2 => a w w1 (Nat.zero_le w) w2, fun q => c (fun w w1 _ => q w w1)⟩
