/-- the reference tries a value at a place of its row -/
def trI (hm : Hp) (P1 : Nat) (h : Hp) : Prop := (∀ j, j ≠ P1 → h 1 j = hm 1 j) ∧ (∀ j, j ≠ 6 → h 0 j = hm 0 j) ∧ (∀ c, c ≠ 0 → c ≠ 1 → c ≠ 5 → h c = hm c)
theorem bstep {hx hm : Hp} (h : R hx hm) {fu np p f l : Nat} (hfu : 1100 ≤ fu) (np1 : np ≤ 10) (np2 : hx 1 10 = nI np) (pp : p < np) (hf : f = 1 ∨ f = 2) (hl : (l : Int) ≤ hiH f p) {g : Hp} (t : trI hm (ix f p) g) :
    HI 1 (up hx (1 + f) p (nI l)) ∧ ∃ g1, X8_findMost fu 0 (up g 1 (ix f p) (nI l)) = some (nI (wN (RT (up hx (1 + f) p (nI l))) (SM (up hx (1 + f) p (nI l))) (HB (up hx (1 + f) p (nI l)) np 0) np 6 0), g1) ∧ trI hm (ix f p) g1 := by
  have hl2 : l ≤ 255 := by rcases hf with rfl | rfl <;> (unfold hiH at hl; simp at hl; omega)
  have v0 : vl f p := vl14 (by omega) (by omega) (by omega)
  have I : HI 1 (up hx (1 + f) p (nI l)) := h.2.1.set1 v0 (by
    rw [ti_nI (by omega)]
    refine ⟨?_, hl⟩
    rcases hf with rfl | rfl <;> (unfold loH; simp)) ⟨fun z => by omega, by omega, by omega, fun z => by omega⟩
  refine ⟨I, ?_⟩
  have e : up g 1 (ix f p) (nI l) 1 = up hm 1 (ix f p) (nI l) 1 := by
    funext j
    by_cases z : j = ix f p
    · subst z; rw [up_eq, up_eq]
    · rw [up_nj z, up_nj z, t.1 j z]
  have hR : HR 1 1 (up hx (1 + f) p (nI l)) (up g 1 (ix f p) (nI l)) := (h.1.set1 v0 (nI l)).frame (fun _ _ => rfl) e
  obtain ⟨g1, a1, a2, a3, a4, a5⟩ := findM hR I (fu := fu) (lo := 0) hfu np1 (by rw [up_ne (by omega)]; exact np2) (by omega)
  refine ⟨g1, a1, fun j hj => ?_, fun j hj => ?_, fun c c0 c1 c5 => ?_⟩
  · rw [a5 1 (by decide) (by decide), up_nj hj, t.1 j hj]
  · rw [a4 j hj, up_ne (by decide), t.2.1 j hj]
  · rw [a5 c c5 c0, up_ne c1, t.2.2 c c0 c1 c5]
theorem jmx_le {a b : Int32} (h : b ≤ a) : jmax a b = a := by
  unfold jmax
  rw [if_neg (fun z => by rw [ti_lt] at z; rw [ti_le] at h; omega)]
theorem jmx_gt {a b : Int32} (h : ¬ b ≤ a) : jmax a b = b := by
  unfold jmax
  rw [if_pos (by rw [ti_lt]; rw [ti_le] at h; omega)]
theorem trR {hx hm hx1 g : Hp} (h : R hx hm) {P1 : Nat} (a : ∀ c, c ≠ 34 → c ≠ 35 → c ≠ 36 → hx1 c = hx c) (t : trI hm P1 g) : R hx1 (up g 1 P1 (hm 1 P1)) := by
  refine h.fr a (fun j hj => by rw [up_ne (by decide), t.2.1 j hj]) (fun c c5 c0 => ?_)
  by_cases z : c = 1
  · subst z
    funext j
    by_cases y : j = P1
    · subst y; rw [up_eq]
    · rw [up_nj y, t.1 j y]
  · rw [up_ne z, t.2.2 c c0 z c5]
theorem recL {hx hm h3 : Hp} (h : R hx hm) {fu np p : Nat} (hfu : 1100 ≤ fu) (np1 : np ≤ 10) (np2 : hx 1 10 = nI np) (pp : p < np) (ec : ∀ c, c ≠ 34 → c ≠ 35 → c ≠ 36 → h3 c = hx c) (e3 : h3 34 3 = nI (bs (shP hx) 6)) (et : ∀ m, sub m (bs (shP hx) 6) → h3 36 m = nI (bN (RT hx) (clr (bs (isH hx) np) p) 10 m)) : ∀ (k l n n1 : Nat) (x4 x5 : Int32) (g : Hp), l + k = 256 → k < n → k < n1 → trI hm (34 + 4 * p) g → Eqv (X0_bestLooks_32 fu n (nI p) x4 x5 (nI l) h3) (X8_bestWith_16 fu n1 (nI (34 + 4 * p)) 256 (hm 1 (34 + 4 * p)) x4 x5 (nI l) g) := by
  intro k
  induction k with
  | zero =>
    intro l n n1 x4 x5 g hl hn hn1 t
    obtain ⟨m, rfl⟩ : ∃ m, n = m + 1 := ⟨n - 1, by omega⟩
    obtain ⟨m1, rfl⟩ : ∃ m, n1 = m + 1 := ⟨n1 - 1, by omega⟩
    rw [X0_bestLooks_32, X8_bestWith_16, if_pos (show (255 : Int32) < nI l from nI_lt (a := 255) (by omega) (by omega)), if_pos (show (256 : Int32) ≤ nI l from nI_le (a := 256) (by omega) (by omega)), ck_nI (by omega) (by decide), cl_nI (by omega)]
    exact ⟨_, _, _, rfl, rfl, trR h ec t⟩
  | succ k ih =>
    intro l n n1 x4 x5 g hl hn hn1 t
    obtain ⟨m, rfl⟩ : ∃ m, n = m + 1 := ⟨n - 1, by omega⟩
    obtain ⟨m1, rfl⟩ : ∃ m, n1 = m + 1 := ⟨n1 - 1, by omega⟩
    obtain ⟨I, g1, b1, b2⟩ := bstep h (fu := fu) (f := 2) (l := l) hfu np1 np2 pp (Or.inr rfl) (by unfold hiH; simp; omega) t
    have b1' : X8_findMost fu 0 (up g 1 (34 + 4 * p) (nI l)) = _ := b1
    have w := wwX (hx := hx) (hx' := up hx 3 p (nI l)) (h3 := h3) I (fu := fu) (by omega) np1 pp (up_ne (by decide)) (up_ne (by decide)) (fun i hi => by rw [up_ne (by decide)]) (fun i hi => up_nj hi) (ec 8 (by decide) (by decide) (by decide)) (ec 6 (by decide) (by decide) (by decide)) e3 et
    rw [up_ne (show (2 : Nat) ≠ 3 by decide), up_eq] at w
    have nlt : ¬ (255 : Int32) < nI l := fun z => by rw [ti_lt, ti_nI (by omega), show (255 : Int32).toInt = 255 from rfl] at z; omega
    rw [X0_bestLooks_32, X8_bestWith_16, if_neg nlt, if_neg (show ¬ (256 : Int32) ≤ nI l from nI_ge (b := 256) (by omega) (by omega)), ck10 (by omega), cl_nI (show p < 2147483648 by omega), ec 2 (by decide) (by decide) (by decide), w, bnd_s, ck_nI (by omega) (by decide), cl_nI (show 34 + 4 * p < 2147483648 by omega), b1', bnd_s, nI_1]
    dsimp only
    rw [show 1 + 2 = 3 from rfl]
    generalize nI (wN (RT (up hx 3 p (nI l))) (SM (up hx 3 p (nI l))) (HB (up hx 3 p (nI l)) np 0) np 6 0) = W
    by_cases z : W ≤ x5
    · rw [if_pos z, if_pos z, jmx_le z]; exact ih (l + 1) m m1 x4 x5 g1 (by omega) (by omega) (by omega) b2
    · rw [if_neg z, if_neg z, jmx_gt z]; exact ih (l + 1) m m1 _ _ g1 (by omega) (by omega) (by omega) b2
theorem kinL {hx hm h3 : Hp} (h : R hx hm) {fu np p : Nat} (hfu : 1100 ≤ fu) (np1 : np ≤ 10) (np2 : hx 1 10 = nI np) (pp : p < np) (ec : ∀ c, c ≠ 34 → c ≠ 35 → c ≠ 36 → h3 c = hx c) (e3 : h3 34 3 = nI (bs (shP hx) 6)) (et : ∀ m, sub m (bs (shP hx) 6) → h3 36 m = nI (bN (RT hx) (clr (bs (isH hx) np) p) 10 m)) : ∀ (k l n n1 : Nat) (x4 x5 : Int32) (g : Hp), l + k = 7 → k < n → k < n1 → trI hm (33 + 4 * p) g → Eqv (X0_bestKind_32 fu n (nI p) x4 x5 (nI l) h3) (X8_bestWith_16 fu n1 (nI (33 + 4 * p)) 7 (hm 1 (33 + 4 * p)) x4 x5 (nI l) g) := by
  intro k
  induction k with
  | zero =>
    intro l n n1 x4 x5 g hl hn hn1 t
    obtain ⟨m, rfl⟩ : ∃ m, n = m + 1 := ⟨n - 1, by omega⟩
    obtain ⟨m1, rfl⟩ : ∃ m, n1 = m + 1 := ⟨n1 - 1, by omega⟩
    rw [X0_bestKind_32, X8_bestWith_16, if_pos (show (6 : Int32) < nI l from nI_lt (a := 6) (by omega) (by omega)), if_pos (show (7 : Int32) ≤ nI l from nI_le (a := 7) (by omega) (by omega)), ck_nI (by omega) (by decide), cl_nI (by omega)]
    exact ⟨_, _, _, rfl, rfl, trR h ec t⟩
  | succ k ih =>
    intro l n n1 x4 x5 g hl hn hn1 t
    obtain ⟨m, rfl⟩ : ∃ m, n = m + 1 := ⟨n - 1, by omega⟩
    obtain ⟨m1, rfl⟩ : ∃ m, n1 = m + 1 := ⟨n1 - 1, by omega⟩
    obtain ⟨I, g1, b1, b2⟩ := bstep h (fu := fu) (f := 1) (l := l) hfu np1 np2 pp (Or.inl rfl) (by unfold hiH; simp; omega) t
    have b1' : X8_findMost fu 0 (up g 1 (33 + 4 * p) (nI l)) = _ := b1
    have w := wwX (hx := hx) (hx' := up hx 2 p (nI l)) (h3 := h3) I (fu := fu) (by omega) np1 pp (up_ne (by decide)) (up_ne (by decide)) (fun i hi => up_nj hi) (fun i hi => by rw [up_ne (by decide)]) (ec 8 (by decide) (by decide) (by decide)) (ec 6 (by decide) (by decide) (by decide)) e3 et
    rw [up_ne (show (3 : Nat) ≠ 2 by decide), up_eq] at w
    have nlt : ¬ (6 : Int32) < nI l := fun z => by rw [ti_lt, ti_nI (by omega), show (6 : Int32).toInt = 6 from rfl] at z; omega
    rw [X0_bestKind_32, X8_bestWith_16, if_neg nlt, if_neg (show ¬ (7 : Int32) ≤ nI l from nI_ge (b := 7) (by omega) (by omega)), ck10 (by omega), cl_nI (show p < 2147483648 by omega), ec 3 (by decide) (by decide) (by decide), w, bnd_s, ck_nI (by omega) (by decide), cl_nI (show 33 + 4 * p < 2147483648 by omega), b1', bnd_s, nI_1]
    dsimp only
    rw [show 1 + 1 = 2 from rfl]
    generalize nI (wN (RT (up hx 2 p (nI l))) (SM (up hx 2 p (nI l))) (HB (up hx 2 p (nI l)) np 0) np 6 0) = W
    by_cases z : W ≤ x5
    · rw [if_pos z, if_pos z, jmx_le z]; exact ih (l + 1) m m1 x4 x5 g1 (by omega) (by omega) (by omega) b2
    · rw [if_neg z, if_neg z, jmx_gt z]; exact ih (l + 1) m m1 _ _ g1 (by omega) (by omega) (by omega) b2
theorem trI_rf (hm : Hp) (P : Nat) : trI hm P hm := ⟨fun _ _ => rfl, fun _ _ => rfl, fun _ _ _ _ => rfl⟩
theorem o_recast {hx hm : Hp} {fu : Nat} (hf : 1100 ≤ fu) (h : R hx hm) (x : Int32) : Eqv (X7_recast fu x hx) (X8_recast fu x hm) := by
  obtain ⟨np, np1, np2⟩ := npN h.2.1
  unfold X7_recast X8_recast
  rcases hasP h.1 np2 np1 x with ⟨a, b, -⟩ | ⟨p, p1, rfl, a, b⟩
  · rw [if_pos a, b, bnd_s, if_pos rfl]; exact fB h
  rw [if_neg (by rw [a]; decide), b, bnd_s, if_neg n10, headX (by omega) h.2.1 (by omega), headM (by omega) h.1 h.2.1 (by omega), bnd_s, bnd_s]
  by_cases z : isH hx p = true
  · rw [if_pos z, if_neg n10, if_neg n10, bnd_eta, bnd_eta]
    obtain ⟨h2, a1, a2, a3, a4, a5⟩ := lookX h.2.1 (fu := fu) (by omega) np1 np2
    obtain ⟨h3, b1, b2, b3⟩ := a5 (clr (bs (isH hx) np) p) _ h2 (sub_clr (sub_rf _)) (sub_rf _) rfl
    unfold X0_bestLooks X8_bestWith
    rw [a1, bnd_s, a2, a3, clr_nI (by omega), b1, bnd_s, show X8_at (nI p) 1 = nI (33 + 4 * p + 1) from at_nI p 1, show 33 + 4 * p + 1 = 34 + 4 * p by omega, ck_nI (by omega) (by decide), cl_nI (by omega)]
    exact recL h hf np1 np2 p1 (fun c x1 x2 x3 => by rw [b3 c x3, a4 c x1 x2]) (by rw [b3 34 (by decide), a2]) b2 256 0 fu fu 0 (-1) hm (by omega) (by omega) (by omega) (trI_rf _ _)
  · rw [if_neg z, if_pos rfl, if_pos rfl]; exact fK h
theorem o_kindFor {hx hm : Hp} {fu : Nat} (hf : 1100 ≤ fu) (h : R hx hm) (x : Int32) : Eqv (X7_kindFor fu x hx) (X8_kindFor fu x hm) := by
  obtain ⟨np, np1, np2⟩ := npN h.2.1
  unfold X7_kindFor X8_kindFor
  rcases hasP h.1 np2 np1 x with ⟨a, b, -⟩ | ⟨p, p1, rfl, a, b⟩
  · rw [if_pos a, b, bnd_s, if_pos rfl]; exact fB h
  rw [if_neg (by rw [a]; decide), b, bnd_s, if_neg n10, bnd_eta, bnd_eta]
  obtain ⟨h2, a1, a2, a3, a4, a5⟩ := lookX h.2.1 (fu := fu) (by omega) np1 np2
  obtain ⟨h3, b1, b2, b3⟩ := a5 (clr (bs (isH hx) np) p) _ h2 (sub_clr (sub_rf _)) (sub_rf _) rfl
  unfold X0_bestKind X8_bestWith
  rw [a1, bnd_s, a2, a3, clr_nI (by omega), b1, bnd_s, show X8_at (nI p) 0 = nI (33 + 4 * p + 0) from at_nI p 0, show 33 + 4 * p + 0 = 33 + 4 * p by omega, ck_nI (by omega) (by decide), cl_nI (by omega)]
  exact kinL h hf np1 np2 p1 (fun c x1 x2 x3 => by rw [b3 c x3, a4 c x1 x2]) (by rw [b3 34 (by decide), a2]) b2 7 0 fu fu 0 (-1) hm (by omega) (by omega) (by omega) (trI_rf _ _)
