/-! an item that is kept, and what it does at the end -/
def SO (a0 a1 a2 a3 : Int32) (r r1 : Nat → Int32) : Prop := ∃ q : Int32, 0 ≤ q ∧ ∀ (o : Nat) (g : Hp), o < 120 → g 8 (4 * o) = a0 → g 8 (4 * o + 1) = a1 → g 8 (4 * o + 2) = a2 → g 8 (4 * o + 3) = a3 → g 1 = r → X8_isSo (nI (4 * o)) g = some (q, upA g 1 r1)
def RUN (it : Nat → Int32) : Nat → (Nat → Int32) → (Nat → Int32) → Prop
  | 0, a, c => c = a
  | m + 1, a, c => ∃ d, RUN it m a d ∧ SO (it (4 * m)) (it (4 * m + 1)) (it (4 * m + 2)) (it (4 * m + 3)) d c
theorem RUN.cg {it it1 : Nat → Int32} : ∀ {m : Nat} {a c : Nat → Int32}, (∀ i, i < 4 * m → it1 i = it i) → RUN it m a c → RUN it1 m a c := by
  intro m
  induction m with
  | zero => intro a c _ h; exact h
  | succ m ih =>
    intro a c e h
    obtain ⟨d, h1, h2⟩ := h
    refine ⟨d, ih (fun i hi => e i (by omega)) h1, ?_⟩
    rw [e _ (by omega), e _ (by omega), e _ (by omega), e _ (by omega)]; exact h2
theorem upA_up {g : Hp} {f : Nat → Int32} {j : Nat} {v : Int32} : up (upA g 1 f) 1 j v = upA g 1 (upd f j v) := by
  funext q
  by_cases e : q = 1
  · subst e; rw [up_at, upA_at, upA_at]
  · rw [up_ne e, upA_ne e, upA_ne e]
theorem up_upA {g : Hp} {j : Nat} {v : Int32} : up g 1 j v = upA g 1 (upd (g 1) j v) := rfl
theorem iso_r {o : Nat} {g : Hp} (ho : o < 120) {a0 a1 a2 a3 : Int32} (e0 : g 8 (4 * o) = a0) (e1 : g 8 (4 * o + 1) = a1) (e2 : g 8 (4 * o + 2) = a2) (e3 : g 8 (4 * o + 3) = a3) : X8_isSo (nI (4 * o)) g = if a0 = 10 then (if 0 ≤ a3 then chk (inR (21 + a1) 117) (bnd (X8_become (15 + a1) a2 (up g 1 (21 + a1).toNatClampNeg a3)) (fun r4 => some (r4.1, r4.2)))
      else chk (inR (21 + a1) 117) (chk (inR (21 + a1) 117) (bnd (X8_become (15 + a1) a2 (up g 1 (21 + a1).toNatClampNeg (g 1 (21 + a1).toNatClampNeg))) (fun r7 => some (r7.1, r7.2)))))
    else if a0 = 11 then chk (inR (27 + a1) 117) (some (a2, (up g 1 (27 + a1).toNatClampNeg a2)))
    else if a0 = 12 then bnd (X8_become 1 a1 g) (fun r12 => some (r12.1, r12.2))
    else bnd (X8_comes a0 a1 a2 a3 g) (fun r15 => some (r15.1, r15.2)) := by
  unfold X8_isSo
  simp only [nI_1, show nI (4 * o) + 2 = nI (4 * o + 2) from nI_add _ 2, show nI (4 * o) + 3 = nI (4 * o + 3) from nI_add _ 3, ck_nI (show 4 * o < 480 by omega) (show 480 < 2147483648 by decide), ck_nI (show 4 * o + 1 < 480 by omega) (show 480 < 2147483648 by decide), ck_nI (show 4 * o + 2 < 480 by omega) (show 480 < 2147483648 by decide), ck_nI (show 4 * o + 3 < 480 by omega) (show 480 < 2147483648 by decide), cl_nI (show 4 * o < 2147483648 by omega), cl_nI (show 4 * o + 1 < 2147483648 by omega), cl_nI (show 4 * o + 2 < 2147483648 by omega), cl_nI (show 4 * o + 3 < 2147483648 by omega), e0, e1, e2, e3]
def prow (r : Nat → Int32) (np : Nat) (a b c d : Int32) : Nat → Int32 := upd (upd (upd (upd (upd r (33 + 4 * np) a) (34 + 4 * np) b) (35 + 4 * np) c) (36 + 4 * np) d) 2 (nI (np + 1))
theorem so_part {r : Nat → Int32} {np w : Nat} (e : r 2 = nI np) (hn : np < 10) (hw : w < 7) (x2 x3 x4 : Int32) : SO (nI w) x2 x3 x4 r (prow r np (nI w) x2 x3 x4) := by
  refine ⟨nI np, nI_pos' (by omega), ?_⟩
  intro o g ho e0 e1 e2 e3 eg
  have n1 : ∀ c, 7 ≤ c → c < 20 → ¬ nI w = nI c := fun c h1 h2 q => by have := (nI_eq (by omega) (by omega)).mp q; omega
  rw [iso_r ho e0 e1 e2 e3, if_neg (show ¬ nI w = 10 from n1 10 (by omega) (by omega)), if_neg (show ¬ nI w = 11 from n1 11 (by omega) (by omega)), if_neg (show ¬ nI w = 12 from n1 12 (by omega) (by omega)), comesP (by rw [eg]; exact e) hn, bnd_s, up_upA (g := g), upA_up, upA_up, upA_up, upA_up, eg]
  rfl
theorem so_face {r : Nat → Int32} {f : Nat} (hf : f < 6) (x2 x3 : Int32) (h0 : 0 ≤ r (15 + f)) (hc : 0 ≤ x3) : SO 10 (nI f) x2 x3 r (upd (upd r (21 + f) x3) (15 + f) x2) := by
  refine ⟨r (15 + f), h0, ?_⟩
  intro o g ho e0 e1 e2 e3 eg
  rw [iso_r ho e0 e1 e2 e3, if_pos rfl, if_pos hc, show (21 : Int32) + nI f = nI (21 + f) from nI_add 21 f, show (15 : Int32) + nI f = nI (15 + f) from nI_add 15 f, ck_nI (by omega) (by decide), cl_nI (by omega), become_nI (by omega), bnd_s]
  dsimp only
  rw [up_nj (by omega), up_upA (g := g), upA_up, eg]
theorem so_face0 {r : Nat → Int32} {f : Nat} (hf : f < 6) (x2 : Int32) (h0 : 0 ≤ r (15 + f)) : SO 10 (nI f) x2 (-1) r (upd r (15 + f) x2) := by
  refine ⟨r (15 + f), h0, ?_⟩
  intro o g ho e0 e1 e2 e3 eg
  rw [iso_r ho e0 e1 e2 e3, if_pos rfl, if_neg (by decide), show (21 : Int32) + nI f = nI (21 + f) from nI_add 21 f, show (15 : Int32) + nI f = nI (15 + f) from nI_add 15 f, ck_nI (by omega) (by decide), ck_nI (by omega) (by decide), cl_nI (by omega), up_id rfl, become_nI (by omega), bnd_s, up_upA, eg]
theorem so_show {r : Nat → Int32} {f : Nat} (hf : f < 6) (x2 x3 : Int32) (h0 : 0 ≤ x2) : SO 11 (nI f) x2 x3 r (upd r (27 + f) x2) := by
  refine ⟨x2, h0, ?_⟩
  intro o g ho e0 e1 e2 e3 eg
  rw [iso_r ho e0 e1 e2 e3, if_neg (by decide), if_pos rfl, show (27 : Int32) + nI f = nI (27 + f) from nI_add 27 f, ck_nI (by omega) (by decide), cl_nI (by omega), up_upA, eg]
theorem so_pace {r : Nat → Int32} (x1 x2 x3 : Int32) (h0 : 0 ≤ r 1) : SO 12 x1 x2 x3 r (upd r 1 x1) := by
  refine ⟨r 1, h0, ?_⟩
  intro o g ho e0 e1 e2 e3 eg
  rw [iso_r ho e0 e1 e2 e3, if_neg (by decide), if_neg (by decide), if_pos rfl, show (1 : Int32) = nI 1 from rfl, become_nI (by decide), bnd_s, up_upA, eg]
/-! what the reading leaves alone -/
def HF (h0 h : Hp) : Prop := ∀ c, ¬ (23 ≤ c ∧ c ≤ 33) → c ≠ 42 → c ≠ 43 → c ≠ 44 → c ≠ 45 → h c = h0 c
theorem HF.up {h0 h : Hp} (a : HF h0 h) {c i : Nat} {v : Int32} (hc : (23 ≤ c ∧ c ≤ 33) ∨ c = 42) : HF h0 (up h c i v) := fun d d1 d2 d3 d4 d5 => by
  rw [up_ne (by omega)]; exact a d d1 d2 d3 d4 d5
def GF0 (g0 g : Hp) : Prop := (∀ c, c ≠ 0 → c ≠ 8 → g c = g0 c) ∧ g 0 3 = g0 0 3 ∧ g 0 10 = g0 0 10
def GF (g0 g : Hp) (m : Nat) (r : Nat → Int32) : Prop := GF0 g0 g ∧ g 0 18 = nI m ∧ RUN (g 8) m (g0 1) r
theorem GF.rd {g0 g g1 : Hp} {m : Nat} {r : Nat → Int32} (a : GF g0 g m r) (e : rd2 g g1) : GF g0 g1 m r := by
  obtain ⟨⟨a1, a2, a3⟩, a4, a5⟩ := a
  refine ⟨⟨fun c c1 c2 => (e.2 c c1).trans (a1 c c1 c2), ?_, ?_⟩, ?_, ?_⟩
  · rw [e.1 3 (by decide) (by decide) (by decide) (by decide) (by decide)]; exact a2
  · rw [e.1 10 (by decide) (by decide) (by decide) (by decide) (by decide)]; exact a3
  · rw [e.1 18 (by decide) (by decide) (by decide) (by decide) (by decide)]; exact a4
  · rw [e.2 8 (by decide)]; exact a5
theorem GF.u19 {g0 g : Hp} {m : Nat} {r : Nat → Int32} {v : Int32} (a : GF g0 g m r) : GF g0 (up g 0 19 v) m r := by
  obtain ⟨⟨a1, a2, a3⟩, a4, a5⟩ := a
  refine ⟨⟨fun c c1 c2 => by rw [up_ne c1]; exact a1 c c1 c2, ?_, ?_⟩, ?_, ?_⟩
  · rw [up_nj (by decide)]; exact a2
  · rw [up_nj (by decide)]; exact a3
  · rw [up_nj (by decide)]; exact a4
  · rw [up_ne (by decide)]; exact a5
theorem AT.u {b : Nat → Int32} {L k : Nat} {g g1 : Hp} (a : AT b L k g) (e : ∀ j, 11 ≤ j → j ≤ 14 → g1 0 j = g 0 j) : AT b L k g1 := by
  unfold AT
  rw [e 11 (by decide) (by decide), e 12 (by decide) (by decide), e 13 (by decide) (by decide), e 14 (by decide) (by decide)]; exact a
theorem BY.u {b : Nat → Int32} {L : Nat} {g g1 : Hp} (a : BY b L g) (e : g1 0 10 = g 0 10) (e6 : g1 6 = g 6) : BY b L g1 := by
  unfold BY
  rw [e, e6]; exact a
theorem GS.u19 {b : Nat → Int32} {L k : Nat} {g : Hp} {v : Int32} (s : GS b L k g) : GS b L k (up g 0 19 v) := ⟨s.1.u (fun j _ _ => up_nj (by omega)), by rw [up_nj (by decide)]; exact s.2.1, s.2.2.u (up_nj (by decide)) (up_ne (by decide))⟩
theorem GW.u19 {b : Nat → Int32} {L k : Nat} {g : Hp} {v : Int32} (s : GW b L k g) : GW b L k (up g 0 19 v) := ⟨s.1.u (fun j _ _ => up_nj (by omega)), by rw [up_nj (by decide)]; exact s.2.1, s.2.2.u (up_nj (by decide)) (up_ne (by decide))⟩
def itU (g : Hp) (m : Nat) (x1 x2 x3 x4 : Int32) : Hp := up (up (up (up (up g 8 (4 * m) x1) 8 (4 * m + 1) x2) 8 (4 * m + 2) x3) 8 (4 * m + 3) x4) 0 18 (nI (m + 1))
theorem it_r {g : Hp} {m : Nat} (e : g 0 18 = nI m) (hm : m < 120) (x1 x2 x3 x4 : Int32) : X8_item x1 x2 x3 x4 g = some (itU g m x1 x2 x3 x4) := by
  unfold X8_item X8_item_52 itU
  simp only [up_ne (show (0 : Nat) ≠ 8 by decide), e, show (4 : Int32) * nI m = nI (4 * m) from pk_mul 4 m, nI_1, show nI (4 * m) + 2 = nI (4 * m + 2) from nI_add _ 2, show nI (4 * m) + 3 = nI (4 * m + 3) from nI_add _ 3, ck_nI (show 4 * m < 480 by omega) (show 480 < 2147483648 by decide), ck_nI (show 4 * m + 1 < 480 by omega) (show 480 < 2147483648 by decide), ck_nI (show 4 * m + 2 < 480 by omega) (show 480 < 2147483648 by decide), ck_nI (show 4 * m + 3 < 480 by omega) (show 480 < 2147483648 by decide), cl_nI (show 4 * m < 2147483648 by omega), cl_nI (show 4 * m + 1 < 2147483648 by omega), cl_nI (show 4 * m + 2 < 2147483648 by omega), cl_nI (show 4 * m + 3 < 2147483648 by omega)]
theorem itU_0 {g : Hp} {m j : Nat} {x1 x2 x3 x4 : Int32} (hj : j ≠ 18) : itU g m x1 x2 x3 x4 0 j = g 0 j := by
  unfold itU
  rw [up_nj hj, up_ne (by decide), up_ne (by decide), up_ne (by decide), up_ne (by decide)]
theorem itU_c {g : Hp} {m c : Nat} {x1 x2 x3 x4 : Int32} (h0 : c ≠ 0) (h8 : c ≠ 8) : itU g m x1 x2 x3 x4 c = g c := by
  unfold itU
  rw [up_ne h0, up_ne h8, up_ne h8, up_ne h8, up_ne h8]
theorem it_ok {b : Nat → Int32} {L k m : Nat} {g0 g : Hp} {r r1 : Nat → Int32} {x1 x2 x3 x4 : Int32} (s : GS b L k g) (a : GF g0 g m r) (hm : m < 120) (so : SO x1 x2 x3 x4 r r1) : ∃ g1, X8_item x1 x2 x3 x4 g = some g1 ∧ GS b L k g1 ∧ GF g0 g1 (m + 1) r1 ∧ g1 0 19 = g 0 19 := by
  obtain ⟨⟨a1, a2, a3⟩, a4, a5⟩ := a
  refine ⟨itU g m x1 x2 x3 x4, it_r a4 hm _ _ _ _, ⟨s.1.u (fun j _ _ => itU_0 (by omega)), (itU_0 (by decide)).trans s.2.1, s.2.2.u (itU_0 (by decide)) (itU_c (by decide) (by decide))⟩, ⟨⟨fun c c1 c2 => (itU_c c1 c2).trans (a1 c c1 c2), (itU_0 (by decide)).trans a2, (itU_0 (by decide)).trans a3⟩, ?_, ?_⟩, itU_0 (by decide)⟩
  · unfold itU; rw [up_eq]
  · have e : ∀ i, i < 4 * m → itU g m x1 x2 x3 x4 8 i = g 8 i := fun i hi => by
      unfold itU
      rw [up_ne (by decide), up_nj (by omega), up_nj (by omega), up_nj (by omega), up_nj (by omega)]
    refine ⟨r, RUN.cg e a5, ?_⟩
    have e0 : itU g m x1 x2 x3 x4 8 (4 * m) = x1 := by
      unfold itU
      rw [up_ne (by decide), up_nj (by omega), up_nj (by omega), up_nj (by omega), up_eq]
    have e1 : itU g m x1 x2 x3 x4 8 (4 * m + 1) = x2 := by
      unfold itU
      rw [up_ne (by decide), up_nj (by omega), up_nj (by omega), up_eq]
    have e2 : itU g m x1 x2 x3 x4 8 (4 * m + 2) = x3 := by
      unfold itU
      rw [up_ne (by decide), up_nj (by omega), up_eq]
    have e3 : itU g m x1 x2 x3 x4 8 (4 * m + 3) = x4 := by
      unfold itU
      rw [up_ne (by decide), up_eq]
    rw [e0, e1, e2, e3]; exact so
/-- wrong from token k on -/
def FLG (b : Nat → Int32) (L : Nat) (g0 : Hp) (k : Nat) (g : Hp) : Prop := g 0 15 = 1 ∧ g 0 11 = nI (tkB b L (tp b L k)) ∧ GF0 g0 g
theorem it_wr {b : Nat → Int32} {L k m : Nat} {g0 g : Hp} {r : Nat → Int32} (x1 x2 x3 x4 : Int32) (s : GW b L k g) (a : GF g0 g m r) (hm : m < 120) : ∃ g1, X8_item x1 x2 x3 x4 g = some g1 ∧ FLG b L g0 k g1 := by
  obtain ⟨⟨a1, a2, a3⟩, a4, a5⟩ := a
  exact ⟨itU g m x1 x2 x3 x4, it_r a4 hm _ _ _ _, (itU_0 (by decide)).trans s.2.1, (itU_0 (by decide)).trans s.1.1, fun c c1 c2 => (itU_c c1 c2).trans (a1 c c1 c2), (itU_0 (by decide)).trans a2, (itU_0 (by decide)).trans a3⟩
/-! a word that may stand, with its number -/
def mayR (fu w : Nat) (lo hi d : Int32) (g : Hp) : Option (Int32 × Hp) := bnd (X8_isNext fu w g) (fun r => if r.1 = 0 then some (d, r.2) else X8_number fu lo hi r.2)
theorem mayR_b {fu w : Nat} {lo hi d : Int32} {g : Hp} {K : Int32 → Hp → Option Hp} : bnd (X8_isNext fu w g) (fun r2 => if r2.1 = 0 then K d r2.2 else bnd (X8_number fu lo hi r2.2) (fun r6 => K r6.1 r6.2)) = bnd (mayR fu w lo hi d g) (fun r => K r.1 r.2) := by
  unfold mayR
  cases X8_isNext fu w g with
  | none => rfl
  | some r =>
    rw [bnd_s, bnd_s]
    by_cases z : r.1 = 0
    · rw [if_pos z, if_pos z, bnd_s]
    · rw [if_neg z, if_neg z]
theorem mayW {b : Nat → Int32} {L fu k w : Nat} {g : Hp} (s : GW b L k g) (lo hi d : Int32) : mayR fu w lo hi d g = some (d, g) := by
  unfold mayR
  rw [isNW s, bnd_s, if_pos rfl]
theorem mayS {b : Nat → Int32} {L T fu k w c x : Nat} {h g : Hp} {lo hi : Int32} (d : Int32) (t : TT b L T h) (s : GS b L k g) (hk : k ≤ T) (hf : 130 ≤ fu) (hw : w < 14) (hl : 0 ≤ lo.toInt) (hc : c ≠ 42) (hx : x < lnX c) (hx2 : lnX c < 2147483648) :
    (X3_mayTell fu w c (nI x) lo hi (At h k) = some (1, At h k) ∧ mayR fu w lo hi d g = some (d, g)) ∨
    (∃ k1 v g1, k ≤ k1 ∧ k1 ≤ T ∧ X3_mayTell fu w c (nI x) lo hi (At h k) = some (1, At (up h c x v) k1) ∧ mayR fu w lo hi d g = some (v, g1) ∧ GS b L k1 g1 ∧ rd2 g g1 ∧ lo.toInt ≤ v.toInt ∧ v.toInt ≤ hi.toInt) ∨
    (∃ k1 v g1, k1 ≤ T ∧ X3_mayTell fu w c (nI x) lo hi (At h k) = some (0, At h k1) ∧ mayR fu w lo hi d g = some (v, g1) ∧ GW b L k1 g1 ∧ rd2 g g1) := by
  have n := isN (fu := fu) s hw hf
  rcases myX t (fu := fu) hk hw (by omega) hl hc hx hx2 (hi := hi) with ⟨a, e⟩ | ⟨a1, a2, a3, e⟩ | ⟨a1, a2, a3, e⟩
  · left
    refine ⟨e, ?_⟩
    unfold mayR
    rw [n.2 a, bnd_s, if_pos rfl]
  · right; left
    obtain ⟨g1, b1, b2, b3⟩ := n.1 a1
    obtain ⟨g2, c1, c2, c3⟩ := (numG (fu := fu) b2 hf lo hi).1 a2
    refine ⟨k + 2, tkV b L (tp b L (k + 1)), g2, by omega, by omega, e, ?_, c2, b3.tr c3, ti_le.mp a2.2.1, ti_le.mp a2.2.2⟩
    unfold mayR
    rw [b1, bnd_s, if_neg n10]; exact c1
  · right; right
    obtain ⟨g1, b1, b2, b3⟩ := n.1 a1
    obtain ⟨v, g2, c1, c2, c3⟩ := (numG (fu := fu) b2 hf lo hi).2 a2
    refine ⟨k + 1, v, g2, by omega, e, ?_, c2, b3.tr c3⟩
    unfold mayR
    rw [b1, bnd_s, if_neg n10]; exact c1
