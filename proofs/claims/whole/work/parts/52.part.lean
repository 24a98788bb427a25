/-! the draft taken as the house -/
def vxh (hx0 h : Hp) : Hp := fun k => if 1 ≤ k ∧ k ≤ 11 then h (k + 22) else hx0 k
theorem vx_at {hx0 h : Hp} {d : Nat} (hd : 1 ≤ d ∧ d ≤ 11) : vxh hx0 h d = h (d + 22) := by unfold vxh; rw [if_pos hd]
theorem vx_up {hx0 h : Hp} {d i : Nat} {v : Int32} (hd : 1 ≤ d ∧ d ≤ 11) : vxh hx0 (up h (d + 22) i v) = up (vxh hx0 h) d i v := by
  funext q
  by_cases e : q = d
  · subst e; rw [vx_at hd, up_at, up_at, vx_at hd]
  · rw [up_ne e]
    unfold vxh
    by_cases z : 1 ≤ q ∧ q ≤ 11
    · rw [if_pos z, if_pos z, up_ne (by omega)]
    · rw [if_neg z, if_neg z]
def INV (hx0 hm0 h g : Hp) (m : Nat) (r : Nat → Int32) : Prop := HF hx0 h ∧ GF hm0 g m r ∧ R (vxh hx0 h) (upA hm0 1 r) ∧ g 0 19 = h 23 10
def ItR (b : Nat → Int32) (L T : Nat) (hx0 hm0 : Hp) (m k : Nat) (a : Option (Int32 × Hp)) (c : Option Hp) : Prop :=
  (∃ k1 h1 g1 r1, k < k1 ∧ k1 ≤ T ∧ a = some (1, At h1 k1) ∧ c = some g1 ∧ TT b L T h1 ∧ GS b L k1 g1 ∧ INV hx0 hm0 h1 g1 (m + 1) r1) ∨
  (∃ k1 h1 g1, k1 ≤ T ∧ a = some (0, At h1 k1) ∧ c = some g1 ∧ TT b L T h1 ∧ HF hx0 h1 ∧ FLG b L hm0 k1 g1)
/-! a part -/
def pH (h : Hp) (np : Nat) (a b c d : Int32) : Hp := up (up (up (up (up h 24 np a) 25 np b) 26 np c) 27 np d) 23 10 (nI (np + 1))
theorem pH_b {h : Hp} {np : Nat} {a b c d v : Int32} : up (pH h np a b c d) 25 np v = pH h np a v c d := by
  unfold pH
  rw [up_cm (c := 23) (d := 25) (by decide), up_cm (c := 27) (d := 25) (by decide), up_cm (c := 26) (d := 25) (by decide), up_up]
theorem pH_c {h : Hp} {np : Nat} {a b c d v : Int32} : up (pH h np a b c d) 26 np v = pH h np a b v d := by
  unfold pH
  rw [up_cm (c := 23) (d := 26) (by decide), up_cm (c := 27) (d := 26) (by decide), up_up]
theorem pH_d {h : Hp} {np : Nat} {a b c d v : Int32} : up (pH h np a b c d) 27 np v = pH h np a b c v := by
  unfold pH
  rw [up_cm (c := 23) (d := 27) (by decide), up_up]
theorem pH_25 {h : Hp} {np : Nat} {a b c d : Int32} : pH h np a b c d 25 np = b := by
  unfold pH
  rw [up_ne (by decide), up_ne (by decide), up_ne (by decide), up_eq]
theorem pH_26 {h : Hp} {np : Nat} {a b c d : Int32} : pH h np a b c d 26 np = c := by
  unfold pH
  rw [up_ne (by decide), up_ne (by decide), up_eq]
theorem pH_27 {h : Hp} {np : Nat} {a b c d : Int32} : pH h np a b c d 27 np = d := by
  unfold pH
  rw [up_ne (by decide), up_eq]
theorem pH_TT {b0 : Nat → Int32} {L T : Nat} {h : Hp} (t : TT b0 L T h) {np : Nat} {a b c d : Int32} : TT b0 L T (pH h np a b c d) := ((((t.up (by omega)).up (by omega)).up (by omega)).up (by omega)).up (by omega)
theorem pH_HF {h0 h : Hp} (t : HF h0 h) {np : Nat} {a b c d : Int32} : HF h0 (pH h np a b c d) := ((((t.up (by omega)).up (by omega)).up (by omega)).up (by omega)).up (by omega)
theorem pH_R {hx0 hm0 h : Hp} {r : Nat → Int32} (rr : R (vxh hx0 h) (upA hm0 1 r)) {np : Nat} (e : h 23 10 = nI np) (hn : np < 10) {a b c d : Int32} (b1 : 0 ≤ a.toInt ∧ a.toInt ≤ 6) (b2 : 0 ≤ b.toInt ∧ b.toInt ≤ 255) (b3 : 0 ≤ c.toInt ∧ c.toInt ≤ 60) (b4 : -1 ≤ d.toInt ∧ d.toInt ≤ 5) : R (vxh hx0 (pH h np a b c d)) (upA hm0 1 (prow r np a b c d)) := by
  have s := rr.addP (np := np) (by rw [vx_at (by omega)]; exact e) hn b1 b2 b3 b4
  rw [upA_up, upA_up, upA_up, upA_up, upA_up] at s
  have q : vxh hx0 (pH h np a b c d) = up (up (up (up (up (vxh hx0 h) 2 np a) 3 np b) 4 np c) 5 np d) 1 10 (nI (np + 1)) := by
    have q1 : vxh hx0 (pH h np a b c d) = up (vxh hx0 (up (up (up (up h 24 np a) 25 np b) 26 np c) 27 np d)) 1 10 (nI (np + 1)) := vx_up (d := 1) (by omega)
    have q2 : vxh hx0 (up (up (up (up h 24 np a) 25 np b) 26 np c) 27 np d) = up (vxh hx0 (up (up (up h 24 np a) 25 np b) 26 np c)) 5 np d := vx_up (d := 5) (by omega)
    have q3 : vxh hx0 (up (up (up h 24 np a) 25 np b) 26 np c) = up (vxh hx0 (up (up h 24 np a) 25 np b)) 4 np c := vx_up (d := 4) (by omega)
    have q4 : vxh hx0 (up (up h 24 np a) 25 np b) = up (vxh hx0 (up h 24 np a)) 3 np b := vx_up (d := 3) (by omega)
    have q5 : vxh hx0 (up h 24 np a) = up (vxh hx0 h) 2 np a := vx_up (d := 2) (by omega)
    rw [q1, q2, q3, q4, q5]
  rw [q]; exact s
theorem mayP {b : Nat → Int32} {L T fu k w c x : Nat} {h g : Hp} {lo hi d : Int32} (t : TT b L T h) (s : GS b L k g) (hk : k ≤ T) (hf : 130 ≤ fu) (hw : w < 14) (hl : 0 ≤ lo.toInt) (hc : c ≠ 42) (hx : x < lnX c) (hx2 : lnX c < 2147483648) (hd : h c x = d) :
    (∃ k1 v g1, k ≤ k1 ∧ k1 ≤ T ∧ X3_mayTell fu w c (nI x) lo hi (At h k) = some (1, At (up h c x v) k1) ∧ mayR fu w lo hi d g = some (v, g1) ∧ GS b L k1 g1 ∧ rd2 g g1 ∧ (v = d ∨ (lo.toInt ≤ v.toInt ∧ v.toInt ≤ hi.toInt))) ∨
    (∃ k1 v g1, k1 ≤ T ∧ X3_mayTell fu w c (nI x) lo hi (At h k) = some (0, At h k1) ∧ mayR fu w lo hi d g = some (v, g1) ∧ GW b L k1 g1 ∧ rd2 g g1) := by
  rcases mayS d t s hk hf hw hl hc hx hx2 (hi := hi) with ⟨a, e⟩ | ⟨k1, v, g1, a1, a2, a3, a4, a5, a6, a7, a8⟩ | q
  · left
    exact ⟨k, d, g, Nat.le_refl k, hk, by rw [up_id hd]; exact a, e, s, rd2.rf, Or.inl rfl⟩
  · left
    exact ⟨k1, v, g1, a1, a2, a3, a4, a5, a6, Or.inr ⟨a7, a8⟩⟩
  · right; exact q
theorem r82 {fu : Nat} {x1 x2 s0 : Int32} {g : Hp} : X8_readItem_82 fu x1 x2 s0 g = bnd (mayR fu 9 0 5 (-1) g) (fun r => bnd (X8_item x1 x2 s0 r.1 r.2) (fun h => some h)) := mayR_b (K := fun v q => bnd (X8_item x1 x2 s0 v q) (fun h => some h))
theorem r59 {fu : Nat} {x1 s0 : Int32} {g : Hp} : X8_readItem_59 fu x1 s0 g = bnd (mayR fu 8 1 60 10 g) (fun r => X8_readItem_82 fu x1 s0 r.1 r.2) := mayR_b (K := fun v q => X8_readItem_82 fu x1 s0 v q)
theorem w82 {b : Nat → Int32} {L fu k m : Nat} {g0 g : Hp} {r : Nat → Int32} (x1 x2 s0 : Int32) (s : GW b L k g) (a : GF g0 g m r) (hm : m < 120) : ∃ g1, X8_readItem_82 fu x1 x2 s0 g = some g1 ∧ FLG b L g0 k g1 := by
  obtain ⟨g1, e, q⟩ := it_wr x1 x2 s0 (-1) s a hm
  rw [r82, mayW s, bnd_s]
  dsimp only
  rw [e, bnd_s]
  exact ⟨g1, rfl, q⟩
theorem w59 {b : Nat → Int32} {L fu k m : Nat} {g0 g : Hp} {r : Nat → Int32} (x1 s0 : Int32) (s : GW b L k g) (a : GF g0 g m r) (hm : m < 120) : ∃ g1, X8_readItem_59 fu x1 s0 g = some g1 ∧ FLG b L g0 k g1 := by
  rw [r59, mayW s, bnd_s]
  exact w82 x1 s0 10 s a hm
theorem part_sim {b : Nat → Int32} {L T fu k0 k m np w : Nat} {hx0 hm0 h g : Hp} {r : Nat → Int32} (t : TT b L T h) (s : GS b L k g) (hk : k ≤ T) (hk0 : k0 < k) (hf : 130 ≤ fu) (hh : HF hx0 h) (gf : GF hm0 g m r) (rr : R (vxh hx0 h) (upA hm0 1 r)) (e : h 23 10 = nI np) (hn : np < 10) (e19 : g 0 19 = nI (np + 1)) (hw : w < 7) (hm : m < 120) : ItR b L T hx0 hm0 m k0 (X3_readPart fu (nI w) (At h k)) (bnd (mayR fu 7 0 255 0 g) (fun r => X8_readItem_59 fu (nI w) r.1 r.2)) := by
  have er : r 2 = nI np := by
    have := rnp rr.1
    rw [upA_at, vx_at (by omega)] at this
    exact this.trans e
  have ad : X1_addPart 23 (nI w) 0 10 (-1) (At h k) = some (nI np, At (pH h np (nI w) 0 10 (-1)) k) := by
    rw [addP (c0 := 23) (np := np) (by rw [At_ne (by decide)]; exact e) hn, At_up (by decide), At_up (by decide), At_up (by decide), At_up (by decide), At_up (by decide)]
    rfl
  have l25 : lnX 25 = 10 := rfl
  have l26 : lnX 26 = 10 := rfl
  have l27 : lnX 27 = 10 := rfl
  unfold X3_readPart
  rw [ad, bnd_s]
  dsimp only
  rcases mayP (fu := fu) (w := 7) (c := 25) (x := np) (lo := 0) (hi := 255) (d := 0) (pH_TT (np := np) (a := nI w) (b := 0) (c := 10) (d := -1) t) s hk hf (by decide) (by decide) (by decide) (by rw [l25]; exact hn) (by rw [l25]; decide) pH_25 with ⟨k1, v1, g1, a1, a2, a3, a4, a5, a6, a7⟩ | ⟨k1, v1, g1, a2, a3, a4, a5, a6⟩
  · rw [a3, bnd_s, if_neg n10, a4, bnd_s, pH_b]
    dsimp only
    rw [r59]
    rcases mayP (fu := fu) (w := 8) (c := 26) (x := np) (lo := 1) (hi := 60) (d := 10) (pH_TT (np := np) (a := nI w) (b := v1) (c := 10) (d := -1) t) a5 a2 hf (by decide) (by decide) (by decide) (by rw [l26]; exact hn) (by rw [l26]; decide) pH_26 with ⟨k2, v2, g2, c1, c2, c3, c4, c5, c6, c7⟩ | ⟨k2, v2, g2, c2, c3, c4, c5, c6⟩
    · rw [c3, bnd_s, if_neg n10, c4, bnd_s, pH_c]
      dsimp only
      rw [r82]
      rcases mayP (fu := fu) (w := 9) (c := 27) (x := np) (lo := 0) (hi := 5) (d := -1) (pH_TT (np := np) (a := nI w) (b := v1) (c := v2) (d := -1) t) c5 c2 hf (by decide) (by decide) (by decide) (by rw [l27]; exact hn) (by rw [l27]; decide) pH_27 with ⟨k3, v3, g3, d1, d2, d3, d4, d5, d6, d7⟩ | ⟨k3, v3, g3, d2, d3, d4, d5, d6⟩
      · rw [d3, bnd_s, if_neg n10, d4, bnd_s, pH_d]
        dsimp only
        obtain ⟨g4, i1, i2, i3, i4⟩ := it_ok d5 (((gf.rd a6).rd c6).rd d6) hm (so_part er hn hw v1 v2 v3)
        rw [i1, bnd_s]
        left
        refine ⟨k3, _, g4, _, by omega, d2, rfl, rfl, pH_TT t, i2, pH_HF hh, i3, pH_R rr e hn ?_ ?_ ?_ ?_, ?_⟩
        · rw [ti_nI (by omega)]; omega
        · rcases a7 with q | q
          · rw [q]; decide
          · exact q
        · rcases c7 with q | q
          · rw [q]; decide
          · have : (1 : Int32).toInt = 1 := rfl
            have : (60 : Int32).toInt = 60 := rfl
            omega
        · rcases d7 with q | q
          · rw [q]; decide
          · have : (0 : Int32).toInt = 0 := rfl
            have : (5 : Int32).toInt = 5 := rfl
            omega
        · rw [i4, d6.1 19 (by decide) (by decide) (by decide) (by decide) (by decide), c6.1 19 (by decide) (by decide) (by decide) (by decide) (by decide), a6.1 19 (by decide) (by decide) (by decide) (by decide) (by decide), e19]
          unfold pH
          rw [up_eq]
      · rw [d3, bnd_s, if_pos rfl, d4, bnd_s]
        dsimp only
        obtain ⟨g4, i1, i2⟩ := it_wr (nI w) v1 v2 v3 d5 (((gf.rd a6).rd c6).rd d6) hm
        rw [i1, bnd_s]
        right
        exact ⟨k3, _, g4, d2, rfl, rfl, pH_TT t, pH_HF hh, i2⟩
    · rw [c3, bnd_s, if_pos rfl, c4, bnd_s]
      obtain ⟨g4, i1, i2⟩ := w82 (fu := fu) (nI w) v1 v2 c5 ((gf.rd a6).rd c6) hm
      right
      exact ⟨k2, _, g4, c2, rfl, i1, pH_TT t, pH_HF hh, i2⟩
  · rw [a3, bnd_s, if_pos rfl, a4, bnd_s]
    obtain ⟨g4, i1, i2⟩ := w59 (fu := fu) (nI w) v1 a5 (gf.rd a6) hm
    right
    exact ⟨k1, _, g4, a2, rfl, i1, pH_TT t, pH_HF hh, i2⟩
