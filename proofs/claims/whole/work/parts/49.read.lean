/-- the class's sort of the token from p on -/
def cS (b : Nat → Int32) (L p : Nat) : Int32 := if tkB b L p < L then sof b (tkB b L p) else 0
/-- the class's table of tokens -/
def TT (b : Nat → Int32) (L T : Nat) (h : Hp) : Prop := T ≤ L ∧ L ≤ 120 ∧ h 41 = b ∧ ¬ tkB b L (tp b L T) < L ∧ ∀ i, i ≤ T → (i < T → tkB b L (tp b L i) < L) ∧ h 43 i = cS b L (tp b L i) ∧ h 44 i = nI (tkB b L (tp b L i)) ∧ (cS b L (tp b L i) = 1 → h 45 i = nI (tkE b L (tp b L i) - tkB b L (tp b L i))) ∧ (cS b L (tp b L i) = 2 → h 45 i = tkV b L (tp b L i))
theorem TT.fr {b : Nat → Int32} {L T : Nat} {h h1 : Hp} (t : TT b L T h) (a : h1 41 = h 41) (c : h1 43 = h 43) (d : h1 44 = h 44) (e : h1 45 = h 45) : TT b L T h1 := by
  unfold TT
  rw [a, c, d, e]; exact t
theorem TT.up {b : Nat → Int32} {L T : Nat} {h : Hp} (t : TT b L T h) {c i : Nat} {v : Int32} (hc : c ≤ 33 ∨ c = 42) : TT b L T (up h c i v) := t.fr (up_ne (by omega)) (up_ne (by omega)) (up_ne (by omega)) (up_ne (by omega))
/-- the class stands at token k -/
def At (h : Hp) (k : Nat) : Hp := up h 42 6 (nI k)
theorem At_at (h : Hp) (k : Nat) : At h k 42 6 = nI k := up_eq
theorem At_ne {h : Hp} {k c : Nat} (hc : c ≠ 42) : At h k c = h c := up_ne hc
theorem upd_upd {f : Nat → Int32} {i : Nat} {v w : Int32} : upd (upd f i v) i w = upd f i w := by
  funext j
  unfold upd
  by_cases e : j = i
  · rw [if_pos e, if_pos e]
  · rw [if_neg e, if_neg e, if_neg e]
theorem upd_id {f : Nat → Int32} {i : Nat} {v : Int32} (e : f i = v) : upd f i v = f := by
  funext j
  unfold upd
  by_cases q : j = i
  · rw [if_pos q, q, e]
  · rw [if_neg q]
theorem up_up {h : Hp} {c i : Nat} {v w : Int32} : up (up h c i v) c i w = up h c i w := by
  funext q
  by_cases e : q = c
  · subst e; rw [up_at, up_at, up_at, upd_upd]
  · rw [up_ne e, up_ne e, up_ne e]
theorem up_id {h : Hp} {c i : Nat} {v : Int32} (e : h c i = v) : up h c i v = h := by
  funext q
  by_cases y : q = c
  · subst y; rw [up_at, upd_id e]
  · rw [up_ne y]
theorem up_cm {h : Hp} {c d i j : Nat} {v w : Int32} (n : c ≠ d) : up (up h c i v) d j w = up (up h d j w) c i v := by
  funext q
  by_cases e : q = c
  · subst e; rw [up_ne n, up_at, up_at, up_ne n]
  · by_cases y : q = d
    · subst y; rw [up_at, up_ne e, up_ne e, up_at]
    · rw [up_ne y, up_ne e, up_ne e, up_ne y]
theorem At_up {h : Hp} {k c i : Nat} {v : Int32} (hc : c ≠ 42) : up (At h k) c i v = At (up h c i v) k := up_cm (fun e => hc e.symm)
theorem At_At (h : Hp) (k j : Nat) : up (At h k) 42 6 (nI j) = At h j := up_up
/-- the token from p on is this word -/
def wd (b : Nat → Int32) (L p w : Nat) : Prop := cS b L p = 1 ∧ tkE b L p - tkB b L p = stL.getD w 0 ∧ ∀ i, i < stL.getD w 0 → b (tkB b L p + i) = schr w (nI i)
/-- the token from p on is a number from a to c -/
def nm (b : Nat → Int32) (L p : Nat) (a c : Int32) : Prop := cS b L p = 2 ∧ a ≤ tkV b L p ∧ tkV b L p ≤ c
theorem cS_lt {b : Nat → Int32} {L p : Nat} (h : cS b L p ≠ 0) : tkB b L p < L := by
  by_cases z : tkB b L p < L
  · exact z
  · unfold cS at h; rw [if_neg z] at h; exact absurd rfl h
theorem st_b {w : Nat} (hw : w < 14) : 0 < stL.getD w 0 ∧ stL.getD w 0 ≤ 8 := by
  have : ∀ w, w < 14 → 0 < stL.getD w 0 ∧ stL.getD w 0 ≤ 8 := by decide
  exact this w hw
theorem TT.lt {b : Nat → Int32} {L T : Nat} {h : Hp} (t : TT b L T h) {k : Nat} (hk : k ≤ T) (n : cS b L (tp b L k) ≠ 0) : k < T := by
  have := cS_lt n
  by_cases e : k = T
  · subst e; exact absurd this t.2.2.2.1
  · omega
theorem tkX33 {b : Nat → Int32} {L T : Nat} {h : Hp} (t : TT b L T h) {k w fu : Nat} (hk : k ≤ T) (hw : w < 14) (e : tkE b L (tp b L k) - tkB b L (tp b L k) = stL.getD w 0) : ∀ r i n, i + r = stL.getD w 0 → r < n → (((∀ j, i ≤ j → j < stL.getD w 0 → b (tkB b L (tp b L k) + j) = schr w (nI j)) ∧ X3_takes_33 fu w n (nI i) (At h k) = some (1, At h (k + 1))) ∨ ((¬ ∀ j, i ≤ j → j < stL.getD w 0 → b (tkB b L (tp b L k) + j) = schr w (nI j)) ∧ X3_takes_33 fu w n (nI i) (At h k) = some (0, At h k))) := by
  have sb := st_b hw
  obtain ⟨t1, t2, t3, t4, t5⟩ := t
  have tL := tkE_b (b := b) (tp_L (b := b) (L := L) k)
  have sl : slen w = nI (stL.getD w 0) := rfl
  intro r
  induction r with
  | zero =>
    intro i n hi hn
    obtain ⟨m, rfl⟩ : ∃ m, n = m + 1 := ⟨n - 1, by omega⟩
    left
    refine ⟨fun j a c => by omega, ?_⟩
    rw [X3_takes_33, sl, if_pos (nI_le (by omega) (by omega)), At_at, nI_1, At_At]
  | succ r ih =>
    intro i n hi hn
    obtain ⟨m, rfl⟩ : ∃ m, n = m + 1 := ⟨n - 1, by omega⟩
    have es : sin w (nI i) = true := inR_nI (by omega) (by omega)
    rw [X3_takes_33, sl, if_neg (nI_ge (by omega) (by omega)), At_at, ck_nI (by omega) (by decide), cl_nI (by omega), At_ne (by decide), (t5 k hk).2.2.1, nI_add, ck_nI (by omega) (by decide), es, chk_t, At_ne (by decide), t3, cl_nI (by omega), nI_1]
    by_cases z : b (tkB b L (tp b L k) + i) = schr w (nI i)
    · rw [if_pos z]
      rcases ih (i + 1) m (by omega) (by omega) with ⟨a, c⟩ | ⟨a, c⟩
      · left
        refine ⟨fun j h1 h2 => ?_, c⟩
        by_cases y : j = i
        · rw [y]; exact z
        · exact a j (by omega) h2
      · right
        exact ⟨fun q => a (fun j h1 h2 => q j (by omega) h2), c⟩
    · rw [if_neg z]
      right
      exact ⟨fun q => z (q i (Nat.le_refl i) (by omega)), rfl⟩
theorem tkX {b : Nat → Int32} {L T : Nat} {h : Hp} (t : TT b L T h) {k w fu : Nat} (hk : k ≤ T) (hw : w < 14) (hf : 20 ≤ fu) : (wd b L (tp b L k) w ∧ k < T ∧ X3_takes fu w (At h k) = some (1, At h (k + 1))) ∨ (¬ wd b L (tp b L k) w ∧ X3_takes fu w (At h k) = some (0, At h k)) := by
  have sb := st_b hw
  have t0 := t
  obtain ⟨t1, t2, t3, t4, t5⟩ := t
  have tL := tkE_b (b := b) (tp_L (b := b) (L := L) k)
  have sl : slen w = nI (stL.getD w 0) := rfl
  unfold X3_takes
  rw [At_at, ck_nI (by omega) (by decide), cl_nI (by omega), At_ne (by decide), (t5 k hk).2.1]
  by_cases z : cS b L (tp b L k) = 1
  · rw [if_pos z, ck_nI (by omega) (by decide), At_ne (by decide), (t5 k hk).2.2.2.1 z, sl]
    by_cases y : tkE b L (tp b L k) - tkB b L (tp b L k) = stL.getD w 0
    · rw [if_pos (by rw [y])]
      rcases tkX33 t0 (fu := fu) hk hw y (stL.getD w 0) 0 fu (by omega) (by omega) with ⟨a, c⟩ | ⟨a, c⟩
      · left
        exact ⟨⟨z, y, fun i hi => a i (Nat.zero_le i) hi⟩, t0.lt hk (by rw [z]; decide), c⟩
      · right
        exact ⟨fun q => a (fun j _ hj => q.2.2 j hj), c⟩
    · rw [if_neg (fun q => y ((nI_eq (by omega) (by omega)).mp q))]
      right
      exact ⟨fun q => y q.2.1, rfl⟩
  · rw [if_neg z]
    right
    exact ⟨fun q => z q.1, rfl⟩
theorem tnX {b : Nat → Int32} {L T : Nat} {h : Hp} (t : TT b L T h) {k : Nat} (hk : k ≤ T) (a c : Int32) : (nm b L (tp b L k) a c ∧ k < T ∧ X3_takeNumber a c (At h k) = some (tkV b L (tp b L k), At h (k + 1))) ∨ (¬ nm b L (tp b L k) a c ∧ X3_takeNumber a c (At h k) = some (-1, At h k)) := by
  have t0 := t
  obtain ⟨t1, t2, t3, t4, t5⟩ := t
  unfold X3_takeNumber
  simp only [At_at, nI_1, At_At, nI_pred, ck_nI (show k < 121 by omega) (show 121 < 2147483648 by decide), cl_nI (show k < 2147483648 by omega), At_ne (show (43 : Nat) ≠ 42 by decide), At_ne (show (45 : Nat) ≠ 42 by decide), (t5 k hk).2.1]
  by_cases z : cS b L (tp b L k) = 2
  · rw [if_pos z, (t5 k hk).2.2.2.2 z]
    by_cases y1 : tkV b L (tp b L k) < a
    · rw [if_pos y1]; right
      refine ⟨fun q => ?_, rfl⟩
      have := q.2.1
      rw [ti_le] at this; rw [ti_lt] at y1; omega
    · rw [if_neg y1]
      have y1' : a ≤ tkV b L (tp b L k) := by rw [ti_le]; rw [ti_lt] at y1; omega
      by_cases y2 : tkV b L (tp b L k) ≤ c
      · rw [if_pos y2]; left
        exact ⟨⟨z, y1', y2⟩, t0.lt hk (by rw [z]; decide), rfl⟩
      · rw [if_neg y2]; right
        exact ⟨fun q => y2 q.2.2, rfl⟩
  · rw [if_neg z]; right
    exact ⟨fun q => z q.1, rfl⟩
theorem nm_0 {b : Nat → Int32} {L p : Nat} {a c : Int32} (h : nm b L p a c) (ha : 0 ≤ a.toInt) : 0 ≤ tkV b L p := by
  have := h.2.1
  rw [ti_le] at this ⊢
  have : (0 : Int32).toInt = 0 := rfl
  omega
theorem tllX {b : Nat → Int32} {L T : Nat} {h : Hp} (t : TT b L T h) {k c x : Nat} (hk : k ≤ T) {lo hi : Int32} (hl : 0 ≤ lo.toInt) (hc : c ≠ 42) (hx : x < lnX c) (hx2 : lnX c < 2147483648) : (nm b L (tp b L k) lo hi ∧ k < T ∧ X3_tells c (nI x) lo hi (At h k) = some (1, At (up h c x (tkV b L (tp b L k))) (k + 1))) ∨ (¬ nm b L (tp b L k) lo hi ∧ X3_tells c (nI x) lo hi (At h k) = some (0, At h k)) := by
  unfold X3_tells
  rcases tnX t hk lo hi with ⟨a, d, e⟩ | ⟨a, e⟩
  · left
    refine ⟨a, d, ?_⟩
    rw [e, bnd_s, if_pos (nm_0 a hl), ck_nI hx hx2, cl_nI (by omega), At_up hc]
  · right
    refine ⟨a, ?_⟩
    rw [e, bnd_s, if_neg (show ¬ (0 : Int32) ≤ -1 by decide)]
theorem myX {b : Nat → Int32} {L T : Nat} {h : Hp} (t : TT b L T h) {k c x w fu : Nat} (hk : k ≤ T) (hw : w < 14) (hf : 20 ≤ fu) {lo hi : Int32} (hl : 0 ≤ lo.toInt) (hc : c ≠ 42) (hx : x < lnX c) (hx2 : lnX c < 2147483648) :
    (¬ wd b L (tp b L k) w ∧ X3_mayTell fu w c (nI x) lo hi (At h k) = some (1, At h k)) ∨
    (wd b L (tp b L k) w ∧ nm b L (tp b L (k + 1)) lo hi ∧ k + 1 < T ∧ X3_mayTell fu w c (nI x) lo hi (At h k) = some (1, At (up h c x (tkV b L (tp b L (k + 1)))) (k + 2))) ∨
    (wd b L (tp b L k) w ∧ ¬ nm b L (tp b L (k + 1)) lo hi ∧ k < T ∧ X3_mayTell fu w c (nI x) lo hi (At h k) = some (0, At h (k + 1))) := by
  unfold X3_mayTell
  rcases tkX t (fu := fu) hk hw hf with ⟨a, d, e⟩ | ⟨a, e⟩
  · right
    rw [e, bnd_s, if_neg n10]
    rcases tllX t (k := k + 1) (c := c) (x := x) (by omega) hl hc hx hx2 (hi := hi) with ⟨a1, d1, e1⟩ | ⟨a1, e1⟩
    · left
      refine ⟨a, a1, d1, ?_⟩
      rw [e1, bnd_s, if_neg n10]
    · right
      refine ⟨a, a1, d, ?_⟩
      rw [e1, bnd_s, if_pos rfl]
  · left
    refine ⟨a, ?_⟩
    rw [e, bnd_s, if_pos rfl]
