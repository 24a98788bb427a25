theorem bnd_eta {α β : Type} (x : Option (α × β)) : bnd x (fun r => some (r.1, r.2)) = x := by cases x <;> rfl
theorem HR.set1 {b k : Nat} {hx hm : Hp} (h : HR b k hx hm) {f i : Nat} (v0 : vl f i) (v : Int32) : HR b k (up hx (b + f) i v) (up hm k (ix f i) v) := by
  intro f1 i1 v1
  by_cases e : f1 = f ∧ i1 = i
  · obtain ⟨rfl, rfl⟩ := e
    rw [up_eq, up_eq]
  · rw [up_ni (h := hm) (fun q => e (ix_inj v1 v0 q.2)), up_ni (h := hx) (fun q => e ⟨by omega, q.2⟩)]
    exact h f1 i1 v1
theorem HR.oth {b k : Nat} {hx hm : Hp} (h : HR b k hx hm) {c i q j : Nat} {v w : Int32} (hc : c < b ∨ b + 10 < c) (hk : q ≠ k) : HR b k (up hx c i v) (up hm q j w) :=
  h.frame (fun f hf => up_ne (by omega)) (up_ne (fun e => hk e.symm))
theorem HR.rX {b k : Nat} {hx hm : Hp} (h : HR b k hx hm) {c i : Nat} {v : Int32} (hc : c < b ∨ b + 10 < c) : HR b k (up hx c i v) hm :=
  h.frame (fun f hf => up_ne (by omega)) rfl
theorem HI.oth {b : Nat} {hx : Hp} (h : HI b hx) {c i : Nat} {v : Int32} (hc : c < b ∨ b + 10 < c) : HI b (up hx c i v) := h.frame (fun f hf => up_ne (by omega))
theorem HI.set1 {b : Nat} {hx : Hp} (h : HI b hx) {f i : Nat} (v0 : vl f i) {v : Int32} (hv : loH f i ≤ v.toInt ∧ v.toInt ≤ hiH f i) (hs : (f = 0 → i = 13 ∨ i = 14) ∧ f ≠ 8 ∧ f ≠ 9 ∧ (f = 10 → v.toInt < (hx b 10).toInt)) : HI b (up hx (b + f) i v) := by
  have r : ∀ f1 i1, ¬ (f1 = f ∧ i1 = i) → up hx (b + f) i v (b + f1) i1 = hx (b + f1) i1 := fun f1 i1 e => up_ni (fun q => e ⟨by omega, q.2⟩)
  have r0 : ∀ i1, i1 = 10 ∨ i1 = 11 ∨ i1 = 12 → up hx (b + f) i v b i1 = hx b i1 := fun i1 e => r 0 i1 (fun q => by have := hs.1 q.1.symm; omega)
  refine ⟨fun f1 i1 v1 => ?_, fun v1 hv1 => ?_, fun v1 p hv1 hp q => ?_, fun s hs1 => ?_⟩
  · by_cases e : f1 = f ∧ i1 = i
    · obtain ⟨rfl, rfl⟩ := e
      rw [up_eq]; exact hv
    · rw [r f1 i1 e]; exact h.1 f1 i1 v1
  · rw [r 8 v1 (fun q => hs.2.1 q.1.symm), r0 12 (by omega)]; exact h.2.1 v1 hv1
  · rw [r0 11 (by omega), r0 10 (by omega)] at q
    rw [r 9 _ (fun q => hs.2.2.1 q.1.symm)]; exact h.2.2.1 v1 p hv1 hp q
  · rw [r0 10 (by omega)]
    by_cases e : 10 = f ∧ s = i
    · obtain ⟨rfl, rfl⟩ := e
      rw [up_eq]; exact hs.2.2.2 rfl
    · rw [r 10 s e]; exact h.2.2.2 s hs1
/-- one place of the house and of the row anew -/
theorem R.up1 {hx hm : Hp} (h : R hx hm) {f i : Nat} (v0 : vl f i) {v : Int32} (hv : loH f i ≤ v.toInt ∧ v.toInt ≤ hiH f i) (hs : (f = 0 → i = 13 ∨ i = 14) ∧ f ≠ 8 ∧ f ≠ 9 ∧ (f = 10 → v.toInt < (hx 1 10).toInt)) : R (up hx (1 + f) i v) (up hm 1 (ix f i) v) := by
  obtain ⟨h1, h2, h3, h4, h5, h6⟩ := h
  have hf := (vl_b v0).1
  refine ⟨h1.set1 v0 v, h2.set1 v0 hv hs, ⟨?_, ?_⟩, ?_, ?_, ?_⟩
  · rw [up_ne (by omega), up_ne (by omega)]; exact h3.1
  · rw [up_ne (by omega)]
    rcases h3.2 with q | ⟨q, r, t⟩
    · exact Or.inl q
    · exact Or.inr ⟨q, r.oth (by omega) (by omega), t.oth (by omega)⟩
  · unfold TR
    rw [up_ne (by omega), up_ne (by omega), up_ne (by omega), up_ne (by omega)]; exact h4
  · intro s hs
    rw [up_ne (by omega), up_ne (by omega), up_ne (by omega), up_ne (by omega), up_ne (by omega)]; exact h5 s hs
  · unfold CR
    rw [up_ne (by omega), up_ne (by omega)]; exact h6
theorem fnd {hx hm : Hp} (h : R hx hm) (k : Nat) (hk : k < 7) (t : Int32) (ht : (-1000001 : Int32) - t = nI k) : Eqv (X7_finding t hx) (X8_finding t hm) := by
  have e1 : X7_finding t hx = some (t, up hx 55 k (hx 55 k + 1)) := by
    unfold X7_finding
    rw [ht]
    rcases wn (nI k) (M := 6) 7 (by decide) (by decide) with ⟨a, b⟩ | ⟨p, a, b, c⟩
    · exact absurd rfl (b k hk)
    · rw [c, if_neg (by decide), ck_nI hk (by decide), ck_nI hk (by decide), cl_nI (by omega)]
  have e2 : X8_finding t hm = some (t, up (up hm 4 (k + 1) (hm 4 (k + 1) + 1)) 4 0 (up hm 4 (k + 1) (hm 4 (k + 1) + 1) 4 0 + 1)) := by
    unfold X8_finding
    rw [ht, nI_1, ck_nI (by omega) (by decide), ck_nI (by omega) (by decide), cl_nI (by omega)]
  obtain ⟨h1, h2, h3, h4, h5, h6⟩ := h
  refine ⟨_, _, _, e1, e2, ?_, ?_, ⟨?_, ?_⟩, ?_, ?_, ?_, ?_⟩
  · exact h1.frame (fun f hf => up_ne (by omega)) (by rw [up_ne (by omega), up_ne (by omega)])
  · exact h2.oth (by omega)
  · rw [up_ne (by omega), up_ne (by omega), up_ne (by omega)]; exact h3.1
  · rw [up_ne (by omega)]
    rcases h3.2 with q | ⟨q, r, t⟩
    · exact Or.inl q
    · exact Or.inr ⟨q, r.frame (fun f hf => up_ne (by omega)) (by rw [up_ne (by omega), up_ne (by omega)]), t.oth (by omega)⟩
  · unfold TR
    rw [up_ne (by omega), up_ne (by omega), up_ne (by omega), up_ne (by omega), up_ne (by omega), up_ne (by omega)]; exact h4
  · intro s hs
    rw [up_ne (by omega), up_ne (by omega), up_ne (by omega), up_ne (by omega), up_ne (by omega), up_ne (by omega), up_ne (by omega), up_ne (by omega)]; exact h5 s hs
  · intro i hi
    rw [up_ni (by omega)]
    by_cases e : i = k
    · subst e; rw [up_eq, up_eq, h6.1 i hi]
    · rw [up_ni (by omega), up_ni (by omega)]; exact h6.1 i hi
  · rw [up_eq, up_ni (by omega), h6.2]
    rcases (show k = 0 ∨ k = 1 ∨ k = 2 ∨ k = 3 ∨ k = 4 ∨ k = 5 ∨ k = 6 by omega) with rfl | rfl | rfl | rfl | rfl | rfl | rfl
    all_goals simp only [up_eq, up_at, upd]
    all_goals simp
    all_goals ac_rfl
theorem fB {hx hm : Hp} (h : R hx hm) : Eqv (bnd (X7_finding (-1000001 : Int32) hx) (fun r => some (r.1, r.2))) (bnd (X8_finding (-1000001 : Int32) hm) (fun r => some (r.1, r.2))) := by rw [bnd_eta, bnd_eta]; exact fnd h 0 (by decide) _ (by decide)
theorem fF {hx hm : Hp} (h : R hx hm) : Eqv (bnd (X7_finding (-1000002 : Int32) hx) (fun r => some (r.1, r.2))) (bnd (X8_finding (-1000002 : Int32) hm) (fun r => some (r.1, r.2))) := by rw [bnd_eta, bnd_eta]; exact fnd h 1 (by decide) _ (by decide)
theorem fK {hx hm : Hp} (h : R hx hm) : Eqv (bnd (X7_finding (-1000003 : Int32) hx) (fun r => some (r.1, r.2))) (bnd (X8_finding (-1000003 : Int32) hm) (fun r => some (r.1, r.2))) := by rw [bnd_eta, bnd_eta]; exact fnd h 2 (by decide) _ (by decide)
theorem fN {hx hm : Hp} (h : R hx hm) : Eqv (bnd (X7_finding (-1000004 : Int32) hx) (fun r => some (r.1, r.2))) (bnd (X8_finding (-1000004 : Int32) hm) (fun r => some (r.1, r.2))) := by rw [bnd_eta, bnd_eta]; exact fnd h 3 (by decide) _ (by decide)
theorem fS {hx hm : Hp} (h : R hx hm) : Eqv (bnd (X7_finding (-1000005 : Int32) hx) (fun r => some (r.1, r.2))) (bnd (X8_finding (-1000005 : Int32) hm) (fun r => some (r.1, r.2))) := by rw [bnd_eta, bnd_eta]; exact fnd h 4 (by decide) _ (by decide)
theorem fQ {hx hm : Hp} (h : R hx hm) : Eqv (bnd (X7_finding (-1000006 : Int32) hx) (fun r => some (r.1, r.2))) (bnd (X8_finding (-1000006 : Int32) hm) (fun r => some (r.1, r.2))) := by rw [bnd_eta, bnd_eta]; exact fnd h 5 (by decide) _ (by decide)
theorem fZ {hx hm : Hp} (h : R hx hm) : Eqv (bnd (X7_finding (-1000007 : Int32) hx) (fun r => some (r.1, r.2))) (bnd (X8_finding (-1000007 : Int32) hm) (fun r => some (r.1, r.2))) := by rw [bnd_eta, bnd_eta]; exact fnd h 6 (by decide) _ (by decide)
theorem n10 : ¬ (1 : Int32) = 0 := by decide
theorem become_nI {k : Nat} (hk : k < 117) (v : Int32) (hm : Hp) : X8_become (nI k) v hm = some (hm 1 k, up hm 1 k v) := by
  unfold X8_become
  rw [ck_nI hk (by decide), ck_nI hk (by decide), cl_nI (by omega)]
theorem at_nI (p f : Nat) : X8_at (nI p) (nI f) = nI (33 + 4 * p + f) := by
  unfold X8_at
  rw [show (33 : Int32) = nI 33 from rfl, show (4 : Int32) = nI 4 from rfl, pk_mul, nI_add, nI_add]
theorem o_pace {hx hm : Hp} (h : R hx hm) (x : Int32) : Eqv (X7_pace x hx) (X8_pace x hm) := by
  unfold X7_pace X8_pace
  rw [w8]
  rcases wr x 1 20 with ⟨a, b⟩ | ⟨a, b, c⟩
  · rw [if_pos a, if_pos a]; exact fB h
  · rw [a, if_neg n10, if_neg n10, show X8_become (1 : Int32) x hm = _ from become_nI (k := 1) (by decide) x hm]
    refine ⟨_, _, _, rfl, ?_, h.up1 (f := 0) (i := 13) (Or.inl ⟨rfl, by omega, by omega⟩) (v := x) ⟨b, c⟩ ⟨fun _ => Or.inl rfl, by omega, by omega, by omega⟩⟩
    rw [← h.1 0 13 (Or.inl ⟨rfl, by omega, by omega⟩)]
    rfl
theorem o_seed {hx hm : Hp} (h : R hx hm) (x : Int32) : Eqv (X7_seed x hx) (X8_seed x hm) := by
  unfold X7_seed X8_seed
  rw [show X8_become (4 : Int32) x hm = _ from become_nI (k := 4) (by decide) x hm]
  refine ⟨_, _, _, rfl, ?_, h.up1 (f := 0) (i := 14) (Or.inl ⟨rfl, by omega, by omega⟩) (v := x) ⟨Int32.le_toInt x, by have := Int32.toInt_lt x; show _ ≤ (2147483647 : Int); omega⟩ ⟨fun _ => Or.inr rfl, by omega, by omega, by omega⟩⟩
  rw [← h.1 0 14 (Or.inl ⟨rfl, by omega, by omega⟩)]
  rfl
