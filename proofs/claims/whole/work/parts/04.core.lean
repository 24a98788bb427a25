abbrev Hp : Type := Nat → Nat → Int32
def up (h : Hp) (k i : Nat) (v : Int32) : Hp := fun q => if q = k then upd (h k) i v else h q
/-- a whole row of a cell anew -/
def upA (h : Hp) (k : Nat) (f : Nat → Int32) : Hp := fun q => if q = k then f else h q
def gT : List Cond := lw_tbl.filter goodWord
theorem gT_in {w : Cond} (h : w ∈ lw_tbl) (g : goodWord w = true) : w ∈ gT := List.mem_filter.mpr ⟨h, g⟩
theorem gT_good : GoodIn gT gT := fun w h => ⟨h, good_of_word (List.mem_filter.mp h).2⟩
theorem gT_code {y : MethodName} {cc : ByteArray} {n : Nat} {ret : Option FieldType} (h : Cond.code y cc n ret ∈ gT) : GoodIn gT (Cond.code y cc n ret :: gT) := by
  intro w hw
  rcases List.mem_cons.mp hw with e | e
  · rw [e]; exact gT_good _ h
  · exact gT_good _ e
/-- addresses and numbers that a world rests on: classes, places, array classes, statics, Strings -/
abbrev Gl : Type := va_G × (Nat → Nat) × (Nat → ClassId) × (Nat → Nat) × (Nat → Nat) × (Nat → Nat)
abbrev rf (g : Gl) (k : Nat) : Value := .ref (g.2.1 k)
def tyG (g : Gl) : List (ClassId × FieldType) := [(g.2.2.1 0, .int), (g.2.2.1 1, .byte), (g.2.2.1 2, .object "SameHeads$Sheet"), (g.2.2.1 3, .object "java/lang/String")]
def LTr (j : Nat) : Int32 := ([0, 0, 1, -1] : List Int32).getD j 0
def MTr (j : Nat) : Int32 := ([6, 255, 60, 5] : List Int32).getD j 0
def ABv (j : Nat) : Int32 := ([-1, 0, 1, 2, 0, 0, 5] : List Int32).getD j 0

def stL : List Nat := [4, 4, 6, 7, 4, 5, 6, 5, 3, 2, 4, 6, 4, 4]
def stB : List (List Int32) := [[112, 97, 114, 116], [104, 101, 97, 100], [119, 105, 103, 103, 101, 100], [99, 114, 111, 119, 110, 101, 100], [98, 111, 100, 121], [104, 97, 110, 100, 115], [103, 108, 111, 118, 101, 100], [108, 111, 111, 107, 115], [119, 97, 120], [105, 110], [102, 97, 99, 101], [99, 104, 97, 110, 99, 101], [115, 104, 111, 119], [112, 97, 99, 101]]
def stR : List (String × Nat × String × Nat) := [("SameHeads$Reader", 103, "head", 1), ("SameHeads$Reader", 105, "wigged", 2), ("SameHeads$Reader", 107, "crowned", 3), ("SameHeads$Reader", 109, "body", 4), ("SameHeads$Reader", 111, "hands", 5), ("SameHeads$Reader", 113, "gloved", 6), ("SameHeads$Reader", 115, "part", 0), ("SameHeads$Reader", 121, "looks", 7), ("SameHeads$Reader", 129, "wax", 8), ("SameHeads$Reader", 133, "in", 9), ("SameHeads$Reader", 88, "face", 10), ("SameHeads$Reader", 151, "chance", 11), ("SameHeads$Reader", 93, "show", 12), ("SameHeads$Reader", 98, "pace", 13), ("SameHeadsModel", 30, "part", 0), ("SameHeadsModel", 32, "head", 1), ("SameHeadsModel", 34, "wigged", 2), ("SameHeadsModel", 36, "crowned", 3), ("SameHeadsModel", 38, "body", 4), ("SameHeadsModel", 40, "hands", 5), ("SameHeadsModel", 42, "gloved", 6), ("SameHeadsModel", 300, "looks", 7), ("SameHeadsModel", 308, "wax", 8), ("SameHeadsModel", 310, "in", 9), ("SameHeadsModel", 316, "face", 10), ("SameHeadsModel", 318, "chance", 11), ("SameHeadsModel", 320, "show", 12), ("SameHeadsModel", 322, "pace", 13)]
def neR : List (String × Nat × MethodName × String) := [("SameHeads", 24, ⟨"SameHeads$Givings", "<init>", "()V"⟩, "SameHeads"), ("SameHeads", 31, ⟨"SameHeads$Tellings", "<init>", "()V"⟩, "SameHeads"), ("SameHeads", 38, ⟨"SameHeads$Tape", "<init>", "()V"⟩, "SameHeads"), ("SameHeads", 62, ⟨"SameHeads$Sheet", "<init>", "()V"⟩, "SameHeads"), ("SameHeads$House", 70, ⟨"SameHeads", "within", "(III)Z"⟩, "SameHeads"), ("SameHeads$House", 93, ⟨"SameHeads", "isFace", "(I)Z"⟩, "SameHeads"), ("SameHeads$House", 103, ⟨"SameHeads", "isRoom", "(I)Z"⟩, "SameHeads"), ("SameHeads$Givings", 64, ⟨"SameHeads", "isFace", "(I)Z"⟩, "SameHeads"), ("SameHeads$Reader", 141, ⟨"SameHeads", "isFace", "(I)Z"⟩, "SameHeads"), ("SameHeads$Reader", 155, ⟨"SameHeads", "isRoom", "(I)Z"⟩, "SameHeads")]
/-- what holds of statics, String constants and nest mates, and stays -/
def SX (g : Gl) (A : Nat → Prop) (U : State) (H : Heap) : Prop :=
  (va_Z "SameHeads" "LEAST_TRAIT" "[I" (.ref (g.2.2.2.1 0)) A U H ∧ va_T .int (g.2.2.2.1 0) 4 (fun j => .int (LTr j)) A U H) ∧
  (va_Z "SameHeads" "MOST_TRAIT" "[I" (.ref (g.2.2.2.1 1)) A U H ∧ va_T .int (g.2.2.2.1 1) 4 (fun j => .int (MTr j)) A U H) ∧
  (va_Z "SameHeads$Kinds" "ABOVE" "[I" (.ref (g.2.2.2.1 2)) A U H ∧ va_T .int (g.2.2.2.1 2) 7 (fun j => .int (ABv j)) A U H) ∧
  va_Z "java/lang/String" "COMPACT_STRINGS" "Z" (.int 1) A U H ∧
  va_Zq "jdk/internal/util/Preconditions" "SIOOBE_FORMATTER" "Ljava/util/function/BiFunction;" A U H ∧
  vk_S 14 stL stB g.2.2.2.2.1 g.2.2.2.2.2 A U H ∧
  (∀ q ∈ stR, vk_R q.1 q.2.1 q.2.2.1 (g.2.2.2.2.1 q.2.2.2) U) ∧
  (∀ q ∈ neR, va_Nw (.methodLinkNest q.1 q.2.1 q.2.2.1 q.2.2.2) U)
theorem SX.go {g : Gl} {A A1 : Nat → Prop} {s U : State} {H : Heap} {locs : List Loc} (h : SX g A s s.heap) (hS : va_S A s.heap H locs) (hW : s.WarmedH U.vm) (hH : U.heap = H) (hA : ∀ q, A1 q → A q) : SX g A1 U U.heap := by
  obtain ⟨⟨a1, a2⟩, ⟨b1, b2⟩, ⟨c1, c2⟩, d1, f1, k1, k2, k3⟩ := h
  have hq : ∀ a : Nat, a < s.heap.size → ¬ A a → H[a]? = s.heap[a]? := fun a p q => hS.2.1 a p q
  have hv := hW.alike
  rw [hH]
  exact ⟨⟨((a1.kept hq).moved hv).narrow hA, ((a2.kept hq).moved hv).narrow hA⟩, ⟨((b1.kept hq).moved hv).narrow hA, ((b2.kept hq).moved hv).narrow hA⟩, ⟨((c1.kept hq).moved hv).narrow hA, ((c2.kept hq).moved hv).narrow hA⟩, ((d1.kept hq).moved hv).narrow hA, ((f1.kept hq).moved hv).narrow hA, ((k1.kept hq).moved hv).narrow hA, fun q hq => (k2 q hq).warm hW, fun q hq => va_Nw.warmM hW (k3 q hq)⟩
theorem SX.same {g : Gl} {A : Nat → Prop} {u U : State} {H : Heap} (hv : U.vm = u.vm) (h : SX g A u H) : SX g A U H := by
  obtain ⟨⟨a1, a2⟩, ⟨b1, b2⟩, ⟨c1, c2⟩, d1, f1, k1, k2, k3⟩ := h
  have hl : u.vm.Alike U.vm := by rw [hv]; exact Vm.Alike.refl u.vm
  exact ⟨⟨a1.moved hl, a2.moved hl⟩, ⟨b1.moved hl, b2.moved hl⟩, ⟨c1.moved hl, c2.moved hl⟩, d1.moved hl, f1.moved hl, k1.moved hl, fun q hq => (k2 q hq).same hv, fun q hq => va_Nw.same rfl hv.symm (k3 q hq)⟩
/-- the values of the locals, by place -/
def nth {α : Type} : List α → Nat → Option α
  | [], _ => none
  | a :: _, 0 => some a
  | _ :: t, n + 1 => nth t n
def setN : List (Option Value) → Nat → Value → List (Option Value)
  | [], 0, v => [some v]
  | [], n + 1, v => none :: setN [] n v
  | _ :: t, 0, v => some v :: t
  | a :: t, n + 1, v => a :: setN t n v
theorem nth_set (L : List (Option Value)) (i : Nat) (v : Value) : ∀ (j : Nat) (u : Value), nth (setN L i v) j = some (some u) → (j = i ∧ u = v) ∨ (j ≠ i ∧ nth L j = some (some u)) := by
  induction L generalizing i with
  | nil =>
    induction i with
    | zero =>
      intro j u hj
      cases j with
      | zero => left; refine ⟨rfl, ?_⟩; have : some (some v) = some (some u) := hj; injection this with this; injection this with this; exact this.symm
      | succ j => cases hj
    | succ i ih =>
      intro j u hj
      cases j with
      | zero => cases hj
      | succ j =>
        rcases ih j u hj with ⟨e, f⟩ | ⟨e, f⟩
        · left; exact ⟨by omega, f⟩
        · cases j <;> cases f
  | cons a t ih =>
    cases i with
    | zero =>
      intro j u hj
      cases j with
      | zero => left; refine ⟨rfl, ?_⟩; have : some (some v) = some (some u) := hj; injection this with this; injection this with this; exact this.symm
      | succ j => right; exact ⟨by omega, hj⟩
    | succ i =>
      intro j u hj
      cases j with
      | zero => right; exact ⟨by omega, hj⟩
      | succ j =>
        rcases ih i j u hj with ⟨e, f⟩ | ⟨e, f⟩
        · left; exact ⟨by omega, f⟩
        · right; exact ⟨by omega, f⟩
def hasL (ls : Array Slot) (nL : Nat) (L : List (Option Value)) : Prop := ls.size = nL ∧ lv_wf ls ∧ ∀ i v, nth L i = some (some v) → ls[i]? = some (.val v) ∧ v.category = 1
def toLv : Nat → List (Option Value) → List (Nat × Value)
  | _, [] => []
  | k, none :: t => toLv (k + 1) t
  | k, some v :: t => (k, v) :: toLv (k + 1) t
theorem toLv_in (L : List (Option Value)) : ∀ (k : Nat) (q : Nat × Value), q ∈ toLv k L ↔ ∃ j, q.1 = k + j ∧ nth L j = some (some q.2) := by
  induction L with
  | nil => intro k q; constructor <;> intro h; cases h; obtain ⟨j, _, h⟩ := h; cases h
  | cons a t ih =>
    intro k q
    cases a with
    | none =>
      show q ∈ toLv (k + 1) t ↔ _
      rw [ih (k + 1) q]
      constructor
      · rintro ⟨j, e, f⟩; exact ⟨j + 1, by omega, f⟩
      · rintro ⟨j, e, f⟩
        cases j with
        | zero => cases f
        | succ j => exact ⟨j, by omega, f⟩
    | some v =>
      show q ∈ (k, v) :: toLv (k + 1) t ↔ _
      rw [List.mem_cons, ih (k + 1) q]
      constructor
      · rintro (e | ⟨j, e, f⟩)
        · exact ⟨0, by rw [e]; rfl, by rw [e]; rfl⟩
        · exact ⟨j + 1, by omega, f⟩
      · rintro ⟨j, e, f⟩
        cases j with
        | zero => left; have : some (some v) = some (some q.2) := f; injection this with this; injection this with this; exact Prod.ext (by simpa using e) this.symm
        | succ j => right; exact ⟨j, by omega, f⟩
theorem hasL.lv {ls : Array Slot} {nL : Nat} {L : List (Option Value)} (h : hasL ls nL L) : lv_has ls nL (toLv 0 L) := ⟨h.1, h.2.1, fun q hq => by
  obtain ⟨j, e, f⟩ := (toLv_in L 0 q).mp hq
  rw [show q.1 = j by omega]
  exact (h.2.2 j q.2 f).1⟩
theorem hasL.set {ls ls1 : Array Slot} {nL i : Nat} {L : List (Option Value)} {v : Value} (h : hasL ls nL L) (hv : v.category = 1) (h1 : lv_has ls1 nL ((i, v) :: (toLv 0 L).filter (fun q => !(q.1 == i) && !(q.1 + 1 == i && q.2.category == 2)))) : hasL ls1 nL (setN L i v) := by
  refine ⟨h1.1, h1.2.1, fun j u hj => ?_⟩
  rcases nth_set L i v j u hj with ⟨e, f⟩ | ⟨e, f⟩
  · subst e; subst f; exact ⟨h1.2.2 _ List.mem_cons_self, hv⟩
  · have hc := (h.2.2 j u f).2
    refine ⟨h1.2.2 (j, u) (List.mem_cons_of_mem _ (List.mem_filter.mpr ⟨(toLv_in L 0 (j, u)).mpr ⟨j, by simp, f⟩, ?_⟩)), hc⟩
    simp [e, hc]
/-- fewer known locals -/
def subL : List (Option Value) → List (Option Value) → Prop
  | [], _ => True
  | none :: t, [] => subL t []
  | none :: t, _ :: q => subL t q
  | some _ :: _, [] => False
  | some v :: t, b :: q => b = some v ∧ subL t q
theorem subL_nth : ∀ (L1 L : List (Option Value)), subL L1 L → ∀ (i : Nat) (v : Value), nth L1 i = some (some v) → nth L i = some (some v) := by
  intro L1
  induction L1 with
  | nil => intro L _ i v h; cases h
  | cons a t ih =>
    intro L hs i v h
    cases a with
    | none =>
      cases L with
      | nil =>
        cases i with
        | zero => cases h
        | succ i => have := ih [] hs i v h; cases this
      | cons b q =>
        cases i with
        | zero => cases h
        | succ i => exact ih q hs i v h
    | some u =>
      cases L with
      | nil => exact absurd hs (fun q => q)
      | cons b q =>
        cases i with
        | zero => have h1 : some (some u) = some (some v) := h; rw [← h1]; show some b = _; rw [hs.1]
        | succ i => exact ih q hs.2 i v h
theorem hasL.sub {ls : Array Slot} {nL : Nat} {L L1 : List (Option Value)} (h : hasL ls nL L) (hs : subL L1 L) : hasL ls nL L1 := ⟨h.1, h.2.1, fun i v hi => h.2.2 i v (subL_nth L1 L hs i v hi)⟩
theorem args_in (vs : List Value) (hc : ∀ v ∈ vs, v.category = 1) : ∀ (k i : Nat) (v : Value), nth (vs.map some) i = some (some v) → (k + i, v) ∈ lv_args k vs := by
  induction vs with
  | nil => intro k i v h; cases h
  | cons a t ih =>
    intro k i v h
    have ha : a.category = 1 := hc a List.mem_cons_self
    show _ ∈ (k, a) :: lv_args (if a.category = 2 then k + 2 else k + 1) t
    rw [if_neg (by omega)]
    cases i with
    | zero => have h1 : some (some a) = some (some v) := h; injection h1 with h1; injection h1 with h1; rw [h1]; exact List.mem_cons_self
    | succ i =>
      have := ih (fun v hv => hc v (List.mem_cons_of_mem _ hv)) (k + 1) i v h
      rw [show k + 1 + i = k + (i + 1) by omega] at this
      exact List.mem_cons_of_mem _ this
theorem nth_in {α : Type} : ∀ (l : List α) (i : Nat) (a : α), nth l i = some a → a ∈ l := by
  intro l
  induction l with
  | nil => intro i a h; cases h
  | cons b t ih =>
    intro i a h
    cases i with
    | zero => have h1 : some b = some a := h; injection h1 with h1; rw [h1]; exact List.mem_cons_self
    | succ i => exact List.mem_cons_of_mem _ (ih i a h)
theorem hasL_entry (vs : List Value) {n : Nat} (hc : ∀ v ∈ vs, v.category = 1) (hn : (lg_sl vs).length ≤ n) : hasL ((lg_sl vs ++ List.replicate (n - (lg_sl vs).length) Slot.unset).toArray) n (vs.map some) := by
  have h := lv_entry vs hn
  refine ⟨h.1, h.2.1, fun i v hi => ⟨?_, ?_⟩⟩
  · have := args_in vs hc 0 i v hi
    rw [Nat.zero_add] at this
    exact h.2.2 (i, v) this
  · obtain ⟨u, hu, e⟩ := List.mem_map.mp (nth_in _ _ _ hi)
    injection e with e
    rw [← e]; exact hc u hu
def rmd (d : Nat) : Room := { frames := d, cells := 0, slots := 0, locals := 64 * d }
abbrev Fx : Type := Program × Launch × Env × State × MethodId × Array Value × List Frame × Method × Code × (Nat → Prop)
abbrev QT : Type := Gl → (Nat → Prop) → Array Value → State → Outcome → State → Prop
def Ok (x : Fx) (g : Gl) (own : String) (cc : ByteArray) (nL : Nat) (ret : Option FieldType) : Prop := match x with
  | (p, _, _, s, m, args, _, meth, c, A) => p.tables.exec = Jvm.exec ∧ c.code = cc ∧ c.maxLocals = nL ∧ meth.sig.returnType = ret ∧ s.vm.findClass own = some m.cls ∧ (∀ w ∈ gT, w.before args s = true) ∧ meth.locks = false ∧ va_K g.1 vwCl (tyG g) s ∧ (∀ q, s.heap.size ≤ q → A q) ∧ SX g A s s.heap
def J {ρ : Type} (x : Fx) (g : Gl) (cw : Gl → Hp → va_W) (nL dR : Nat) (QR : ρ → QT) (pc : Nat) (L : List (Option Value)) (st : List Value) (h : Hp) (E : Option ρ) : Prop := match x with
  | (p, l, e, s, m, args, below, meth, c, A) => ∀ r, E = some r → ∀ (H : Heap) (locs : List Loc) (ls : Array Slot), va_P g.1 vwCl (cw g h) H → va_D A (cw g h) → va_S A s.heap H locs → hasL ls nL L → W p l e (rmd dR) s m args below meth c H locs 0 0 (MQ below (QR r g A) args s 0 0 A) (F0 m pc ls st)
def inR (i : Int32) (n : Nat) : Bool := decide (0 ≤ i) && decide (i.toNatClampNeg < n)
theorem inR_vp {i : Int32} {n : Nat} (h : inR i n = true) : vp_in i n := by
  unfold inR at h
  rw [Bool.and_eq_true, decide_eq_true_eq, decide_eq_true_eq] at h
  rintro (q | q)
  · exact Int32.not_lt.mpr h.1 q
  · omega
def chk {α : Type} (b : Bool) (x : Option α) : Option α := match b with
  | true => x
  | false => none
theorem chk_some {α : Type} {b : Bool} {x : Option α} {r : α} (h : chk b x = some r) : b = true ∧ x = some r := by
  cases b with
  | true => exact ⟨rfl, h⟩
  | false => cases h
def bnd {α ρ : Type} (x : Option α) (k : α → Option ρ) : Option ρ := match x with
  | some a => k a
  | none => none
theorem bnd_some {α ρ : Type} {x : Option α} {k : α → Option ρ} {r : ρ} (h : bnd x k = some r) : ∃ a, x = some a ∧ k a = some r := by
  cases x with
  | some a => exact ⟨a, rfl, h⟩
  | none => cases h
/-- a division's divisor -/
def nz (y : Int32) : Bool := !decide (y = 0)
theorem nz_ne {y : Int32} (h : nz y = true) : ¬ y = 0 := by
  unfold nz at h
  simpa using h
def wE (g : Gl) (cw : Gl → Hp → va_W) (A : Nat → Prop) (u : Hp) (t : State) : Prop := va_P g.1 vwCl (cw g u) t.heap ∧ va_K g.1 vwCl (tyG g) t ∧ va_D A (cw g u)
def qI (cw : Gl → Hp → va_W) (v : Int32) (u : Hp) : QT := fun g A => va_Qi (fun (r : Int32) (q : Hp) => r = v ∧ q = u) (wE g cw A) A
def qZ (cw : Gl → Hp → va_W) (v : Int32) (u : Hp) : QT := fun g A => va_Qi (fun (r : Int32) (q : Hp) => r = v ∧ q = u ∧ (v = 0 ∨ v = 1)) (wE g cw A) A
def qV (cw : Gl → Hp → va_W) (u : Hp) : QT := fun g A => va_Qv (fun (q : Hp) => q = u) (wE g cw A) A
/-- an answer that is a place, or null -/
def qR (cw : Gl → Hp → va_W) (v : Gl → Option Nat) (u : Hp) : QT := fun g A => va_Qq (fun (r : Option Nat) (q : Hp) => r = v g ∧ q = u) (wE g cw A) A
def PreX (g : Gl) (cw : Gl → Hp → va_W) (h : Hp) (sz : Nat) (U : State) : Prop := U.heap.size = sz ∧ va_P g.1 vwCl (cw g h) U.heap ∧ va_K g.1 vwCl (tyG g) U ∧ va_D (fun _ => True) (cw g h) ∧ SX g (va_A (cw g h) sz) U U.heap
/-- a method's contract: its words, its depth, its start (values and cells), its end -/
def CT (l : Launch) (y : MethodName) (cc : ByteArray) (nL : Nat) (ret : Option FieldType) (d : Nat) (cw : Gl → Hp → va_W) (av : Gl → List Value) (h : Hp) (Q : QT) : Prop :=
  ∀ (g : Gl) (sz : Nat), Met l y (Cond.code y cc nL ret :: gT) (rmd d) (va_Pc (av g) (PreX g cw h sz)) (Q g (va_A (cw g h) sz)) 0 0 (va_A (cw g h) sz)
theorem PreX.blind {g : Gl} {cw : Gl → Hp → va_W} {h : Hp} {sz : Nat} {av : List Value} : FrameBlind (va_Pc av (PreX g cw h sz)) := by
  intro a U gg mk q
  obtain ⟨q0, q1, qP, qK, qD, qS⟩ := q
  exact ⟨q0, q1, qP, va_K.moved (u := U) (U := U.calling gg mk a) (Vm.Alike.refl U.vm) qK, qD, qS.same rfl⟩
/-- the table's facts of a method -/
def MI (y : MethodName) (cc : ByteArray) (nL : Nat) (ret : Option FieldType) (n : Nat) : Prop := Cond.code y cc nL ret ∈ gT ∧ Cond.initialized y.cls ∈ gT ∧ (y.cls ≠ "java/lang/invoke/MethodHandle" ∧ y.cls ≠ "java/lang/invoke/VarHandle" ∧ (parseMethodDescriptor y.desc).map (fun d => d.parameters.length) = some n)
theorem A_in {A : Nat → Prop} {ws : va_W} {H0 H : Heap} {locs : List Loc} (hD : va_D A ws) (hS : va_S A H0 H locs) (hA : ∀ q, H0.size ≤ q → A q) : ∀ q, va_A ws H.size q → A q := by
  rintro q (⟨k, e, hk⟩ | hq)
  · exact hD.2 k (q, e) hk
  · exact hA q (Nat.le_trans hS.1 hq)

section JRows
variable {ρ : Type} {x : Fx} {g : Gl} {cw : Gl → Hp → va_W} {nL dR : Nat} {QR : ρ → QT} {own : String} {cc : ByteArray} {ret : Option FieldType} {pc n : Nat} {L : List (Option Value)} {st : List Value} {h : Hp} {E : Option ρ}

theorem j_iconst (C : Ok x g own cc nL ret) {i : Int} {v : Int32} (d : decode cc pc = .ok (.iconst i, 1)) (hv : Int32.ofInt i = v) (hn : pc + 1 = n) (k : J x g cw nL dR QR n L (.int v :: st) h E) : J x g cw nL dR QR pc L (st) h (E) := by
  obtain ⟨p, l, e, s, m, args, below, meth, c, A⟩ := x
  subst hn
  intro r hE H locs ls hP hD hS hL
  exact lv_iconst C.1 C.2.1 d hv (k r hE H locs ls hP hD hS hL)
theorem j_bipush (C : Ok x g own cc nL ret) {i : Int} {v : Int32} (d : decode cc pc = .ok (.bipush i, 2)) (hv : (Int8.ofInt i).toInt32 = v) (hn : pc + 2 = n) (k : J x g cw nL dR QR n L (.int v :: st) h E) : J x g cw nL dR QR pc L (st) h (E) := by
  obtain ⟨p, l, e, s, m, args, below, meth, c, A⟩ := x
  subst hn
  intro r hE H locs ls hP hD hS hL
  exact lv_bipush C.1 C.2.1 d hv (k r hE H locs ls hP hD hS hL)
theorem j_sipush (C : Ok x g own cc nL ret) {i : Int} {v : Int32} (d : decode cc pc = .ok (.sipush i, 3)) (hv : (Int16.ofInt i).toInt32 = v) (hn : pc + 3 = n) (k : J x g cw nL dR QR n L (.int v :: st) h E) : J x g cw nL dR QR pc L (st) h (E) := by
  obtain ⟨p, l, e, s, m, args, below, meth, c, A⟩ := x
  subst hn
  intro r hE H locs ls hP hD hS hL
  exact lv_sipush C.1 C.2.1 d hv (k r hE H locs ls hP hD hS hL)
theorem j_ldc (C : Ok x g own cc nL ret) {i : Nat} {v : Int32} (d : decode cc pc = .ok (.ldc i, 2)) (hv : Cond.constant own i v ∈ gT) (hn : pc + 2 = n) (k : J x g cw nL dR QR n L (.int v :: st) h E) : J x g cw nL dR QR pc L (st) h (E) := by
  obtain ⟨p, l, e, s, m, args, below, meth, c, A⟩ := x
  subst hn
  intro r hE H locs ls hP hD hS hL
  exact lv_ldc C.1 C.2.1 C.2.2.2.2.1 (C.2.2.2.2.2.1 _ hv) d (k r hE H locs ls hP hD hS hL)
theorem j_ldcw (C : Ok x g own cc nL ret) {i : Nat} {v : Int32} (d : decode cc pc = .ok (.ldc_w i, 3)) (hv : Cond.constant own i v ∈ gT) (hn : pc + 3 = n) (k : J x g cw nL dR QR n L (.int v :: st) h E) : J x g cw nL dR QR pc L (st) h (E) := by
  obtain ⟨p, l, e, s, m, args, below, meth, c, A⟩ := x
  subst hn
  intro r hE H locs ls hP hD hS hL
  exact lv_ldcw C.1 C.2.1 C.2.2.2.2.1 (C.2.2.2.2.2.1 _ hv) d (k r hE H locs ls hP hD hS hL)
theorem j_iload_n (C : Ok x g own cc nL ret) {i : Fin 4} {v : Int32} (d : decode cc pc = .ok (.iload_n i, 1)) (hl : nth L i.val = some (some (.int v))) (hn : pc + 1 = n) (k : J x g cw nL dR QR n L (.int v :: st) h E) : J x g cw nL dR QR pc L (st) h (E) := by
  obtain ⟨p, l, e, s, m, args, below, meth, c, A⟩ := x
  subst hn
  intro r hE H locs ls hP hD hS hL
  exact lv_iload_n C.1 C.2.1 d rfl (hL.2.2 _ _ hl).1 (k r hE H locs ls hP hD hS hL)
theorem j_iload (C : Ok x g own cc nL ret) {i : Nat} {v : Int32} (d : decode cc pc = .ok (.iload i, 2)) (hl : nth L i = some (some (.int v))) (hn : pc + 2 = n) (k : J x g cw nL dR QR n L (.int v :: st) h E) : J x g cw nL dR QR pc L (st) h (E) := by
  obtain ⟨p, l, e, s, m, args, below, meth, c, A⟩ := x
  subst hn
  intro r hE H locs ls hP hD hS hL
  exact lv_iload C.1 C.2.1 d (hL.2.2 _ _ hl).1 (k r hE H locs ls hP hD hS hL)
theorem j_aload_n (C : Ok x g own cc nL ret) {i : Fin 4} {a : Nat} (d : decode cc pc = .ok (.aload_n i, 1)) (hl : nth L i.val = some (some (.ref a))) (hn : pc + 1 = n) (k : J x g cw nL dR QR n L (.ref a :: st) h E) : J x g cw nL dR QR pc L (st) h (E) := by
  obtain ⟨p, l, e, s, m, args, below, meth, c, A⟩ := x
  subst hn
  intro r hE H locs ls hP hD hS hL
  exact lv_aload_n C.1 C.2.1 d rfl (hL.2.2 _ _ hl).1 (k r hE H locs ls hP hD hS hL)
theorem j_aload (C : Ok x g own cc nL ret) {i : Nat} {a : Nat} (d : decode cc pc = .ok (.aload i, 2)) (hl : nth L i = some (some (.ref a))) (hn : pc + 2 = n) (k : J x g cw nL dR QR n L (.ref a :: st) h E) : J x g cw nL dR QR pc L (st) h (E) := by
  obtain ⟨p, l, e, s, m, args, below, meth, c, A⟩ := x
  subst hn
  intro r hE H locs ls hP hD hS hL
  exact lv_aload C.1 C.2.1 d (hL.2.2 _ _ hl).1 (k r hE H locs ls hP hD hS hL)
theorem j_aload_nN (C : Ok x g own cc nL ret) {i : Fin 4} (d : decode cc pc = .ok (.aload_n i, 1)) (hl : nth L i.val = some (some .null)) (hn : pc + 1 = n) (k : J x g cw nL dR QR n L (.null :: st) h E) : J x g cw nL dR QR pc L (st) h (E) := by
  obtain ⟨p, l, e, s, m, args, below, meth, c, A⟩ := x
  subst hn
  intro r hE H locs ls hP hD hS hL
  exact lv_aload_nN C.1 C.2.1 d rfl (hL.2.2 _ _ hl).1 (k r hE H locs ls hP hD hS hL)
theorem j_istore_n (C : Ok x g own cc nL ret) {i : Fin 4} {v : Int32} (d : decode cc pc = .ok (.istore_n i, 1)) (hi : i.val < nL) (hn : pc + 1 = n) (k : J x g cw nL dR QR n (setN L i.val (.int v)) (st) h E) : J x g cw nL dR QR pc L (.int v :: st) h (E) := by
  obtain ⟨p, l, e, s, m, args, below, meth, c, A⟩ := x
  subst hn
  intro r hE H locs ls hP hD hS hL
  exact lv_istore_n C.1 C.2.1 d rfl hL.lv hi rfl (fun ls1 hl1 => k r hE H locs ls1 hP hD hS (hL.set rfl hl1))
theorem j_istore (C : Ok x g own cc nL ret) {i : Nat} {v : Int32} (d : decode cc pc = .ok (.istore i, 2)) (hi : i < nL) (hn : pc + 2 = n) (k : J x g cw nL dR QR n (setN L i (.int v)) (st) h E) : J x g cw nL dR QR pc L (.int v :: st) h (E) := by
  obtain ⟨p, l, e, s, m, args, below, meth, c, A⟩ := x
  subst hn
  intro r hE H locs ls hP hD hS hL
  exact lv_istore C.1 C.2.1 d hL.lv hi rfl (fun ls1 hl1 => k r hE H locs ls1 hP hD hS (hL.set rfl hl1))
theorem j_astore_n (C : Ok x g own cc nL ret) {i : Fin 4} {v : Nat} (d : decode cc pc = .ok (.astore_n i, 1)) (hi : i.val < nL) (hn : pc + 1 = n) (k : J x g cw nL dR QR n (setN L i.val (.ref v)) (st) h E) : J x g cw nL dR QR pc L (.ref v :: st) h (E) := by
  obtain ⟨p, l, e, s, m, args, below, meth, c, A⟩ := x
  subst hn
  intro r hE H locs ls hP hD hS hL
  exact lv_astore_n C.1 C.2.1 d rfl hL.lv hi rfl (fun ls1 hl1 => k r hE H locs ls1 hP hD hS (hL.set rfl hl1))
theorem j_astore (C : Ok x g own cc nL ret) {i : Nat} {v : Nat} (d : decode cc pc = .ok (.astore i, 2)) (hi : i < nL) (hn : pc + 2 = n) (k : J x g cw nL dR QR n (setN L i (.ref v)) (st) h E) : J x g cw nL dR QR pc L (.ref v :: st) h (E) := by
  obtain ⟨p, l, e, s, m, args, below, meth, c, A⟩ := x
  subst hn
  intro r hE H locs ls hP hD hS hL
  exact lv_astore C.1 C.2.1 d hL.lv hi rfl (fun ls1 hl1 => k r hE H locs ls1 hP hD hS (hL.set rfl hl1))
theorem j_astore_nN (C : Ok x g own cc nL ret) {i : Fin 4} (d : decode cc pc = .ok (.astore_n i, 1)) (hi : i.val < nL) (hn : pc + 1 = n) (k : J x g cw nL dR QR n (setN L i.val .null) (st) h E) : J x g cw nL dR QR pc L (.null :: st) h (E) := by
  obtain ⟨p, l, e, s, m, args, below, meth, c, A⟩ := x
  subst hn
  intro r hE H locs ls hP hD hS hL
  exact lv_astore_nN C.1 C.2.1 d rfl hL.lv hi rfl (fun ls1 hl1 => k r hE H locs ls1 hP hD hS (hL.set rfl hl1))
theorem j_astoreN (C : Ok x g own cc nL ret) {i : Nat} (d : decode cc pc = .ok (.astore i, 2)) (hi : i < nL) (hn : pc + 2 = n) (k : J x g cw nL dR QR n (setN L i .null) (st) h E) : J x g cw nL dR QR pc L (.null :: st) h (E) := by
  obtain ⟨p, l, e, s, m, args, below, meth, c, A⟩ := x
  subst hn
  intro r hE H locs ls hP hD hS hL
  exact lv_astoreN C.1 C.2.1 d hL.lv hi rfl (fun ls1 hl1 => k r hE H locs ls1 hP hD hS (hL.set rfl hl1))
theorem j_aloadN (C : Ok x g own cc nL ret) {i : Nat} (d : decode cc pc = .ok (.aload i, 2)) (hl : nth L i = some (some .null)) (hn : pc + 2 = n) (k : J x g cw nL dR QR n L (.null :: st) h E) : J x g cw nL dR QR pc L (st) h (E) := by
  obtain ⟨p, l, e, s, m, args, below, meth, c, A⟩ := x
  subst hn
  intro r hE H locs ls hP hD hS hL
  exact lv_aloadN C.1 C.2.1 d (hL.2.2 _ _ hl).1 (k r hE H locs ls hP hD hS hL)
theorem j_iinc (C : Ok x g own cc nL ret) {i : Nat} {z : Int} {v c1 : Int32} (d : decode cc pc = .ok (.iinc i z, 3)) (hl : nth L i = some (some (.int v))) (hv : Int32.ofInt z = c1) (hi : i < nL) (hn : pc + 3 = n) (k : J x g cw nL dR QR n (setN L i (.int (v + c1))) st h E) : J x g cw nL dR QR pc L st h E := by
  obtain ⟨p, l, e, s, m, args, below, meth, c, A⟩ := x
  subst hn
  intro r hE H locs ls hP hD hS hL
  obtain ⟨kk, hk⟩ := List.getElem?_of_mem ((toLv_in L 0 (i, .int v)).mpr ⟨i, by simp, hl⟩)
  exact lv_iinc C.1 C.2.1 d hL.lv hk (by rw [hv]) hi rfl (fun ls1 hl1 => k r hE H locs ls1 hP hD hS (hL.set rfl hl1))
theorem j_iadd (C : Ok x g own cc nL ret) {x1 y1 : Int32} (d : decode cc pc = .ok (.iadd, 1)) (hn : pc + 1 = n) (k : J x g cw nL dR QR n L (.int (x1 + y1) :: st) h E) : J x g cw nL dR QR pc L (.int y1 :: .int x1 :: st) h (E) := by
  obtain ⟨p, l, e, s, m, args, below, meth, c, A⟩ := x
  subst hn
  intro r hE H locs ls hP hD hS hL
  exact lv_iadd C.1 C.2.1 d (k r hE H locs ls hP hD hS hL)
theorem j_isub (C : Ok x g own cc nL ret) {x1 y1 : Int32} (d : decode cc pc = .ok (.isub, 1)) (hn : pc + 1 = n) (k : J x g cw nL dR QR n L (.int (x1 - y1) :: st) h E) : J x g cw nL dR QR pc L (.int y1 :: .int x1 :: st) h (E) := by
  obtain ⟨p, l, e, s, m, args, below, meth, c, A⟩ := x
  subst hn
  intro r hE H locs ls hP hD hS hL
  exact lv_isub C.1 C.2.1 d (k r hE H locs ls hP hD hS hL)
theorem j_imul (C : Ok x g own cc nL ret) {x1 y1 : Int32} (d : decode cc pc = .ok (.imul, 1)) (hn : pc + 1 = n) (k : J x g cw nL dR QR n L (.int (x1 * y1) :: st) h E) : J x g cw nL dR QR pc L (.int y1 :: .int x1 :: st) h (E) := by
  obtain ⟨p, l, e, s, m, args, below, meth, c, A⟩ := x
  subst hn
  intro r hE H locs ls hP hD hS hL
  exact lv_imul C.1 C.2.1 d (k r hE H locs ls hP hD hS hL)
theorem j_iand (C : Ok x g own cc nL ret) {x1 y1 : Int32} (d : decode cc pc = .ok (.iand, 1)) (hn : pc + 1 = n) (k : J x g cw nL dR QR n L (.int (x1 &&& y1) :: st) h E) : J x g cw nL dR QR pc L (.int y1 :: .int x1 :: st) h (E) := by
  obtain ⟨p, l, e, s, m, args, below, meth, c, A⟩ := x
  subst hn
  intro r hE H locs ls hP hD hS hL
  exact lv_iand C.1 C.2.1 d (k r hE H locs ls hP hD hS hL)
theorem j_ior (C : Ok x g own cc nL ret) {x1 y1 : Int32} (d : decode cc pc = .ok (.ior, 1)) (hn : pc + 1 = n) (k : J x g cw nL dR QR n L (.int (x1 ||| y1) :: st) h E) : J x g cw nL dR QR pc L (.int y1 :: .int x1 :: st) h (E) := by
  obtain ⟨p, l, e, s, m, args, below, meth, c, A⟩ := x
  subst hn
  intro r hE H locs ls hP hD hS hL
  exact lv_ior C.1 C.2.1 d (k r hE H locs ls hP hD hS hL)
theorem j_ixor (C : Ok x g own cc nL ret) {x1 y1 : Int32} (d : decode cc pc = .ok (.ixor, 1)) (hn : pc + 1 = n) (k : J x g cw nL dR QR n L (.int (x1 ^^^ y1) :: st) h E) : J x g cw nL dR QR pc L (.int y1 :: .int x1 :: st) h (E) := by
  obtain ⟨p, l, e, s, m, args, below, meth, c, A⟩ := x
  subst hn
  intro r hE H locs ls hP hD hS hL
  exact lv_ixor C.1 C.2.1 d (k r hE H locs ls hP hD hS hL)
theorem j_ishl (C : Ok x g own cc nL ret) {x1 y1 : Int32} (d : decode cc pc = .ok (.ishl, 1)) (hn : pc + 1 = n) (k : J x g cw nL dR QR n L (.int (x1 <<< (y1 &&& 31)) :: st) h E) : J x g cw nL dR QR pc L (.int y1 :: .int x1 :: st) h (E) := by
  obtain ⟨p, l, e, s, m, args, below, meth, c, A⟩ := x
  subst hn
  intro r hE H locs ls hP hD hS hL
  exact lv_ishl C.1 C.2.1 d (k r hE H locs ls hP hD hS hL)
theorem j_ishr (C : Ok x g own cc nL ret) {x1 y1 : Int32} (d : decode cc pc = .ok (.ishr, 1)) (hn : pc + 1 = n) (k : J x g cw nL dR QR n L (.int (x1 >>> (y1 &&& 31)) :: st) h E) : J x g cw nL dR QR pc L (.int y1 :: .int x1 :: st) h (E) := by
  obtain ⟨p, l, e, s, m, args, below, meth, c, A⟩ := x
  subst hn
  intro r hE H locs ls hP hD hS hL
  exact lv_ishr C.1 C.2.1 d (k r hE H locs ls hP hD hS hL)
theorem j_iushr (C : Ok x g own cc nL ret) {x1 y1 : Int32} (d : decode cc pc = .ok (.iushr, 1)) (hn : pc + 1 = n) (k : J x g cw nL dR QR n L (.int (x1.toUInt32 >>> (y1.toUInt32 &&& Int32.toUInt32 31)).toInt32 :: st) h E) : J x g cw nL dR QR pc L (.int y1 :: .int x1 :: st) h (E) := by
  obtain ⟨p, l, e, s, m, args, below, meth, c, A⟩ := x
  subst hn
  intro r hE H locs ls hP hD hS hL
  exact lv_iushr C.1 C.2.1 d rfl (k r hE H locs ls hP hD hS hL)
theorem j_ineg (C : Ok x g own cc nL ret) {x1 : Int32} (d : decode cc pc = .ok (.ineg, 1)) (hn : pc + 1 = n) (k : J x g cw nL dR QR n L (.int (-x1) :: st) h E) : J x g cw nL dR QR pc L (.int x1 :: st) h (E) := by
  obtain ⟨p, l, e, s, m, args, below, meth, c, A⟩ := x
  subst hn
  intro r hE H locs ls hP hD hS hL
  exact lv_ineg C.1 C.2.1 d (k r hE H locs ls hP hD hS hL)
theorem j_i2b (C : Ok x g own cc nL ret) {x1 : Int32} (d : decode cc pc = .ok (.i2b, 1)) (hn : pc + 1 = n) (k : J x g cw nL dR QR n L (.int x1.toInt8.toInt32 :: st) h E) : J x g cw nL dR QR pc L (.int x1 :: st) h (E) := by
  obtain ⟨p, l, e, s, m, args, below, meth, c, A⟩ := x
  subst hn
  intro r hE H locs ls hP hD hS hL
  exact lv_i2b C.1 C.2.1 d rfl (k r hE H locs ls hP hD hS hL)
theorem j_i2s (C : Ok x g own cc nL ret) {x1 : Int32} (d : decode cc pc = .ok (.i2s, 1)) (hn : pc + 1 = n) (k : J x g cw nL dR QR n L (.int x1.toInt16.toInt32 :: st) h E) : J x g cw nL dR QR pc L (.int x1 :: st) h (E) := by
  obtain ⟨p, l, e, s, m, args, below, meth, c, A⟩ := x
  subst hn
  intro r hE H locs ls hP hD hS hL
  exact lv_i2s C.1 C.2.1 d rfl (k r hE H locs ls hP hD hS hL)
theorem j_i2l (C : Ok x g own cc nL ret) {x1 : Int32} (d : decode cc pc = .ok (.i2l, 1)) (hn : pc + 1 = n) (k : J x g cw nL dR QR n L (.long x1.toInt64 :: st) h E) : J x g cw nL dR QR pc L (.int x1 :: st) h (E) := by
  obtain ⟨p, l, e, s, m, args, below, meth, c, A⟩ := x
  subst hn
  intro r hE H locs ls hP hD hS hL
  exact lv_i2l C.1 C.2.1 d rfl (k r hE H locs ls hP hD hS hL)
theorem j_ladd (C : Ok x g own cc nL ret) {x1 y1 : Int64} (d : decode cc pc = .ok (.ladd, 1)) (hn : pc + 1 = n) (k : J x g cw nL dR QR n L (.long (x1 + y1) :: st) h E) : J x g cw nL dR QR pc L (.long y1 :: .long x1 :: st) h (E) := by
  obtain ⟨p, l, e, s, m, args, below, meth, c, A⟩ := x
  subst hn
  intro r hE H locs ls hP hD hS hL
  exact lv_ladd C.1 C.2.1 d (k r hE H locs ls hP hD hS hL)
theorem j_lcmp (C : Ok x g own cc nL ret) {x1 y1 : Int64} (d : decode cc pc = .ok (.lcmp, 1)) (hn : pc + 1 = n) (k : J x g cw nL dR QR n L (.int (lg_cmp x1 y1) :: st) h E) : J x g cw nL dR QR pc L (.long y1 :: .long x1 :: st) h (E) := by
  obtain ⟨p, l, e, s, m, args, below, meth, c, A⟩ := x
  subst hn
  intro r hE H locs ls hP hD hS hL
  exact W.lcmp C.1 C.2.1 d (k r hE H locs ls hP hD hS hL)
theorem j_idiv (C : Ok x g own cc nL ret) {x1 y1 : Int32} (d : decode cc pc = .ok (.idiv, 1)) (hn : pc + 1 = n) (k : J x g cw nL dR QR n L (.int (x1 / y1) :: st) h E) : J x g cw nL dR QR pc L (.int y1 :: .int x1 :: st) h (chk (nz y1) E) := by
  obtain ⟨p, l, e, s, m, args, below, meth, c, A⟩ := x
  subst hn
  intro r hE H locs ls hP hD hS hL
  obtain ⟨hz, hE⟩ := chk_some hE
  exact lv_idiv C.1 C.2.1 d (nz_ne hz) (k r hE H locs ls hP hD hS hL)
theorem j_idivL (C : Ok x g own cc nL ret) {x1 y1 : Int32} (d : decode cc pc = .ok (.idiv, 1)) (hz : nz y1 = true) (hn : pc + 1 = n) (k : J x g cw nL dR QR n L (.int (x1 / y1) :: st) h E) : J x g cw nL dR QR pc L (.int y1 :: .int x1 :: st) h (E) := by
  obtain ⟨p, l, e, s, m, args, below, meth, c, A⟩ := x
  subst hn
  intro r hE H locs ls hP hD hS hL
  exact lv_idiv C.1 C.2.1 d (nz_ne hz) (k r hE H locs ls hP hD hS hL)
theorem j_irem (C : Ok x g own cc nL ret) {x1 y1 : Int32} (d : decode cc pc = .ok (.irem, 1)) (hn : pc + 1 = n) (k : J x g cw nL dR QR n L (.int (x1 - x1 / y1 * y1) :: st) h E) : J x g cw nL dR QR pc L (.int y1 :: .int x1 :: st) h (chk (nz y1) E) := by
  obtain ⟨p, l, e, s, m, args, below, meth, c, A⟩ := x
  subst hn
  intro r hE H locs ls hP hD hS hL
  obtain ⟨hz, hE⟩ := chk_some hE
  exact lv_irem C.1 C.2.1 d (nz_ne hz) (k r hE H locs ls hP hD hS hL)
theorem j_iremL (C : Ok x g own cc nL ret) {x1 y1 : Int32} (d : decode cc pc = .ok (.irem, 1)) (hz : nz y1 = true) (hn : pc + 1 = n) (k : J x g cw nL dR QR n L (.int (x1 - x1 / y1 * y1) :: st) h E) : J x g cw nL dR QR pc L (.int y1 :: .int x1 :: st) h (E) := by
  obtain ⟨p, l, e, s, m, args, below, meth, c, A⟩ := x
  subst hn
  intro r hE H locs ls hP hD hS hL
  exact lv_irem C.1 C.2.1 d (nz_ne hz) (k r hE H locs ls hP hD hS hL)
theorem j_dup (C : Ok x g own cc nL ret) {v : Value} (d : decode cc pc = .ok (.dup, 1)) (hc : v.category = 1) (hn : pc + 1 = n) (k : J x g cw nL dR QR n L (v :: v :: st) h E) : J x g cw nL dR QR pc L (v :: st) h (E) := by
  obtain ⟨p, l, e, s, m, args, below, meth, c, A⟩ := x
  subst hn
  intro r hE H locs ls hP hD hS hL
  exact lv_dup C.1 C.2.1 d hc (k r hE H locs ls hP hD hS hL)
theorem j_pop (C : Ok x g own cc nL ret) {v : Value} (d : decode cc pc = .ok (.pop, 1)) (hc : v.category = 1) (hn : pc + 1 = n) (k : J x g cw nL dR QR n L (st) h E) : J x g cw nL dR QR pc L (v :: st) h (E) := by
  obtain ⟨p, l, e, s, m, args, below, meth, c, A⟩ := x
  subst hn
  intro r hE H locs ls hP hD hS hL
  exact lv_pop C.1 C.2.1 d hc (k r hE H locs ls hP hD hS hL)
theorem j_dup_x1 (C : Ok x g own cc nL ret) {v u : Value} (d : decode cc pc = .ok (.dup_x1, 1)) (hc : v.category = 1) (hc2 : u.category = 1) (hn : pc + 1 = n) (k : J x g cw nL dR QR n L (v :: u :: v :: st) h E) : J x g cw nL dR QR pc L (v :: u :: st) h (E) := by
  obtain ⟨p, l, e, s, m, args, below, meth, c, A⟩ := x
  subst hn
  intro r hE H locs ls hP hD hS hL
  exact lv_dup_x1 C.1 C.2.1 d hc hc2 (k r hE H locs ls hP hD hS hL)
theorem j_dup2 (C : Ok x g own cc nL ret) {v u : Value} (d : decode cc pc = .ok (.dup2, 1)) (hc : v.category = 1) (hc2 : u.category = 1) (hn : pc + 1 = n) (k : J x g cw nL dR QR n L (v :: u :: v :: u :: st) h E) : J x g cw nL dR QR pc L (v :: u :: st) h (E) := by
  obtain ⟨p, l, e, s, m, args, below, meth, c, A⟩ := x
  subst hn
  intro r hE H locs ls hP hD hS hL
  exact lv_dup2_11 C.1 C.2.1 d hc hc2 (k r hE H locs ls hP hD hS hL)
theorem j_goto (C : Ok x g own cc nL ret) {off : Int} (d : decode cc pc = .ok (.goto off, 3)) (hn : (pc : Int) + off = (n : Int)) (k : J x g cw nL dR QR n L st h E) : J x g cw nL dR QR pc L st h E := by
  obtain ⟨p, l, e, s, m, args, below, meth, c, A⟩ := x
  intro r hE H locs ls hP hD hS hL
  exact lv_goto C.1 C.2.1 d hn (k r hE H locs ls hP hD hS hL)
theorem j_if_eq (C : Ok x g own cc nL ret) {x1 : Int32} {off : Int} {tgt : Nat} {E1 E2 : Option ρ} (d : decode cc pc = .ok (.ifCond .eq off, 3)) (ht : (pc : Int) + off = (tgt : Int)) (hn : pc + 3 = n) (kt : x1 = 0 → J x g cw nL dR QR tgt L st h E1) (kf : ¬ x1 = 0 → J x g cw nL dR QR n L st h E2) : J x g cw nL dR QR pc L (.int x1 :: st) h (if x1 = 0 then E1 else E2) := by
  obtain ⟨p, l, e, s, m, args, below, meth, c, A⟩ := x
  subst hn
  intro r hE H locs ls hP hD hS hL
  refine lv_if_eq C.1 C.2.1 d ht (fun q => ?_) (fun q => ?_)
  · exact kt q r (by rw [if_pos q] at hE; exact hE) H locs ls hP hD hS hL
  · exact kf q r (by rw [if_neg q] at hE; exact hE) H locs ls hP hD hS hL
theorem j_if_ne (C : Ok x g own cc nL ret) {x1 : Int32} {off : Int} {tgt : Nat} {E1 E2 : Option ρ} (d : decode cc pc = .ok (.ifCond .ne off, 3)) (ht : (pc : Int) + off = (tgt : Int)) (hn : pc + 3 = n) (kt : ¬ x1 = 0 → J x g cw nL dR QR tgt L st h E1) (kf : x1 = 0 → J x g cw nL dR QR n L st h E2) : J x g cw nL dR QR pc L (.int x1 :: st) h (if x1 = 0 then E2 else E1) := by
  obtain ⟨p, l, e, s, m, args, below, meth, c, A⟩ := x
  subst hn
  intro r hE H locs ls hP hD hS hL
  refine lv_if_ne C.1 C.2.1 d ht (fun q => ?_) (fun q => ?_)
  · exact kt q r (by rw [if_neg q] at hE; exact hE) H locs ls hP hD hS hL
  · exact kf q r (by rw [if_pos q] at hE; exact hE) H locs ls hP hD hS hL
theorem j_if_lt (C : Ok x g own cc nL ret) {x1 : Int32} {off : Int} {tgt : Nat} {E1 E2 : Option ρ} (d : decode cc pc = .ok (.ifCond .lt off, 3)) (ht : (pc : Int) + off = (tgt : Int)) (hn : pc + 3 = n) (kt : x1 < 0 → J x g cw nL dR QR tgt L st h E1) (kf : ¬ x1 < 0 → J x g cw nL dR QR n L st h E2) : J x g cw nL dR QR pc L (.int x1 :: st) h (if x1 < 0 then E1 else E2) := by
  obtain ⟨p, l, e, s, m, args, below, meth, c, A⟩ := x
  subst hn
  intro r hE H locs ls hP hD hS hL
  refine lv_if_lt C.1 C.2.1 d ht (fun q => ?_) (fun q => ?_)
  · exact kt q r (by rw [if_pos q] at hE; exact hE) H locs ls hP hD hS hL
  · exact kf q r (by rw [if_neg q] at hE; exact hE) H locs ls hP hD hS hL
theorem j_if_ge (C : Ok x g own cc nL ret) {x1 : Int32} {off : Int} {tgt : Nat} {E1 E2 : Option ρ} (d : decode cc pc = .ok (.ifCond .ge off, 3)) (ht : (pc : Int) + off = (tgt : Int)) (hn : pc + 3 = n) (kt : 0 ≤ x1 → J x g cw nL dR QR tgt L st h E1) (kf : ¬ 0 ≤ x1 → J x g cw nL dR QR n L st h E2) : J x g cw nL dR QR pc L (.int x1 :: st) h (if 0 ≤ x1 then E1 else E2) := by
  obtain ⟨p, l, e, s, m, args, below, meth, c, A⟩ := x
  subst hn
  intro r hE H locs ls hP hD hS hL
  refine lv_if_ge C.1 C.2.1 d ht (fun q => ?_) (fun q => ?_)
  · exact kt q r (by rw [if_pos q] at hE; exact hE) H locs ls hP hD hS hL
  · exact kf q r (by rw [if_neg q] at hE; exact hE) H locs ls hP hD hS hL
theorem j_if_gt (C : Ok x g own cc nL ret) {x1 : Int32} {off : Int} {tgt : Nat} {E1 E2 : Option ρ} (d : decode cc pc = .ok (.ifCond .gt off, 3)) (ht : (pc : Int) + off = (tgt : Int)) (hn : pc + 3 = n) (kt : 0 < x1 → J x g cw nL dR QR tgt L st h E1) (kf : ¬ 0 < x1 → J x g cw nL dR QR n L st h E2) : J x g cw nL dR QR pc L (.int x1 :: st) h (if 0 < x1 then E1 else E2) := by
  obtain ⟨p, l, e, s, m, args, below, meth, c, A⟩ := x
  subst hn
  intro r hE H locs ls hP hD hS hL
  refine lv_if_gt C.1 C.2.1 d ht (fun q => ?_) (fun q => ?_)
  · exact kt q r (by rw [if_pos q] at hE; exact hE) H locs ls hP hD hS hL
  · exact kf q r (by rw [if_neg q] at hE; exact hE) H locs ls hP hD hS hL
theorem j_if_le (C : Ok x g own cc nL ret) {x1 : Int32} {off : Int} {tgt : Nat} {E1 E2 : Option ρ} (d : decode cc pc = .ok (.ifCond .le off, 3)) (ht : (pc : Int) + off = (tgt : Int)) (hn : pc + 3 = n) (kt : x1 ≤ 0 → J x g cw nL dR QR tgt L st h E1) (kf : ¬ x1 ≤ 0 → J x g cw nL dR QR n L st h E2) : J x g cw nL dR QR pc L (.int x1 :: st) h (if x1 ≤ 0 then E1 else E2) := by
  obtain ⟨p, l, e, s, m, args, below, meth, c, A⟩ := x
  subst hn
  intro r hE H locs ls hP hD hS hL
  refine lv_if_le C.1 C.2.1 d ht (fun q => ?_) (fun q => ?_)
  · exact kt q r (by rw [if_pos q] at hE; exact hE) H locs ls hP hD hS hL
  · exact kf q r (by rw [if_neg q] at hE; exact hE) H locs ls hP hD hS hL
theorem j_icmp_eq (C : Ok x g own cc nL ret) {x1 y1 : Int32} {off : Int} {tgt : Nat} {E1 E2 : Option ρ} (d : decode cc pc = .ok (.if_icmp .eq off, 3)) (ht : (pc : Int) + off = (tgt : Int)) (hn : pc + 3 = n) (kt : x1 = y1 → J x g cw nL dR QR tgt L st h E1) (kf : ¬ x1 = y1 → J x g cw nL dR QR n L st h E2) : J x g cw nL dR QR pc L (.int y1 :: .int x1 :: st) h (if x1 = y1 then E1 else E2) := by
  obtain ⟨p, l, e, s, m, args, below, meth, c, A⟩ := x
  subst hn
  intro r hE H locs ls hP hD hS hL
  refine lv_icmp_eq C.1 C.2.1 d ht (fun q => ?_) (fun q => ?_)
  · exact kt q r (by rw [if_pos q] at hE; exact hE) H locs ls hP hD hS hL
  · exact kf q r (by rw [if_neg q] at hE; exact hE) H locs ls hP hD hS hL
theorem j_icmp_ne (C : Ok x g own cc nL ret) {x1 y1 : Int32} {off : Int} {tgt : Nat} {E1 E2 : Option ρ} (d : decode cc pc = .ok (.if_icmp .ne off, 3)) (ht : (pc : Int) + off = (tgt : Int)) (hn : pc + 3 = n) (kt : ¬ x1 = y1 → J x g cw nL dR QR tgt L st h E1) (kf : x1 = y1 → J x g cw nL dR QR n L st h E2) : J x g cw nL dR QR pc L (.int y1 :: .int x1 :: st) h (if x1 = y1 then E2 else E1) := by
  obtain ⟨p, l, e, s, m, args, below, meth, c, A⟩ := x
  subst hn
  intro r hE H locs ls hP hD hS hL
  refine lv_icmp_ne C.1 C.2.1 d ht (fun q => ?_) (fun q => ?_)
  · exact kt q r (by rw [if_neg q] at hE; exact hE) H locs ls hP hD hS hL
  · exact kf q r (by rw [if_pos q] at hE; exact hE) H locs ls hP hD hS hL
theorem j_icmp_lt (C : Ok x g own cc nL ret) {x1 y1 : Int32} {off : Int} {tgt : Nat} {E1 E2 : Option ρ} (d : decode cc pc = .ok (.if_icmp .lt off, 3)) (ht : (pc : Int) + off = (tgt : Int)) (hn : pc + 3 = n) (kt : x1 < y1 → J x g cw nL dR QR tgt L st h E1) (kf : ¬ x1 < y1 → J x g cw nL dR QR n L st h E2) : J x g cw nL dR QR pc L (.int y1 :: .int x1 :: st) h (if x1 < y1 then E1 else E2) := by
  obtain ⟨p, l, e, s, m, args, below, meth, c, A⟩ := x
  subst hn
  intro r hE H locs ls hP hD hS hL
  refine lv_icmp_lt C.1 C.2.1 d ht (fun q => ?_) (fun q => ?_)
  · exact kt q r (by rw [if_pos q] at hE; exact hE) H locs ls hP hD hS hL
  · exact kf q r (by rw [if_neg q] at hE; exact hE) H locs ls hP hD hS hL
theorem j_icmp_ge (C : Ok x g own cc nL ret) {x1 y1 : Int32} {off : Int} {tgt : Nat} {E1 E2 : Option ρ} (d : decode cc pc = .ok (.if_icmp .ge off, 3)) (ht : (pc : Int) + off = (tgt : Int)) (hn : pc + 3 = n) (kt : y1 ≤ x1 → J x g cw nL dR QR tgt L st h E1) (kf : ¬ y1 ≤ x1 → J x g cw nL dR QR n L st h E2) : J x g cw nL dR QR pc L (.int y1 :: .int x1 :: st) h (if y1 ≤ x1 then E1 else E2) := by
  obtain ⟨p, l, e, s, m, args, below, meth, c, A⟩ := x
  subst hn
  intro r hE H locs ls hP hD hS hL
  refine lv_icmp_ge C.1 C.2.1 d ht (fun q => ?_) (fun q => ?_)
  · exact kt q r (by rw [if_pos q] at hE; exact hE) H locs ls hP hD hS hL
  · exact kf q r (by rw [if_neg q] at hE; exact hE) H locs ls hP hD hS hL
theorem j_icmp_gt (C : Ok x g own cc nL ret) {x1 y1 : Int32} {off : Int} {tgt : Nat} {E1 E2 : Option ρ} (d : decode cc pc = .ok (.if_icmp .gt off, 3)) (ht : (pc : Int) + off = (tgt : Int)) (hn : pc + 3 = n) (kt : y1 < x1 → J x g cw nL dR QR tgt L st h E1) (kf : ¬ y1 < x1 → J x g cw nL dR QR n L st h E2) : J x g cw nL dR QR pc L (.int y1 :: .int x1 :: st) h (if y1 < x1 then E1 else E2) := by
  obtain ⟨p, l, e, s, m, args, below, meth, c, A⟩ := x
  subst hn
  intro r hE H locs ls hP hD hS hL
  refine lv_icmp_gt C.1 C.2.1 d ht (fun q => ?_) (fun q => ?_)
  · exact kt q r (by rw [if_pos q] at hE; exact hE) H locs ls hP hD hS hL
  · exact kf q r (by rw [if_neg q] at hE; exact hE) H locs ls hP hD hS hL
theorem j_icmp_le (C : Ok x g own cc nL ret) {x1 y1 : Int32} {off : Int} {tgt : Nat} {E1 E2 : Option ρ} (d : decode cc pc = .ok (.if_icmp .le off, 3)) (ht : (pc : Int) + off = (tgt : Int)) (hn : pc + 3 = n) (kt : x1 ≤ y1 → J x g cw nL dR QR tgt L st h E1) (kf : ¬ x1 ≤ y1 → J x g cw nL dR QR n L st h E2) : J x g cw nL dR QR pc L (.int y1 :: .int x1 :: st) h (if x1 ≤ y1 then E1 else E2) := by
  obtain ⟨p, l, e, s, m, args, below, meth, c, A⟩ := x
  subst hn
  intro r hE H locs ls hP hD hS hL
  refine lv_icmp_le C.1 C.2.1 d ht (fun q => ?_) (fun q => ?_)
  · exact kt q r (by rw [if_pos q] at hE; exact hE) H locs ls hP hD hS hL
  · exact kf q r (by rw [if_neg q] at hE; exact hE) H locs ls hP hD hS hL
theorem j_split {P : Prop} {i1 : Decidable P} {E1 E2 : Option ρ} (kt : P → J x g cw nL dR QR pc L st h E1) (kf : ¬ P → J x g cw nL dR QR pc L st h E2) : J x g cw nL dR QR pc L st h (@ite _ P i1 E1 E2) := by
  by_cases q : P
  · rw [if_pos q]; exact kt q
  · rw [if_neg q]; exact kf q
theorem j_chk {b : Bool} (k : b = true → J x g cw nL dR QR pc L st h E) : J x g cw nL dR QR pc L st h (chk b E) := by
  cases b with
  | true => exact k rfl
  | false =>
    obtain ⟨p, l, e, s, m, args, below, meth, c, A⟩ := x
    intro r hE
    cases hE
theorem j_none : J x g cw nL dR QR pc L st h none := by
  obtain ⟨p, l, e, s, m, args, below, meth, c, A⟩ := x
  intro r hE
  cases hE
/-- on to a place with fewer known locals -/
theorem j_to {L1 : List (Option Value)} (k : J x g cw nL dR QR pc L1 st h E) (hs : subL L1 L) : J x g cw nL dR QR pc L st h E := by
  obtain ⟨p, l, e, s, m, args, below, meth, c, A⟩ := x
  intro r hE H locs ls hP hD hS hL
  exact k r hE H locs ls hP hD hS (hL.sub hs)
theorem j_tabIn (C : Ok x g own cc nL ret) {dflt lo hi : Int} {offs : Array Int} {len : Nat} {x1 v : Int32} {off : Int} (d : decode cc pc = .ok (.tableswitch dflt lo hi offs, len)) (e : x1 = v) (h1 : ¬ v.toInt < lo ∧ ¬ hi < v.toInt ∧ offs[(v.toInt - lo).toNat]? = some off) (ht : (pc : Int) + off = (n : Int)) (k : J x g cw nL dR QR n L st h E) : J x g cw nL dR QR pc L (.int x1 :: st) h E := by
  subst e
  obtain ⟨p, l, e, s, m, args, below, meth, c, A⟩ := x
  intro r hE H locs ls hP hD hS hL
  exact lv_tableIn C.1 C.2.1 d h1.1 h1.2.1 h1.2.2 ht (k r hE H locs ls hP hD hS hL)
theorem j_tabOut (C : Ok x g own cc nL ret) {dflt lo hi : Int} {offs : Array Int} {len : Nat} {x1 : Int32} (d : decode cc pc = .ok (.tableswitch dflt lo hi offs, len)) (h1 : x1.toInt < lo ∨ hi < x1.toInt) (ht : (pc : Int) + dflt = (n : Int)) (k : J x g cw nL dR QR n L st h E) : J x g cw nL dR QR pc L (.int x1 :: st) h E := by
  obtain ⟨p, l, e, s, m, args, below, meth, c, A⟩ := x
  intro r hE H locs ls hP hD hS hL
  exact lv_tableOut C.1 C.2.1 d h1 ht (k r hE H locs ls hP hD hS hL)
theorem j_iald (C : Ok x g own cc nL ret) (q0 : Nat) {a N : Nat} {f : Nat → Int32} {i : Int32} (ha : (cw g h)[q0]? = some (a, .inl (g.2.2.1 0, N, .inl f))) (d : decode cc pc = .ok (.iaload, 1)) (hn : pc + 1 = n) (k : J x g cw nL dR QR n L (.int (f i.toNatClampNeg) :: st) h E) : J x g cw nL dR QR pc L (.int i :: .ref a :: st) h (chk (inR i N) E) := by
  obtain ⟨p, l, e, s, m, args, below, meth, c, A⟩ := x
  subst hn
  intro r hE H locs ls hP hD hS hL
  obtain ⟨hz, hE⟩ := chk_some hE
  exact va_iald C.1 C.2.1 C.2.2.2.2.2.2.2.1 hP q0 0 ha rfl (inR_vp hz) d (k r hE H locs ls hP hD hS hL)
theorem j_ialdL (C : Ok x g own cc nL ret) (q0 : Nat) {a N j : Nat} {f : Nat → Int32} {i : Int32} (ha : (cw g h)[q0]? = some (a, .inl (g.2.2.1 0, N, .inl f))) (hz : inR i N = true ∧ i.toNatClampNeg = j) (d : decode cc pc = .ok (.iaload, 1)) (hn : pc + 1 = n) (k : J x g cw nL dR QR n L (.int (f j) :: st) h E) : J x g cw nL dR QR pc L (.int i :: .ref a :: st) h E := by
  obtain ⟨p, l, e, s, m, args, below, meth, c, A⟩ := x
  subst hn
  obtain ⟨hz, rfl⟩ := hz
  intro r hE H locs ls hP hD hS hL
  exact va_iald C.1 C.2.1 C.2.2.2.2.2.2.2.1 hP q0 0 ha rfl (inR_vp hz) d (k r hE H locs ls hP hD hS hL)
theorem j_bald (C : Ok x g own cc nL ret) (q0 : Nat) {a N : Nat} {f : Nat → Int32} {i : Int32} (ha : (cw g h)[q0]? = some (a, .inl (g.2.2.1 1, N, .inl f))) (d : decode cc pc = .ok (.baload, 1)) (hn : pc + 1 = n) (k : J x g cw nL dR QR n L (.int (f i.toNatClampNeg) :: st) h E) : J x g cw nL dR QR pc L (.int i :: .ref a :: st) h (chk (inR i N) E) := by
  obtain ⟨p, l, e, s, m, args, below, meth, c, A⟩ := x
  subst hn
  intro r hE H locs ls hP hD hS hL
  obtain ⟨hz, hE⟩ := chk_some hE
  exact va_bald C.1 C.2.1 C.2.2.2.2.2.2.2.1 hP q0 1 ha rfl (inR_vp hz) d (k r hE H locs ls hP hD hS hL)
theorem j_baldL (C : Ok x g own cc nL ret) (q0 : Nat) {a N j : Nat} {f : Nat → Int32} {i : Int32} (ha : (cw g h)[q0]? = some (a, .inl (g.2.2.1 1, N, .inl f))) (hz : inR i N = true ∧ i.toNatClampNeg = j) (d : decode cc pc = .ok (.baload, 1)) (hn : pc + 1 = n) (k : J x g cw nL dR QR n L (.int (f j) :: st) h E) : J x g cw nL dR QR pc L (.int i :: .ref a :: st) h E := by
  obtain ⟨p, l, e, s, m, args, below, meth, c, A⟩ := x
  subst hn
  obtain ⟨hz, rfl⟩ := hz
  intro r hE H locs ls hP hD hS hL
  exact va_bald C.1 C.2.1 C.2.2.2.2.2.2.2.1 hP q0 1 ha rfl (inR_vp hz) d (k r hE H locs ls hP hD hS hL)
theorem j_iast (C : Ok x g own cc nL ret) (q0 : Nat) {a N : Nat} {f : Nat → Int32} {i v : Int32} (ha : (cw g h)[q0]? = some (a, .inl (g.2.2.1 0, N, .inl f))) (hs : (cw g h).set q0 (a, .inl (g.2.2.1 0, N, .inl (upd f i.toNatClampNeg v))) = cw g (up h q0 i.toNatClampNeg v)) (d : decode cc pc = .ok (.iastore, 1)) (hn : pc + 1 = n) (k : J x g cw nL dR QR n L st (up h q0 i.toNatClampNeg v) E) : J x g cw nL dR QR pc L (.int v :: .int i :: .ref a :: st) h (chk (inR i N) E) := by
  obtain ⟨p, l, e, s, m, args, below, meth, c, A⟩ := x
  subst hn
  intro r hE H locs ls hP hD hS hL
  obtain ⟨hz, hE⟩ := chk_some hE
  refine va_iast C.1 C.2.1 C.2.2.2.2.2.2.2.1 hP hD hS q0 0 ha rfl (inR_vp hz) d (fun H1 locs1 hP1 hD1 hS1 => ?_)
  rw [hs] at hP1 hD1
  exact k r hE H1 locs1 ls hP1 hD1 hS1 hL
theorem j_iastL (C : Ok x g own cc nL ret) (q0 : Nat) {a N j : Nat} {f : Nat → Int32} {i v : Int32} (ha : (cw g h)[q0]? = some (a, .inl (g.2.2.1 0, N, .inl f))) (hs : (cw g h).set q0 (a, .inl (g.2.2.1 0, N, .inl (upd f j v))) = cw g (up h q0 j v)) (hz : inR i N = true ∧ i.toNatClampNeg = j) (d : decode cc pc = .ok (.iastore, 1)) (hn : pc + 1 = n) (k : J x g cw nL dR QR n L st (up h q0 j v) E) : J x g cw nL dR QR pc L (.int v :: .int i :: .ref a :: st) h (E) := by
  obtain ⟨p, l, e, s, m, args, below, meth, c, A⟩ := x
  subst hn
  obtain ⟨hz, rfl⟩ := hz
  intro r hE H locs ls hP hD hS hL
  refine va_iast C.1 C.2.1 C.2.2.2.2.2.2.2.1 hP hD hS q0 0 ha rfl (inR_vp hz) d (fun H1 locs1 hP1 hD1 hS1 => ?_)
  rw [hs] at hP1 hD1
  exact k r hE H1 locs1 ls hP1 hD1 hS1 hL
theorem j_bast (C : Ok x g own cc nL ret) (q0 : Nat) {a N : Nat} {f : Nat → Int32} {i v : Int32} (ha : (cw g h)[q0]? = some (a, .inl (g.2.2.1 1, N, .inl f))) (hs : (cw g h).set q0 (a, .inl (g.2.2.1 1, N, .inl (upd f i.toNatClampNeg (vp_nar .byte v)))) = cw g (up h q0 i.toNatClampNeg (vp_nar .byte v))) (d : decode cc pc = .ok (.bastore, 1)) (hn : pc + 1 = n) (k : J x g cw nL dR QR n L st (up h q0 i.toNatClampNeg (vp_nar .byte v)) E) : J x g cw nL dR QR pc L (.int v :: .int i :: .ref a :: st) h (chk (inR i N) E) := by
  obtain ⟨p, l, e, s, m, args, below, meth, c, A⟩ := x
  subst hn
  intro r hE H locs ls hP hD hS hL
  obtain ⟨hz, hE⟩ := chk_some hE
  refine va_bast C.1 C.2.1 C.2.2.2.2.2.2.2.1 hP hD hS q0 1 ha rfl (inR_vp hz) d (fun H1 locs1 hP1 hD1 hS1 => ?_)
  rw [hs] at hP1 hD1
  exact k r hE H1 locs1 ls hP1 hD1 hS1 hL
theorem j_bastL (C : Ok x g own cc nL ret) (q0 : Nat) {a N j : Nat} {f : Nat → Int32} {i v : Int32} (ha : (cw g h)[q0]? = some (a, .inl (g.2.2.1 1, N, .inl f))) (hs : (cw g h).set q0 (a, .inl (g.2.2.1 1, N, .inl (upd f j (vp_nar .byte v)))) = cw g (up h q0 j (vp_nar .byte v))) (hz : inR i N = true ∧ i.toNatClampNeg = j) (d : decode cc pc = .ok (.bastore, 1)) (hn : pc + 1 = n) (k : J x g cw nL dR QR n L st (up h q0 j (vp_nar .byte v)) E) : J x g cw nL dR QR pc L (.int v :: .int i :: .ref a :: st) h (E) := by
  obtain ⟨p, l, e, s, m, args, below, meth, c, A⟩ := x
  subst hn
  obtain ⟨hz, rfl⟩ := hz
  intro r hE H locs ls hP hD hS hL
  refine va_bast C.1 C.2.1 C.2.2.2.2.2.2.2.1 hP hD hS q0 1 ha rfl (inR_vp hz) d (fun H1 locs1 hP1 hD1 hS1 => ?_)
  rw [hs] at hP1 hD1
  exact k r hE H1 locs1 ls hP1 hD1 hS1 hL
theorem j_alen (C : Ok x g own cc nL ret) (q0 t0 : Nat) {a : Nat} {cA : ClassId} {y : vp_A} {ty : FieldType} (ha : (cw g h)[q0]? = some (a, .inl (cA, y))) (ht : (tyG g)[t0]? = some (cA, ty)) {v : Int32} (hv : Int32.ofNat y.1 = v) (d : decode cc pc = .ok (.arraylength, 1)) (hn : pc + 1 = n) (k : J x g cw nL dR QR n L (.int v :: st) h E) : J x g cw nL dR QR pc L (.ref a :: st) h E := by
  obtain ⟨p, l, e, s, m, args, below, meth, c, A⟩ := x
  subst hn
  intro r hE H locs ls hP hD hS hL
  exact va_alen C.1 C.2.1 C.2.2.2.2.2.2.2.1 hP q0 t0 ha ht hv d (k r hE H locs ls hP hD hS hL)
theorem j_aald (C : Ok x g own cc nL ret) (q0 t0 : Nat) {a N b : Nat} {cA : ClassId} {Cn : String} {f : Nat → Option Nat} {i : Int32} (ha : (cw g h)[q0]? = some (a, .inl (cA, N, .inr (.inr (.inr (.inr f)))))) (ht : (tyG g)[t0]? = some (cA, .object Cn)) (hz : inR i N = true) (hb : f i.toNatClampNeg = some b) (d : decode cc pc = .ok (.aaload, 1)) (hn : pc + 1 = n) (k : J x g cw nL dR QR n L (.ref b :: st) h E) : J x g cw nL dR QR pc L (.int i :: .ref a :: st) h E := by
  obtain ⟨p, l, e, s, m, args, below, meth, c, A⟩ := x
  subst hn
  intro r hE H locs ls hP hD hS hL
  refine va_aldq C.1 C.2.1 C.2.2.2.2.2.2.2.1 hP q0 t0 ha ht (inR_vp hz) d ?_
  rw [hb]
  exact (k r hE H locs ls hP hD hS hL)
theorem j_get (C : Ok x g own cc nL ret) (q0 : Nat) {a ci i : Nat} {fs : List Value} (he : (cw g h)[q0]? = some (a, .inr (ci, fs))) {Cn : String} {T : u_T} {N : Nat} (hc : vwCl[ci]? = some (Cn, T, N)) (hin : ∀ w ∈ u_ws Cn T N, w ∈ gT) (j : Nat) (hj : j < N) (hl : Cond.fieldLink own i (T j).1 (T j).2.1 (T j).2.2.1 ∈ gT) {v : Value} (hv : fs[j]? = some v) (d : decode cc pc = .ok (.getfield i, 3)) (hn : pc + 3 = n) (k : J x g cw nL dR QR n L (v :: st) h E) : J x g cw nL dR QR pc L (.ref a :: st) h E := by
  obtain ⟨p, l, e, s, m, args, below, meth, c, A⟩ := x
  subst hn
  intro r hE H locs ls hP hD hS hL
  exact va_get C.1 C.2.1 C.2.2.2.2.2.1 hin C.2.2.2.2.1 C.2.2.2.2.2.2.2.1 hP q0 he hc j hj (C.2.2.2.2.2.1 _ hl) (fun _ h9 => h9) hv d (k r hE H locs ls hP hD hS hL)
theorem j_put (C : Ok x g own cc nL ret) (q0 : Nat) {a ci i : Nat} {fs : List Value} {v : Int32} (he : (cw g h)[q0]? = some (a, .inr (ci, fs))) {Cn : String} {T : u_T} {N : Nat} (hc : vwCl[ci]? = some (Cn, T, N)) (hin : ∀ w ∈ u_ws Cn T N, w ∈ gT) (ty0 : Nat → FieldType) (hty : ∀ k, k < N → parseFieldDescriptor (T k).2.2.1 = some (ty0 k)) (hnm : ∀ a, a < N → ∀ b, b < N → a ≠ b → (T a).2.1 ≠ (T b).2.1) (j : Nat) (hj : j < N) (hl : Cond.fieldLink own i (T j).1 (T j).2.1 (T j).2.2.1 ∈ gT) (hfin : (T j).2.2.2 = false) {ty : FieldType} (hd : parseFieldDescriptor (T j).2.2.1 = some ty) (hw : narrow ty (.int v) = .int v ∧ fits ty (.int v) = true) (hlt : j < fs.length) (hs : (cw g h).set q0 (a, .inr (ci, fs.set j (.int v))) = cw g (up h q0 j v)) (d : decode cc pc = .ok (.putfield i, 3)) (hn : pc + 3 = n) (k : J x g cw nL dR QR n L st (up h q0 j v) E) : J x g cw nL dR QR pc L (.int v :: .ref a :: st) h E := by
  obtain ⟨p, l, e, s, m, args, below, meth, c, A⟩ := x
  subst hn
  intro r hE H locs ls hP hD hS hL
  refine va_put C.1 C.2.1 C.2.2.2.2.2.1 hin ty0 hty hnm C.2.2.2.2.1 C.2.2.2.2.2.2.2.1 hP hD hS q0 he hc j hj (C.2.2.2.2.2.1 _ hl) (fun _ h9 => h9) hfin hd hw.1 hw.2 hlt d (fun H1 locs1 hP1 hD1 hS1 => ?_)
  rw [hs] at hP1 hD1
  exact k r hE H1 locs1 ls hP1 hD1 hS1 hL
theorem j_gets (C : Ok x g own cc nL ret) {Cn nm ds : String} {i : Nat} {v : Value} (hZ : ∀ (A : Nat → Prop) (U : State) (H : Heap), SX g A U H → va_Z Cn nm ds v A U H) (hl : Cond.fieldLink own i Cn nm ds ∈ gT) (d : decode cc pc = .ok (.getstatic i, 3)) (hn : pc + 3 = n) (k : J x g cw nL dR QR n L (v :: st) h E) : J x g cw nL dR QR pc L st h E := by
  obtain ⟨p, l, e, s, m, args, below, meth, c, A⟩ := x
  subst hn
  intro r hE H locs ls hP hD hS hL
  exact va_gets C.1 C.2.1 (hZ _ _ _ C.2.2.2.2.2.2.2.2.2) hS C.2.2.2.2.1 (C.2.2.2.2.2.1 _ hl) (fun _ h9 => h9) d (k r hE H locs ls hP hD hS hL)
theorem j_ti (C : Ok x g own cc nL ret) {t N : Nat} {f : Nat → Int32} {i : Int32} (hT : ∀ (A : Nat → Prop) (U : State) (H : Heap), SX g A U H → va_T .int t N (fun j => .int (f j)) A U H) (d : decode cc pc = .ok (.iaload, 1)) (hn : pc + 1 = n) (k : J x g cw nL dR QR n L (.int (f i.toNatClampNeg) :: st) h E) : J x g cw nL dR QR pc L (.int i :: .ref t :: st) h (chk (inR i N) E) := by
  obtain ⟨p, l, e, s, m, args, below, meth, c, A⟩ := x
  subst hn
  intro r hE H locs ls hP hD hS hL
  obtain ⟨hz, hE⟩ := chk_some hE
  exact va_ti C.1 C.2.1 (hT _ _ _ C.2.2.2.2.2.2.2.2.2) hS (inR_vp hz) rfl d (k r hE H locs ls hP hD hS hL)
theorem j_tiL (C : Ok x g own cc nL ret) {t N j : Nat} {f : Nat → Int32} {i : Int32} (hT : ∀ (A : Nat → Prop) (U : State) (H : Heap), SX g A U H → va_T .int t N (fun j => .int (f j)) A U H) (hz : inR i N = true ∧ i.toNatClampNeg = j) (d : decode cc pc = .ok (.iaload, 1)) (hn : pc + 1 = n) (k : J x g cw nL dR QR n L (.int (f j) :: st) h E) : J x g cw nL dR QR pc L (.int i :: .ref t :: st) h E := by
  obtain ⟨p, l, e, s, m, args, below, meth, c, A⟩ := x
  subst hn
  obtain ⟨hz, rfl⟩ := hz
  intro r hE H locs ls hP hD hS hL
  exact va_ti C.1 C.2.1 (hT _ _ _ C.2.2.2.2.2.2.2.2.2) hS (inR_vp hz) rfl d (k r hE H locs ls hP hD hS hL)
theorem j_tlen (C : Ok x g own cc nL ret) {t N : Nat} {f : Nat → Int32} (hT : ∀ (A : Nat → Prop) (U : State) (H : Heap), SX g A U H → va_T .int t N (fun j => .int (f j)) A U H) {v : Int32} (hv : Int32.ofNat N = v) (d : decode cc pc = .ok (.arraylength, 1)) (hn : pc + 1 = n) (k : J x g cw nL dR QR n L (.int v :: st) h E) : J x g cw nL dR QR pc L (.ref t :: st) h E := by
  obtain ⟨p, l, e, s, m, args, below, meth, c, A⟩ := x
  subst hn
  intro r hE H locs ls hP hD hS hL
  exact va_tlen C.1 C.2.1 (hT _ _ _ C.2.2.2.2.2.2.2.2.2) hS hv d (k r hE H locs ls hP hD hS hL)
theorem j_null (C : Ok x g own cc nL ret) (d : decode cc pc = .ok (.aconst_null, 1)) (hn : pc + 1 = n) (k : J x g cw nL dR QR n L (.null :: st) h E) : J x g cw nL dR QR pc L st h E := by
  obtain ⟨p, l, e, s, m, args, below, meth, c, A⟩ := x
  subst hn
  intro r hE H locs ls hP hD hS hL
  exact lv_null C.1 C.2.1 d (k r hE H locs ls hP hD hS hL)
theorem j_ifnull (C : Ok x g own cc nL ret) {a : Nat} {off : Int} (d : decode cc pc = .ok (.ifnull off, 3)) (hn : pc + 3 = n) (k : J x g cw nL dR QR n L st h E) : J x g cw nL dR QR pc L (.ref a :: st) h E := by
  obtain ⟨p, l, e, s, m, args, below, meth, c, A⟩ := x
  subst hn
  intro r hE H locs ls hP hD hS hL
  exact lv_ifnull C.1 C.2.1 d (k r hE H locs ls hP hD hS hL)
theorem j_ifnullN (C : Ok x g own cc nL ret) {off : Int} (d : decode cc pc = .ok (.ifnull off, 3)) (ht : (pc : Int) + off = (n : Int)) (k : J x g cw nL dR QR n L st h E) : J x g cw nL dR QR pc L (.null :: st) h E := by
  obtain ⟨p, l, e, s, m, args, below, meth, c, A⟩ := x
  intro r hE H locs ls hP hD hS hL
  exact lv_ifnullN C.1 C.2.1 d ht (k r hE H locs ls hP hD hS hL)
theorem j_ifnonnull (C : Ok x g own cc nL ret) {a : Nat} {off : Int} (d : decode cc pc = .ok (.ifnonnull off, 3)) (ht : (pc : Int) + off = (n : Int)) (k : J x g cw nL dR QR n L st h E) : J x g cw nL dR QR pc L (.ref a :: st) h E := by
  obtain ⟨p, l, e, s, m, args, below, meth, c, A⟩ := x
  intro r hE H locs ls hP hD hS hL
  exact lv_ifnonnull C.1 C.2.1 d ht (k r hE H locs ls hP hD hS hL)
theorem j_ifnonnullN (C : Ok x g own cc nL ret) {off : Int} (d : decode cc pc = .ok (.ifnonnull off, 3)) (hn : pc + 3 = n) (k : J x g cw nL dR QR n L st h E) : J x g cw nL dR QR pc L (.null :: st) h E := by
  obtain ⟨p, l, e, s, m, args, below, meth, c, A⟩ := x
  subst hn
  intro r hE H locs ls hP hD hS hL
  exact lv_ifnonnullN C.1 C.2.1 d (k r hE H locs ls hP hD hS hL)
end JRows
