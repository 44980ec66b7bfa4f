/-! the heap by cells: a cell's number is its place in the order of making -/
abbrev AK : Type := (Nat × Nat) ⊕ Nat
abbrev AH : Type := (Nat × (Nat → AK)) × (Nat → Nat → Int32) × (Nat → Nat → Int64) × (Nat → Nat → Option Nat)
def hN (h : AH) : Nat := h.1.1
def hK (h : AH) (c : Nat) : AK := h.1.2 c
def hI (h : AH) (c k : Nat) : Int32 := h.2.1 c k
def hL (h : AH) (c k : Nat) : Int64 := h.2.2.1 c k
def hR (h : AH) (c k : Nat) : Option Nat := h.2.2.2 c k
def sI (h : AH) (c k : Nat) (v : Int32) : AH := (h.1, fun c' k' => if c' = c ∧ k' = k then v else h.2.1 c' k', h.2.2)
def sL (h : AH) (c k : Nat) (v : Int64) : AH := (h.1, h.2.1, fun c' k' => if c' = c ∧ k' = k then v else h.2.2.1 c' k', h.2.2.2)
def sR (h : AH) (c k : Nat) (v : Option Nat) : AH := (h.1, h.2.1, h.2.2.1, fun c' k' => if c' = c ∧ k' = k then v else h.2.2.2 c' k')
/-- the whole of a cell's ints -/
def sF (h : AH) (c : Nat) (f : Nat → Int32) : AH := (h.1, fun c' => if c' = c then f else h.2.1 c', h.2.2)
/-- one cell more, all its places 0 or null -/
def nC (h : AH) (k : AK) : AH := ((hN h + 1, fun c => if c = hN h then k else hK h c), fun c => if c = hN h then fun _ => 0 else h.2.1 c, fun c => if c = hN h then fun _ => 0 else h.2.2.1 c, fun c => if c = hN h then fun _ => none else h.2.2.2 c)
abbrev AE : Type := Launch × (Nat × Nat × Nat × Option Nat) × (Nat × Nat × (Nat → Int32)) × va_G × (Nat → ClassId)
abbrev eL (G : AE) : Launch := G.1
abbrev eB (G : AE) : Nat := G.2.1.1
abbrev eS (G : AE) : Nat := G.2.1.2.1
abbrev eV (G : AE) : Nat := G.2.1.2.2.1
abbrev eF (G : AE) : Option Nat := G.2.1.2.2.2
abbrev eX (G : AE) : Nat × Nat × (Nat → Int32) := G.2.2.1
abbrev eD (G : AE) : va_G := G.2.2.2.1
abbrev eA (G : AE) : Nat → ClassId := G.2.2.2.2
/-- what stands for a value: a cell's number for its address, floats for the text, the script, the text's bytes, a static of the JDK's -/
def cv (G : AE) : Value → Value
  | .ref c => .ref (eB G + c)
  | .float w => if w = 0 then .ref (eS G) else if w = 1 then .ref (eX G).1 else if w = 2 then .ref (eV G) else va_rf (eF G)
  | v => v
theorem cv_cat (G : AE) (v : Value) : (cv G v).category = v.category := by
  cases v with
  | float w =>
    simp only [cv]
    split
    · rfl
    · split
      · rfl
      · split
        · rfl
        · cases eF G <;> rfl
  | _ => rfl
def aty (t : Nat) : FieldType := match t with
  | 0 => .int
  | 1 => .boolean
  | 2 => .long
  | _ => .object "CricketHay$Yard"
def atys (G : AE) : List (ClassId × FieldType) := [(eA G 0, .int), (eA G 1, .boolean), (eA G 2, .long), (eA G 3, .object "CricketHay$Yard")]
def am_V (G : AE) (h : AH) (c : Nat) (ty : Nat → FieldType) (k : Nat) : Value := match ty k with
  | .long => .long (hL h c k)
  | .object _ => va_rf ((hR h c k).map (eB G + ·))
  | .array _ => va_rf ((hR h c k).map (eB G + ·))
  | _ => .int (hI h c k)
def am_arr (G : AE) (h : AH) (c t n : Nat) : vp_A := match t with
  | 2 => (n, .inr (.inl (hL h c)))
  | 3 => (n, .inr (.inr (.inr (.inr (fun j => (hR h c j).map (eB G + ·))))))
  | _ => (n, .inl (hI h c))
def am_at (G : AE) (h : AH) (c : Nat) (H : Heap) : Prop := match hK h c with
  | .inl q => q.1 < 4 ∧ H[eB G + c]? = some (vp_cell (eA G q.1) (am_arr G h c q.1 q.2))
  | .inr ci => ∃ r, classes[ci]? = some r ∧ t_OB (eB G + c) ((eD G).1 ci) r.2.2 ((eD G).2 ci) H (am_V G h c (tyF ci))
def Rep (G : AE) (h : AH) (H : Heap) : Prop := H.size = eB G + hN h ∧ ∀ c, c < hN h → am_at G h c H
/-- the machine's own: links among nest mates, the class of an array of yards, the text of the words, the script -/
def nestW : List (String × Nat × MethodName × String) := [("CricketHay", 11, ⟨"CricketHay$Reader", "<init>", "()V"⟩, "CricketHay"), ("CricketHay$Market", 39, ⟨"CricketHay$Formula", "<init>", "()V"⟩, "CricketHay"), ("CricketHay", 28, ⟨"CricketHay$Yard", "<init>", "()V"⟩, "CricketHay"), ("CricketHay", 38, ⟨"CricketHay$Choir", "<init>", "()V"⟩, "CricketHay"), ("CricketHay$Acts", 24, ⟨"CricketHay$Yard", "<init>", "()V"⟩, "CricketHay"), ("CricketHay$Boxes", 21, ⟨"CricketHay$Yard", "<init>", "()V"⟩, "CricketHay"), ("CricketHay", 59, ⟨"CricketHay$Ears", "<init>", "()V"⟩, "CricketHay"), ("CricketHay", 66, ⟨"CricketHay$Mating", "<init>", "()V"⟩, "CricketHay"), ("CricketHay", 73, ⟨"CricketHay$Clearing", "<init>", "()V"⟩, "CricketHay"), ("CricketHay", 80, ⟨"CricketHay$Lie", "<init>", "()V"⟩, "CricketHay"), ("CricketHay$Reader", 29, ⟨"CricketHay$Market", "reset", "()V"⟩, "CricketHay")]
def txW : String := "kind    dealer  of      song    age     gold    loads   needs   chirps  heat    snap    cart    draw    or      and     not     mates   hour    day     "
def byW : List Int32 := [107, 105, 110, 100, 32, 32, 32, 32, 100, 101, 97, 108, 101, 114, 32, 32, 111, 102, 32, 32, 32, 32, 32, 32, 115, 111, 110, 103, 32, 32, 32, 32, 97, 103, 101, 32, 32, 32, 32, 32, 103, 111, 108, 100, 32, 32, 32, 32, 108, 111, 97, 100, 115, 32, 32, 32, 110, 101, 101, 100, 115, 32, 32, 32, 99, 104, 105, 114, 112, 115, 32, 32, 104, 101, 97, 116, 32, 32, 32, 32, 115, 110, 97, 112, 32, 32, 32, 32, 99, 97, 114, 116, 32, 32, 32, 32, 100, 114, 97, 119, 32, 32, 32, 32, 111, 114, 32, 32, 32, 32, 32, 32, 97, 110, 100, 32, 32, 32, 32, 32, 110, 111, 116, 32, 32, 32, 32, 32, 109, 97, 116, 101, 115, 32, 32, 32, 104, 111, 117, 114, 32, 32, 32, 32, 100, 97, 121, 32, 32, 32, 32, 32]
def xw (G : AE) (U : State) (H : Heap) : Prop := va_AO "CricketHay$Yard" U ∧ (∀ q ∈ nestW, va_Nw (.methodLinkNest q.1 q.2.1 q.2.2.1 q.2.2.2) U) ∧ vk_S 1 [152] [byW] (fun _ => eS G) (fun _ => eV G) (fun q => eB G ≤ q) U H ∧ vk_R "CricketHay$Reader" 79 txW (eS G) U ∧ ((eX G).1 < eB G ∧ va_X (eX G).1 (eX G).2.1 (eX G).2.2 U H) ∧ va_Z "java/lang/String" "COMPACT_STRINGS" "Z" (.int 1) (fun q => eB G ≤ q) U H ∧ va_Z "jdk/internal/util/Preconditions" "SIOOBE_FORMATTER" "Ljava/util/function/BiFunction;" (va_rf (eF G)) (fun q => eB G ≤ q) U H
theorem xw.go {G : AE} {s U : State} {H H1 : Heap} (h : xw G s H) (hW : s.WarmedH U.vm) (hb : eB G ≤ H.size) (hq : ∀ q : Nat, q < eB G → H1[q]? = H[q]?) : xw G U H1 := by
  obtain ⟨h1, h2, h3, h4, ⟨h5, h6⟩, h7, h8⟩ := h
  have hk : ∀ a : Nat, a < H.size → ¬ (fun q => eB G ≤ q) a → H1[a]? = H[a]? := fun a _ hn => hq a (Nat.lt_of_not_le hn)
  exact ⟨h1.moved hW.alike, fun q hq => va_Nw.warmM hW (h2 q hq), (h3.moved hW.alike).kept hk, h4.warm hW, ⟨h5, (h6.kept (hq _ h5)).moved hW.alike⟩, (h7.moved hW.alike).kept hk, (h8.moved hW.alike).kept hk⟩
abbrev MI : Type := MethodName × ByteArray × Nat × Option FieldType
def wsM (y : MI) : List Cond := .code y.1 y.2.1 y.2.2.1 y.2.2.2 :: lw_good
def rmM (d mc ms : Nat) : Room := { frames := d, cells := mc, slots := ms, locals := 60 * d }
def Cx (G : AE) (y : MI) (p : Program) (s : State) (m : MethodId) (args : Array Value) (meth : Method) (c : Code) : Prop :=
  p.tables.exec = Jvm.exec ∧ c.code = y.2.1 ∧ c.maxLocals = y.2.2.1 ∧ meth.sig.returnType = y.2.2.2 ∧ s.vm.findClass y.1.cls = some m.cls ∧ (∀ w ∈ lw_good, w.before args s = true) ∧ meth.locks = false ∧ va_K (eD G) classes (atys G) s ∧ xw G s s.heap ∧ eB G ≤ s.heap.size ∧ meth.name = y.1.name
def lvp (f : Value → Value) : Nat → List (Option Value) → List (Nat × Value)
  | _, [] => []
  | i, none :: t => lvp f (i + 1) t
  | i, some v :: t => (i, f v) :: lvp f (i + 1) t
theorem lvp_mem {f : Value → Value} : ∀ (l : List (Option Value)) (i : Nat) (q : Nat × Value), q ∈ lvp f i l ↔ ∃ j v, l[j]? = some (some v) ∧ q = (i + j, f v) := by
  intro l
  induction l with
  | nil => intro i q; simp [lvp]
  | cons a t ih =>
    intro i q
    cases a with
    | none =>
      rw [lvp, ih]
      constructor
      · rintro ⟨j, v, h1, h2⟩
        exact ⟨j + 1, v, by simpa using h1, by rw [h2]; congr 1; omega⟩
      · rintro ⟨j, v, h1, h2⟩
        cases j with
        | zero => simp at h1
        | succ j => exact ⟨j, v, by simpa using h1, by rw [h2]; congr 1; omega⟩
    | some w =>
      rw [lvp, List.mem_cons, ih]
      constructor
      · rintro (h | ⟨j, v, h1, h2⟩)
        · exact ⟨0, w, by simp, by simpa using h⟩
        · exact ⟨j + 1, v, by simpa using h1, by rw [h2]; congr 1; omega⟩
      · rintro ⟨j, v, h1, h2⟩
        cases j with
        | zero =>
          simp at h1
          left
          rw [h2, h1]
          rfl
        | succ j => exact Or.inr ⟨j, v, by simpa using h1, by rw [h2]; congr 1; omega⟩
theorem al_get {G : AE} {ls : Array Slot} {nL i : Nat} {lv : List (Option Value)} {v : Value} (h : lv_has ls nL (lvp (cv G) 0 lv)) (hi : lv[i]? = some (some v)) : ls[i]? = some (.val (cv G v)) := by
  have := h.2.2 (i, cv G v) ((lvp_mem lv 0 _).mpr ⟨i, v, hi, by simp⟩)
  exact this
theorem al_mono {ls : Array Slot} {nL : Nat} {l l' : List (Nat × Value)} (h : lv_has ls nL l) (hs : ∀ q ∈ l', q ∈ l) : lv_has ls nL l' := ⟨h.1, h.2.1, fun q hq => h.2.2 q (hs q hq)⟩
def clr (lv : List (Option Value)) (i : Nat) : List (Option Value) := match i with
  | 0 => lv
  | j + 1 => match lv[j]? with
    | some (some w) => if w.category = 2 then lv.set j none else lv
    | _ => lv
theorem clr_get {lv : List (Option Value)} {i j : Nat} {w : Value} (h : (clr lv i)[j]? = some (some w)) : lv[j]? = some (some w) ∧ ¬ (j + 1 = i ∧ w.category = 2) := by
  cases i with
  | zero => exact ⟨h, fun q => by omega⟩
  | succ k =>
    simp only [clr] at h
    split at h
    · rename_i w' hw
      split at h
      · rename_i hc
        by_cases hjk : k = j
        · subst hjk
          simp [List.getElem?_set] at h
        · rw [List.getElem?_set_ne hjk] at h
          exact ⟨h, fun q => hjk (by omega)⟩
      · rename_i hc
        refine ⟨h, fun q => ?_⟩
        have : k = j := by omega
        subst this
        rw [hw] at h
        cases h
        exact hc q.2
    · rename_i hn
      refine ⟨h, fun q => ?_⟩
      have : k = j := by omega
      subst this
      exact hn w h
def stl (lv : List (Option Value)) (i : Nat) (v : Value) : List (Option Value) := (clr lv i).set i (some v)
def stl2 (lv : List (Option Value)) (i : Nat) (v : Value) : List (Option Value) := ((clr lv i).set i (some v)).set (i + 1) none
theorem al_set {G : AE} {ls : Array Slot} {nL i : Nat} {lv lv' : List (Option Value)} {v : Value} (hv : stl lv i v = lv')
    (h : lv_has ls nL ((i, cv G v) :: (lvp (cv G) 0 lv).filter (fun q => !(q.1 == i) && !(q.1 + 1 == i && q.2.category == 2)))) : lv_has ls nL (lvp (cv G) 0 lv') := by
  subst hv
  refine al_mono h fun q hq => ?_
  obtain ⟨j, w, h1, rfl⟩ := (lvp_mem _ _ _).mp hq
  by_cases hj : i = j
  · subst hj
    have hl : (stl lv i v)[i]? = some (some v) := by
      have := (List.getElem?_eq_some_iff.mp h1).1
      simp only [stl, List.length_set] at this
      simp [stl, this]
    rw [hl] at h1
    cases h1
    simp
  · rw [stl, List.getElem?_set_ne hj] at h1
    obtain ⟨h2, h3⟩ := clr_get h1
    refine List.mem_cons_of_mem _ (List.mem_filter.mpr ⟨(lvp_mem _ _ _).mpr ⟨j, w, h2, rfl⟩, ?_⟩)
    simp only [Nat.zero_add, cv_cat, Bool.and_eq_true, Bool.not_eq_true', beq_eq_false_iff_ne, ne_eq, Bool.and_eq_false_imp, beq_iff_eq]
    exact ⟨fun e => hj e.symm, fun e1 => fun e2 => h3 ⟨e1, e2⟩⟩
theorem al_set2 {G : AE} {ls : Array Slot} {nL i : Nat} {lv lv' : List (Option Value)} {v : Value} (hv : stl2 lv i v = lv')
    (h : lv_has ls nL ((i, cv G v) :: (lvp (cv G) 0 lv).filter (fun q => !(q.1 == i) && (!(q.1 == i + 1) && !(q.1 + 1 == i && q.2.category == 2))))) : lv_has ls nL (lvp (cv G) 0 lv') := by
  subst hv
  refine al_mono h fun q hq => ?_
  obtain ⟨j, w, h1, rfl⟩ := (lvp_mem _ _ _).mp hq
  by_cases hj1 : i + 1 = j
  · subst hj1
    simp [stl2, List.getElem?_set] at h1
  rw [stl2, List.getElem?_set_ne hj1] at h1
  by_cases hj : i = j
  · subst hj
    have hl : ((clr lv i).set i (some v))[i]? = some (some v) := by
      have := (List.getElem?_eq_some_iff.mp h1).1
      simp only [List.length_set] at this
      simp [this]
    rw [hl] at h1
    cases h1
    simp
  · rw [List.getElem?_set_ne hj] at h1
    obtain ⟨h2, h3⟩ := clr_get h1
    refine List.mem_cons_of_mem _ (List.mem_filter.mpr ⟨(lvp_mem _ _ _).mpr ⟨j, w, h2, rfl⟩, ?_⟩)
    simp only [Nat.zero_add, cv_cat, Bool.and_eq_true, Bool.not_eq_true', beq_eq_false_iff_ne, ne_eq, Bool.and_eq_false_imp, beq_iff_eq]
    exact ⟨fun e => hj e.symm, fun e => hj1 e.symm, fun e1 => fun e2 => h3 ⟨e1, e2⟩⟩
def wk : List (Option Value) → List (Option Value) → Prop
  | [], _ => True
  | none :: t, _ :: t' => wk t t'
  | none :: t, [] => wk t []
  | some v :: t, x :: t' => x = some v ∧ wk t t'
  | some _ :: _, [] => False
theorem wk_get : ∀ (a b : List (Option Value)), wk a b → ∀ (j : Nat) (v : Value), a[j]? = some (some v) → b[j]? = some (some v) := by
  intro a
  induction a with
  | nil => intro b _ j v h; simp at h
  | cons x t ih =>
    intro b hw j v h
    cases x with
    | none =>
      cases b with
      | nil =>
        cases j with
        | zero => simp at h
        | succ j => have := ih [] hw j v (by simpa using h); simp at this
      | cons y t' =>
        cases j with
        | zero => simp at h
        | succ j => simpa using ih t' hw j v (by simpa using h)
    | some w =>
      cases b with
      | nil => exact hw.elim
      | cons y t' =>
        cases j with
        | zero => simp at h; subst h; simp [hw.1]
        | succ j => simpa using ih t' hw.2 j v (by simpa using h)
theorem al_wk {G : AE} {ls : Array Slot} {nL : Nat} {lv lv' : List (Option Value)} (hw : wk lv' lv) (h : lv_has ls nL (lvp (cv G) 0 lv)) : lv_has ls nL (lvp (cv G) 0 lv') := by
  refine al_mono h fun q hq => ?_
  obtain ⟨j, w, h1, rfl⟩ := (lvp_mem _ _ _).mp hq
  exact (lvp_mem _ _ _).mpr ⟨j, w, wk_get _ _ hw j w h1, rfl⟩

/-! what a program from here on answers, and that the machine does the same -/
abbrev AZ : Type := Option Value → AH → List Frame → Array Value → State → State → Prop
def AR {α : Type} (G : AE) (S : AH → Prop) (y : MI) (R : Room) (Z : AZ) (φ : α → Option Value × AH) (kn : Nat × Nat) (pc : Nat) (lv : List (Option Value)) (st : List Value) (h : AH) (X : Option α) : Prop :=
  ∀ a, X = some a → S h → ∀ (p : Program) (e : Env) (s : State) (m : MethodId) (args : Array Value) (below : List Frame) (meth : Method) (c : Code) (H : Heap) (ls : Array Slot) (locs : List Loc), Cx G y p s m args meth c → Rep G h H → va_S (fun q => eB G ≤ q) s.heap H locs → lv_has ls y.2.2.1 (lvp (cv G) 0 lv) →
    W p (eL G) e R s m args below meth c H locs kn.1 kn.2 (Z (φ a).1 (φ a).2 below args s) (F0 m pc ls (st.map (cv G)))
def AQ (G : AE) (S : AH → Prop) (r : Option Value) (h' : AH) : Array Value → State → Outcome → State → Prop := fun _ st oc t => oc = .returned (r.map (cv G)) ∧ S h' ∧ Rep G h' t.heap ∧ va_F (fun q => eB G ≤ q) st t
def qM (G : AE) (S : AH → Prop) (mc ms : Nat) : AZ := fun r h' below args s => MQ below (AQ G S r h') args s mc ms (fun q => eB G ≤ q)
def Ok {α : Type} (G : AE) (S : AH → Prop) (y : MI) (d mc ms : Nat) (φ : α → Option Value × AH) (vs : List Value) (h : AH) (X : Option α) : Prop :=
  ∀ a, X = some a → S h → Met (eL G) y.1 (wsM y) (rmM d mc ms) (va_Pc (vs.map (cv G)) (fun U => Rep G h U.heap ∧ va_K (eD G) classes (atys G) U ∧ xw G U U.heap ∧ eB G ≤ U.heap.size)) (AQ G S (φ a).1 (φ a).2) mc ms (fun q => eB G ≤ q)
def φI (q : Int32 × AH) : Option Value × AH := (some (.int q.1), q.2)
def φV (q : AH) : Option Value × AH := (none, q)
def bI {α : Type} (f : Option (Int32 × AH)) (K : Int32 → AH → Option α) : Option α := match f with
  | some q => K q.1 q.2
  | none => none
def bV {α : Type} (f : Option AH) (K : AH → Option α) : Option α := match f with
  | some q => K q
  | none => none
/-- an index that must be inside -/
def gx {α : Type} (i : Int32) (n : Nat) (K : Option α) : Option α := if 0 ≤ i.toInt ∧ i.toInt < n then K else none
/-- a divisor that must not be 0 -/
def gz {α : Type} (y : Int32) (K : Option α) : Option α := if y = 0 then none else K
/-- a truth value -/
def gb {α : Type} (v : Int32) (K : Option α) : Option α := if vp_nar .boolean v = v then K else none
/-- what a fact needs -/
def gp {α : Type} (b : Bool) (K : Option α) : Option α := if b = true then K else none
def ix (i : Int32) : Nat := i.toNatClampNeg

section AM
variable {α : Type} {G : AE} {S : AH → Prop} {y : MI} {R : Room} {Z : AZ} {φ : α → Option Value × AH} {kn : Nat × Nat} {pc : Nat} {lv : List (Option Value)} {st : List Value} {h : AH} {X : Option α}
theorem r_iconst {n : Int} {v : Int32} (hd : decode y.2.1 pc = .ok (.iconst n, 1)) (hv : Int32.ofInt n = v) (K : AR G S y R Z φ kn (pc + 1) lv (.int v :: st) h X) : AR G S y R Z φ kn pc lv st h X := by
  intro a hX hS p e s m args below meth c H ls locs C hR hSv hl
  exact lv_iconst C.1 C.2.1 hd hv (K a hX hS p e s m args below meth c H ls locs C hR hSv hl)
theorem r_bipush {n : Int} {v : Int32} (hd : decode y.2.1 pc = .ok (.bipush n, 2)) (hv : (Int8.ofInt n).toInt32 = v) (K : AR G S y R Z φ kn (pc + 2) lv (.int v :: st) h X) : AR G S y R Z φ kn pc lv st h X := by
  intro a hX hS p e s m args below meth c H ls locs C hR hSv hl
  exact lv_bipush C.1 C.2.1 hd hv (K a hX hS p e s m args below meth c H ls locs C hR hSv hl)
theorem r_sipush {n : Int} {v : Int32} (hd : decode y.2.1 pc = .ok (.sipush n, 3)) (hv : (Int16.ofInt n).toInt32 = v) (K : AR G S y R Z φ kn (pc + 3) lv (.int v :: st) h X) : AR G S y R Z φ kn pc lv st h X := by
  intro a hX hS p e s m args below meth c H ls locs C hR hSv hl
  exact lv_sipush C.1 C.2.1 hd hv (K a hX hS p e s m args below meth c H ls locs C hR hSv hl)
theorem r_lconst {n : Fin 2} {v : Int64} (hd : decode y.2.1 pc = .ok (.lconst n, 1)) (hv : Int64.ofNat (n : Nat) = v) (K : AR G S y R Z φ kn (pc + 1) lv (.long v :: st) h X) : AR G S y R Z φ kn pc lv st h X := by
  intro a hX hS p e s m args below meth c H ls locs C hR hSv hl
  exact lv_lconst C.1 C.2.1 hd hv (K a hX hS p e s m args below meth c H ls locs C hR hSv hl)
theorem r_iload_n {k : Fin 4} {i : Nat} {x : Int32} (hd : decode y.2.1 pc = .ok (.iload_n k, 1)) (hi : (k : Nat) = i) (hx : lv[i]? = some (some (.int x))) (K : AR G S y R Z φ kn (pc + 1) lv (.int x :: st) h X) : AR G S y R Z φ kn pc lv st h X := by
  intro a hX hS p e s m args below meth c H ls locs C hR hSv hl
  exact lv_iload_n C.1 C.2.1 hd hi (al_get hl hx) (K a hX hS p e s m args below meth c H ls locs C hR hSv hl)
theorem r_iload {i : Nat} {x : Int32} (hd : decode y.2.1 pc = .ok (.iload i, 2)) (hx : lv[i]? = some (some (.int x))) (K : AR G S y R Z φ kn (pc + 2) lv (.int x :: st) h X) : AR G S y R Z φ kn pc lv st h X := by
  intro a hX hS p e s m args below meth c H ls locs C hR hSv hl
  exact lv_iload C.1 C.2.1 hd (al_get hl hx) (K a hX hS p e s m args below meth c H ls locs C hR hSv hl)
theorem r_lload_n {k : Fin 4} {i : Nat} {x : Int64} (hd : decode y.2.1 pc = .ok (.lload_n k, 1)) (hi : (k : Nat) = i) (hx : lv[i]? = some (some (.long x))) (K : AR G S y R Z φ kn (pc + 1) lv (.long x :: st) h X) : AR G S y R Z φ kn pc lv st h X := by
  intro a hX hS p e s m args below meth c H ls locs C hR hSv hl
  exact lv_lload_n C.1 C.2.1 hd hi (al_get hl hx) (K a hX hS p e s m args below meth c H ls locs C hR hSv hl)
theorem r_lload {i : Nat} {x : Int64} (hd : decode y.2.1 pc = .ok (.lload i, 2)) (hx : lv[i]? = some (some (.long x))) (K : AR G S y R Z φ kn (pc + 2) lv (.long x :: st) h X) : AR G S y R Z φ kn pc lv st h X := by
  intro a hX hS p e s m args below meth c H ls locs C hR hSv hl
  exact lv_lload C.1 C.2.1 hd (al_get hl hx) (K a hX hS p e s m args below meth c H ls locs C hR hSv hl)
theorem r_aload_n {k : Fin 4} {i : Nat} {x : Nat} (hd : decode y.2.1 pc = .ok (.aload_n k, 1)) (hi : (k : Nat) = i) (hx : lv[i]? = some (some (.ref x))) (K : AR G S y R Z φ kn (pc + 1) lv (.ref x :: st) h X) : AR G S y R Z φ kn pc lv st h X := by
  intro a hX hS p e s m args below meth c H ls locs C hR hSv hl
  exact lv_aload_n C.1 C.2.1 hd hi (al_get hl hx) (K a hX hS p e s m args below meth c H ls locs C hR hSv hl)
theorem r_aload {i : Nat} {x : Nat} (hd : decode y.2.1 pc = .ok (.aload i, 2)) (hx : lv[i]? = some (some (.ref x))) (K : AR G S y R Z φ kn (pc + 2) lv (.ref x :: st) h X) : AR G S y R Z φ kn pc lv st h X := by
  intro a hX hS p e s m args below meth c H ls locs C hR hSv hl
  exact lv_aload C.1 C.2.1 hd (al_get hl hx) (K a hX hS p e s m args below meth c H ls locs C hR hSv hl)
theorem r_istore_n {k : Fin 4} {i : Nat} {x : Int32} {lv1 : List (Option Value)} (hd : decode y.2.1 pc = .ok (.istore_n k, 1)) (hi : (k : Nat) = i) (hn : i < y.2.2.1) (hv : stl lv i (.int x) = lv1) (K : AR G S y R Z φ kn (pc + 1) lv1 st h X) : AR G S y R Z φ kn pc lv (.int x :: st) h X := by
  intro a hX hS p e s m args below meth c H ls locs C hR hSv hl
  exact lv_istore_n C.1 C.2.1 hd hi hl hn rfl (fun ls1 hl1 => K a hX hS p e s m args below meth c H ls1 locs C hR hSv (al_set hv hl1))
theorem r_istore {i : Nat} {x : Int32} {lv1 : List (Option Value)} (hd : decode y.2.1 pc = .ok (.istore i, 2)) (hn : i < y.2.2.1) (hv : stl lv i (.int x) = lv1) (K : AR G S y R Z φ kn (pc + 2) lv1 st h X) : AR G S y R Z φ kn pc lv (.int x :: st) h X := by
  intro a hX hS p e s m args below meth c H ls locs C hR hSv hl
  exact lv_istore C.1 C.2.1 hd hl hn rfl (fun ls1 hl1 => K a hX hS p e s m args below meth c H ls1 locs C hR hSv (al_set hv hl1))
theorem r_lstore_n {k : Fin 4} {i : Nat} {x : Int64} {lv1 : List (Option Value)} (hd : decode y.2.1 pc = .ok (.lstore_n k, 1)) (hi : (k : Nat) = i) (hn : i + 1 < y.2.2.1) (hv : stl2 lv i (.long x) = lv1) (K : AR G S y R Z φ kn (pc + 1) lv1 st h X) : AR G S y R Z φ kn pc lv (.long x :: st) h X := by
  intro a hX hS p e s m args below meth c H ls locs C hR hSv hl
  exact lv_lstore_n C.1 C.2.1 hd hi hl hn rfl (fun ls1 hl1 => K a hX hS p e s m args below meth c H ls1 locs C hR hSv (al_set2 hv hl1))
theorem r_lstore {i : Nat} {x : Int64} {lv1 : List (Option Value)} (hd : decode y.2.1 pc = .ok (.lstore i, 2)) (hn : i + 1 < y.2.2.1) (hv : stl2 lv i (.long x) = lv1) (K : AR G S y R Z φ kn (pc + 2) lv1 st h X) : AR G S y R Z φ kn pc lv (.long x :: st) h X := by
  intro a hX hS p e s m args below meth c H ls locs C hR hSv hl
  exact lv_lstore C.1 C.2.1 hd hl hn rfl (fun ls1 hl1 => K a hX hS p e s m args below meth c H ls1 locs C hR hSv (al_set2 hv hl1))
theorem r_astore_n {k : Fin 4} {i : Nat} {x : Nat} {lv1 : List (Option Value)} (hd : decode y.2.1 pc = .ok (.astore_n k, 1)) (hi : (k : Nat) = i) (hn : i < y.2.2.1) (hv : stl lv i (.ref x) = lv1) (K : AR G S y R Z φ kn (pc + 1) lv1 st h X) : AR G S y R Z φ kn pc lv (.ref x :: st) h X := by
  intro a hX hS p e s m args below meth c H ls locs C hR hSv hl
  exact lv_astore_n C.1 C.2.1 hd hi hl hn rfl (fun ls1 hl1 => K a hX hS p e s m args below meth c H ls1 locs C hR hSv (al_set hv hl1))
theorem r_astore {i : Nat} {x : Nat} {lv1 : List (Option Value)} (hd : decode y.2.1 pc = .ok (.astore i, 2)) (hn : i < y.2.2.1) (hv : stl lv i (.ref x) = lv1) (K : AR G S y R Z φ kn (pc + 2) lv1 st h X) : AR G S y R Z φ kn pc lv (.ref x :: st) h X := by
  intro a hX hS p e s m args below meth c H ls locs C hR hSv hl
  exact lv_astore C.1 C.2.1 hd hl hn rfl (fun ls1 hl1 => K a hX hS p e s m args below meth c H ls1 locs C hR hSv (al_set hv hl1))
theorem r_iinc {i : Nat} {n : Int} {x v : Int32} {lv1 : List (Option Value)} (hd : decode y.2.1 pc = .ok (.iinc i n, 3)) (hx : lv[i]? = some (some (.int x))) (hv : x + Int32.ofInt n = v) (hn : i < y.2.2.1) (hl1 : stl lv i (.int v) = lv1) (K : AR G S y R Z φ kn (pc + 3) lv1 st h X) : AR G S y R Z φ kn pc lv st h X := by
  intro a hX hS p e s m args below meth c H ls locs C hR hSv hl
  obtain ⟨k, hk⟩ := List.getElem?_of_mem ((lvp_mem lv 0 (i, cv G (.int x))).mpr ⟨i, .int x, hx, by rw [Nat.zero_add]⟩)
  exact lv_iinc C.1 C.2.1 hd hl hk hv hn rfl (fun ls1 hl2 => K a hX hS p e s m args below meth c H ls1 locs C hR hSv (al_set hl1 hl2))
theorem r_iadd {x y1 : Int32} (hd : decode y.2.1 pc = .ok (.iadd, 1)) (K : AR G S y R Z φ kn (pc + 1) lv (.int (x + y1) :: st) h X) : AR G S y R Z φ kn pc lv (.int y1 :: .int x :: st) h X := by
  intro a hX hS p e s m args below meth c H ls locs C hR hSv hl
  exact lv_iadd C.1 C.2.1 hd (K a hX hS p e s m args below meth c H ls locs C hR hSv hl)
theorem r_isub {x y1 : Int32} (hd : decode y.2.1 pc = .ok (.isub, 1)) (K : AR G S y R Z φ kn (pc + 1) lv (.int (x - y1) :: st) h X) : AR G S y R Z φ kn pc lv (.int y1 :: .int x :: st) h X := by
  intro a hX hS p e s m args below meth c H ls locs C hR hSv hl
  exact lv_isub C.1 C.2.1 hd (K a hX hS p e s m args below meth c H ls locs C hR hSv hl)
theorem r_imul {x y1 : Int32} (hd : decode y.2.1 pc = .ok (.imul, 1)) (K : AR G S y R Z φ kn (pc + 1) lv (.int (x * y1) :: st) h X) : AR G S y R Z φ kn pc lv (.int y1 :: .int x :: st) h X := by
  intro a hX hS p e s m args below meth c H ls locs C hR hSv hl
  exact lv_imul C.1 C.2.1 hd (K a hX hS p e s m args below meth c H ls locs C hR hSv hl)
theorem r_iand {x y1 : Int32} (hd : decode y.2.1 pc = .ok (.iand, 1)) (K : AR G S y R Z φ kn (pc + 1) lv (.int (x &&& y1) :: st) h X) : AR G S y R Z φ kn pc lv (.int y1 :: .int x :: st) h X := by
  intro a hX hS p e s m args below meth c H ls locs C hR hSv hl
  exact lv_iand C.1 C.2.1 hd (K a hX hS p e s m args below meth c H ls locs C hR hSv hl)
theorem r_ior {x y1 : Int32} (hd : decode y.2.1 pc = .ok (.ior, 1)) (K : AR G S y R Z φ kn (pc + 1) lv (.int (x ||| y1) :: st) h X) : AR G S y R Z φ kn pc lv (.int y1 :: .int x :: st) h X := by
  intro a hX hS p e s m args below meth c H ls locs C hR hSv hl
  exact lv_ior C.1 C.2.1 hd (K a hX hS p e s m args below meth c H ls locs C hR hSv hl)
theorem r_ixor {x y1 : Int32} (hd : decode y.2.1 pc = .ok (.ixor, 1)) (K : AR G S y R Z φ kn (pc + 1) lv (.int (x ^^^ y1) :: st) h X) : AR G S y R Z φ kn pc lv (.int y1 :: .int x :: st) h X := by
  intro a hX hS p e s m args below meth c H ls locs C hR hSv hl
  exact lv_ixor C.1 C.2.1 hd (K a hX hS p e s m args below meth c H ls locs C hR hSv hl)
theorem r_ladd {x y1 : Int64} (hd : decode y.2.1 pc = .ok (.ladd, 1)) (K : AR G S y R Z φ kn (pc + 1) lv (.long (x + y1) :: st) h X) : AR G S y R Z φ kn pc lv (.long y1 :: .long x :: st) h X := by
  intro a hX hS p e s m args below meth c H ls locs C hR hSv hl
  exact lv_ladd C.1 C.2.1 hd (K a hX hS p e s m args below meth c H ls locs C hR hSv hl)
theorem r_lor {x y1 : Int64} (hd : decode y.2.1 pc = .ok (.lor, 1)) (K : AR G S y R Z φ kn (pc + 1) lv (.long (x ||| y1) :: st) h X) : AR G S y R Z φ kn pc lv (.long y1 :: .long x :: st) h X := by
  intro a hX hS p e s m args below meth c H ls locs C hR hSv hl
  exact lv_lor C.1 C.2.1 hd (K a hX hS p e s m args below meth c H ls locs C hR hSv hl)
theorem r_land {x y1 : Int64} (hd : decode y.2.1 pc = .ok (.land, 1)) (K : AR G S y R Z φ kn (pc + 1) lv (.long (x &&& y1) :: st) h X) : AR G S y R Z φ kn pc lv (.long y1 :: .long x :: st) h X := by
  intro a hX hS p e s m args below meth c H ls locs C hR hSv hl
  exact lv_land C.1 C.2.1 hd (K a hX hS p e s m args below meth c H ls locs C hR hSv hl)
theorem r_ishl {x y1 : Int32} (hd : decode y.2.1 pc = .ok (.ishl, 1)) (K : AR G S y R Z φ kn (pc + 1) lv (.int (x <<< (y1 &&& 31)) :: st) h X) : AR G S y R Z φ kn pc lv (.int y1 :: .int x :: st) h X := by
  intro a hX hS p e s m args below meth c H ls locs C hR hSv hl
  exact lv_ishl C.1 C.2.1 hd (K a hX hS p e s m args below meth c H ls locs C hR hSv hl)
theorem r_ishr {x y1 : Int32} (hd : decode y.2.1 pc = .ok (.ishr, 1)) (K : AR G S y R Z φ kn (pc + 1) lv (.int (x >>> (y1 &&& 31)) :: st) h X) : AR G S y R Z φ kn pc lv (.int y1 :: .int x :: st) h X := by
  intro a hX hS p e s m args below meth c H ls locs C hR hSv hl
  exact lv_ishr C.1 C.2.1 hd (K a hX hS p e s m args below meth c H ls locs C hR hSv hl)
def ushr (x y : Int32) : Int32 := (x.toUInt32 >>> (y.toUInt32 &&& Int32.toUInt32 31)).toInt32
def lshl (x : Int64) (y : Int32) : Int64 := x <<< (y.toInt64 &&& 63)
theorem r_iushr {x y1 : Int32} (hd : decode y.2.1 pc = .ok (.iushr, 1)) (K : AR G S y R Z φ kn (pc + 1) lv (.int (ushr x y1) :: st) h X) : AR G S y R Z φ kn pc lv (.int y1 :: .int x :: st) h X := by
  intro a hX hS p e s m args below meth c H ls locs C hR hSv hl
  exact lv_iushr C.1 C.2.1 hd rfl (K a hX hS p e s m args below meth c H ls locs C hR hSv hl)
theorem r_lshl {x : Int64} {y1 : Int32} (hd : decode y.2.1 pc = .ok (.lshl, 1)) (K : AR G S y R Z φ kn (pc + 1) lv (.long (lshl x y1) :: st) h X) : AR G S y R Z φ kn pc lv (.int y1 :: .long x :: st) h X := by
  intro a hX hS p e s m args below meth c H ls locs C hR hSv hl
  exact lv_lshl C.1 C.2.1 hd rfl (K a hX hS p e s m args below meth c H ls locs C hR hSv hl)
theorem r_ineg {x : Int32} (hd : decode y.2.1 pc = .ok (.ineg, 1)) (K : AR G S y R Z φ kn (pc + 1) lv (.int (-x) :: st) h X) : AR G S y R Z φ kn pc lv (.int x :: st) h X := by
  intro a hX hS p e s m args below meth c H ls locs C hR hSv hl
  exact lv_ineg C.1 C.2.1 hd (K a hX hS p e s m args below meth c H ls locs C hR hSv hl)
theorem r_i2l {x : Int32} (hd : decode y.2.1 pc = .ok (.i2l, 1)) (K : AR G S y R Z φ kn (pc + 1) lv (.long x.toInt64 :: st) h X) : AR G S y R Z φ kn pc lv (.int x :: st) h X := by
  intro a hX hS p e s m args below meth c H ls locs C hR hSv hl
  exact lv_i2l C.1 C.2.1 hd rfl (K a hX hS p e s m args below meth c H ls locs C hR hSv hl)
theorem r_lcmp {x y1 : Int64} (hd : decode y.2.1 pc = .ok (.lcmp, 1)) (K : AR G S y R Z φ kn (pc + 1) lv (.int (lg_cmp x y1) :: st) h X) : AR G S y R Z φ kn pc lv (.long y1 :: .long x :: st) h X := by
  intro a hX hS p e s m args below meth c H ls locs C hR hSv hl
  exact W.lcmp C.1 C.2.1 hd (K a hX hS p e s m args below meth c H ls locs C hR hSv hl)
theorem r_dup {v : Value} (hd : decode y.2.1 pc = .ok (.dup, 1)) (hc : v.category = 1) (K : AR G S y R Z φ kn (pc + 1) lv (v :: v :: st) h X) : AR G S y R Z φ kn pc lv (v :: st) h X := by
  intro a hX hS p e s m args below meth c H ls locs C hR hSv hl
  exact lv_dup C.1 C.2.1 hd (by rw [cv_cat]; exact hc) (K a hX hS p e s m args below meth c H ls locs C hR hSv hl)
theorem r_pop {v : Value} (hd : decode y.2.1 pc = .ok (.pop, 1)) (hc : v.category = 1) (K : AR G S y R Z φ kn (pc + 1) lv st h X) : AR G S y R Z φ kn pc lv (v :: st) h X := by
  intro a hX hS p e s m args below meth c H ls locs C hR hSv hl
  exact lv_pop C.1 C.2.1 hd (by rw [cv_cat]; exact hc) (K a hX hS p e s m args below meth c H ls locs C hR hSv hl)
theorem r_dup2 {v w : Value} (hd : decode y.2.1 pc = .ok (.dup2, 1)) (hc : v.category = 1) (hw : w.category = 1) (K : AR G S y R Z φ kn (pc + 1) lv (v :: w :: v :: w :: st) h X) : AR G S y R Z φ kn pc lv (v :: w :: st) h X := by
  intro a hX hS p e s m args below meth c H ls locs C hR hSv hl
  exact lv_dup2_11 C.1 C.2.1 hd (by rw [cv_cat]; exact hc) (by rw [cv_cat]; exact hw) (K a hX hS p e s m args below meth c H ls locs C hR hSv hl)
theorem r_dup_x1 {v w : Value} (hd : decode y.2.1 pc = .ok (.dup_x1, 1)) (hc : v.category = 1) (hw : w.category = 1) (K : AR G S y R Z φ kn (pc + 1) lv (v :: w :: v :: st) h X) : AR G S y R Z φ kn pc lv (v :: w :: st) h X := by
  intro a hX hS p e s m args below meth c H ls locs C hR hSv hl
  exact lv_dup_x1 C.1 C.2.1 hd (by rw [cv_cat]; exact hc) (by rw [cv_cat]; exact hw) (K a hX hS p e s m args below meth c H ls locs C hR hSv hl)
theorem r_goto {off : Int} {tgt : Nat} (hd : decode y.2.1 pc = .ok (.goto off, 3)) (ht : (pc : Int) + off = (tgt : Int)) (K : AR G S y R Z φ kn tgt lv st h X) : AR G S y R Z φ kn pc lv st h X := by
  intro a hX hS p e s m args below meth c H ls locs C hR hSv hl
  exact lv_goto C.1 C.2.1 hd ht (K a hX hS p e s m args below meth c H ls locs C hR hSv hl)
theorem r_idiv {x y1 : Int32} (hd : decode y.2.1 pc = .ok (.idiv, 1)) (K : AR G S y R Z φ kn (pc + 1) lv (.int (x / y1) :: st) h X) : AR G S y R Z φ kn pc lv (.int y1 :: .int x :: st) h (gz y1 X) := by
  intro a hX hS p e s m args below meth c H ls locs C hR hSv hl
  unfold gz at hX
  split at hX
  · cases hX
  · rename_i hz
    exact lv_idiv C.1 C.2.1 hd hz (K a hX hS p e s m args below meth c H ls locs C hR hSv hl)
theorem r_idivC {x y1 : Int32} (hz : ¬ y1 = 0) (hd : decode y.2.1 pc = .ok (.idiv, 1)) (K : AR G S y R Z φ kn (pc + 1) lv (.int (x / y1) :: st) h X) : AR G S y R Z φ kn pc lv (.int y1 :: .int x :: st) h X := by
  intro a hX hS p e s m args below meth c H ls locs C hR hSv hl
  exact lv_idiv C.1 C.2.1 hd hz (K a hX hS p e s m args below meth c H ls locs C hR hSv hl)
theorem r_irem {x y1 : Int32} (hd : decode y.2.1 pc = .ok (.irem, 1)) (K : AR G S y R Z φ kn (pc + 1) lv (.int (x - x / y1 * y1) :: st) h X) : AR G S y R Z φ kn pc lv (.int y1 :: .int x :: st) h (gz y1 X) := by
  intro a hX hS p e s m args below meth c H ls locs C hR hSv hl
  unfold gz at hX
  split at hX
  · cases hX
  · rename_i hz
    exact lv_irem C.1 C.2.1 hd hz (K a hX hS p e s m args below meth c H ls locs C hR hSv hl)
theorem r_iremC {x y1 : Int32} (hz : ¬ y1 = 0) (hd : decode y.2.1 pc = .ok (.irem, 1)) (K : AR G S y R Z φ kn (pc + 1) lv (.int (x - x / y1 * y1) :: st) h X) : AR G S y R Z φ kn pc lv (.int y1 :: .int x :: st) h X := by
  intro a hX hS p e s m args below meth c H ls locs C hR hSv hl
  exact lv_irem C.1 C.2.1 hd hz (K a hX hS p e s m args below meth c H ls locs C hR hSv hl)
theorem r_icmp_eq {x y1 : Int32} {off : Int} {tgt : Nat} {X2 : Option α} (hd : decode y.2.1 pc = .ok (.if_icmp .eq off, 3)) (ht : (pc : Int) + off = (tgt : Int)) (K : AR G S y R Z φ kn tgt lv st h X) (K2 : AR G S y R Z φ kn (pc + 3) lv st h X2) : AR G S y R Z φ kn pc lv (.int y1 :: .int x :: st) h (if x = y1 then X else X2) := by
  intro a hX hS p e s m args below meth c H ls locs C hR hSv hl
  refine lv_icmp_eq C.1 C.2.1 hd ht (fun q => ?_) (fun q => ?_)
  · first | rw [if_pos q] at hX | rw [if_neg (fun z => z q)] at hX
    exact K a hX hS p e s m args below meth c H ls locs C hR hSv hl
  · first | rw [if_neg q] at hX | rw [if_neg (fun z => z q)] at hX
    exact K2 a hX hS p e s m args below meth c H ls locs C hR hSv hl
theorem r_if_eq {x : Int32} {off : Int} {tgt : Nat} {X2 : Option α} (hd : decode y.2.1 pc = .ok (.ifCond .eq off, 3)) (ht : (pc : Int) + off = (tgt : Int)) (K : AR G S y R Z φ kn tgt lv st h X) (K2 : AR G S y R Z φ kn (pc + 3) lv st h X2) : AR G S y R Z φ kn pc lv (.int x :: st) h (if x = 0 then X else X2) := by
  intro a hX hS p e s m args below meth c H ls locs C hR hSv hl
  refine lv_if_eq C.1 C.2.1 hd ht (fun q => ?_) (fun q => ?_)
  · first | rw [if_pos q] at hX | rw [if_neg (fun z => z q)] at hX
    exact K a hX hS p e s m args below meth c H ls locs C hR hSv hl
  · first | rw [if_neg q] at hX | rw [if_neg (fun z => z q)] at hX
    exact K2 a hX hS p e s m args below meth c H ls locs C hR hSv hl
theorem r_icmp_ne {x y1 : Int32} {off : Int} {tgt : Nat} {X2 : Option α} (hd : decode y.2.1 pc = .ok (.if_icmp .ne off, 3)) (ht : (pc : Int) + off = (tgt : Int)) (K : AR G S y R Z φ kn tgt lv st h X) (K2 : AR G S y R Z φ kn (pc + 3) lv st h X2) : AR G S y R Z φ kn pc lv (.int y1 :: .int x :: st) h (if ¬ x = y1 then X else X2) := by
  intro a hX hS p e s m args below meth c H ls locs C hR hSv hl
  refine lv_icmp_ne C.1 C.2.1 hd ht (fun q => ?_) (fun q => ?_)
  · first | rw [if_pos q] at hX | rw [if_neg (fun z => z q)] at hX
    exact K a hX hS p e s m args below meth c H ls locs C hR hSv hl
  · first | rw [if_neg q] at hX | rw [if_neg (fun z => z q)] at hX
    exact K2 a hX hS p e s m args below meth c H ls locs C hR hSv hl
theorem r_if_ne {x : Int32} {off : Int} {tgt : Nat} {X2 : Option α} (hd : decode y.2.1 pc = .ok (.ifCond .ne off, 3)) (ht : (pc : Int) + off = (tgt : Int)) (K : AR G S y R Z φ kn tgt lv st h X) (K2 : AR G S y R Z φ kn (pc + 3) lv st h X2) : AR G S y R Z φ kn pc lv (.int x :: st) h (if ¬ x = 0 then X else X2) := by
  intro a hX hS p e s m args below meth c H ls locs C hR hSv hl
  refine lv_if_ne C.1 C.2.1 hd ht (fun q => ?_) (fun q => ?_)
  · first | rw [if_pos q] at hX | rw [if_neg (fun z => z q)] at hX
    exact K a hX hS p e s m args below meth c H ls locs C hR hSv hl
  · first | rw [if_neg q] at hX | rw [if_neg (fun z => z q)] at hX
    exact K2 a hX hS p e s m args below meth c H ls locs C hR hSv hl
theorem r_icmp_lt {x y1 : Int32} {off : Int} {tgt : Nat} {X2 : Option α} (hd : decode y.2.1 pc = .ok (.if_icmp .lt off, 3)) (ht : (pc : Int) + off = (tgt : Int)) (K : AR G S y R Z φ kn tgt lv st h X) (K2 : AR G S y R Z φ kn (pc + 3) lv st h X2) : AR G S y R Z φ kn pc lv (.int y1 :: .int x :: st) h (if x < y1 then X else X2) := by
  intro a hX hS p e s m args below meth c H ls locs C hR hSv hl
  refine lv_icmp_lt C.1 C.2.1 hd ht (fun q => ?_) (fun q => ?_)
  · first | rw [if_pos q] at hX | rw [if_neg (fun z => z q)] at hX
    exact K a hX hS p e s m args below meth c H ls locs C hR hSv hl
  · first | rw [if_neg q] at hX | rw [if_neg (fun z => z q)] at hX
    exact K2 a hX hS p e s m args below meth c H ls locs C hR hSv hl
theorem r_if_lt {x : Int32} {off : Int} {tgt : Nat} {X2 : Option α} (hd : decode y.2.1 pc = .ok (.ifCond .lt off, 3)) (ht : (pc : Int) + off = (tgt : Int)) (K : AR G S y R Z φ kn tgt lv st h X) (K2 : AR G S y R Z φ kn (pc + 3) lv st h X2) : AR G S y R Z φ kn pc lv (.int x :: st) h (if x < 0 then X else X2) := by
  intro a hX hS p e s m args below meth c H ls locs C hR hSv hl
  refine lv_if_lt C.1 C.2.1 hd ht (fun q => ?_) (fun q => ?_)
  · first | rw [if_pos q] at hX | rw [if_neg (fun z => z q)] at hX
    exact K a hX hS p e s m args below meth c H ls locs C hR hSv hl
  · first | rw [if_neg q] at hX | rw [if_neg (fun z => z q)] at hX
    exact K2 a hX hS p e s m args below meth c H ls locs C hR hSv hl
theorem r_icmp_ge {x y1 : Int32} {off : Int} {tgt : Nat} {X2 : Option α} (hd : decode y.2.1 pc = .ok (.if_icmp .ge off, 3)) (ht : (pc : Int) + off = (tgt : Int)) (K : AR G S y R Z φ kn tgt lv st h X) (K2 : AR G S y R Z φ kn (pc + 3) lv st h X2) : AR G S y R Z φ kn pc lv (.int y1 :: .int x :: st) h (if y1 ≤ x then X else X2) := by
  intro a hX hS p e s m args below meth c H ls locs C hR hSv hl
  refine lv_icmp_ge C.1 C.2.1 hd ht (fun q => ?_) (fun q => ?_)
  · first | rw [if_pos q] at hX | rw [if_neg (fun z => z q)] at hX
    exact K a hX hS p e s m args below meth c H ls locs C hR hSv hl
  · first | rw [if_neg q] at hX | rw [if_neg (fun z => z q)] at hX
    exact K2 a hX hS p e s m args below meth c H ls locs C hR hSv hl
theorem r_if_ge {x : Int32} {off : Int} {tgt : Nat} {X2 : Option α} (hd : decode y.2.1 pc = .ok (.ifCond .ge off, 3)) (ht : (pc : Int) + off = (tgt : Int)) (K : AR G S y R Z φ kn tgt lv st h X) (K2 : AR G S y R Z φ kn (pc + 3) lv st h X2) : AR G S y R Z φ kn pc lv (.int x :: st) h (if 0 ≤ x then X else X2) := by
  intro a hX hS p e s m args below meth c H ls locs C hR hSv hl
  refine lv_if_ge C.1 C.2.1 hd ht (fun q => ?_) (fun q => ?_)
  · first | rw [if_pos q] at hX | rw [if_neg (fun z => z q)] at hX
    exact K a hX hS p e s m args below meth c H ls locs C hR hSv hl
  · first | rw [if_neg q] at hX | rw [if_neg (fun z => z q)] at hX
    exact K2 a hX hS p e s m args below meth c H ls locs C hR hSv hl
theorem r_icmp_gt {x y1 : Int32} {off : Int} {tgt : Nat} {X2 : Option α} (hd : decode y.2.1 pc = .ok (.if_icmp .gt off, 3)) (ht : (pc : Int) + off = (tgt : Int)) (K : AR G S y R Z φ kn tgt lv st h X) (K2 : AR G S y R Z φ kn (pc + 3) lv st h X2) : AR G S y R Z φ kn pc lv (.int y1 :: .int x :: st) h (if y1 < x then X else X2) := by
  intro a hX hS p e s m args below meth c H ls locs C hR hSv hl
  refine lv_icmp_gt C.1 C.2.1 hd ht (fun q => ?_) (fun q => ?_)
  · first | rw [if_pos q] at hX | rw [if_neg (fun z => z q)] at hX
    exact K a hX hS p e s m args below meth c H ls locs C hR hSv hl
  · first | rw [if_neg q] at hX | rw [if_neg (fun z => z q)] at hX
    exact K2 a hX hS p e s m args below meth c H ls locs C hR hSv hl
theorem r_if_gt {x : Int32} {off : Int} {tgt : Nat} {X2 : Option α} (hd : decode y.2.1 pc = .ok (.ifCond .gt off, 3)) (ht : (pc : Int) + off = (tgt : Int)) (K : AR G S y R Z φ kn tgt lv st h X) (K2 : AR G S y R Z φ kn (pc + 3) lv st h X2) : AR G S y R Z φ kn pc lv (.int x :: st) h (if 0 < x then X else X2) := by
  intro a hX hS p e s m args below meth c H ls locs C hR hSv hl
  refine lv_if_gt C.1 C.2.1 hd ht (fun q => ?_) (fun q => ?_)
  · first | rw [if_pos q] at hX | rw [if_neg (fun z => z q)] at hX
    exact K a hX hS p e s m args below meth c H ls locs C hR hSv hl
  · first | rw [if_neg q] at hX | rw [if_neg (fun z => z q)] at hX
    exact K2 a hX hS p e s m args below meth c H ls locs C hR hSv hl
theorem r_icmp_le {x y1 : Int32} {off : Int} {tgt : Nat} {X2 : Option α} (hd : decode y.2.1 pc = .ok (.if_icmp .le off, 3)) (ht : (pc : Int) + off = (tgt : Int)) (K : AR G S y R Z φ kn tgt lv st h X) (K2 : AR G S y R Z φ kn (pc + 3) lv st h X2) : AR G S y R Z φ kn pc lv (.int y1 :: .int x :: st) h (if x ≤ y1 then X else X2) := by
  intro a hX hS p e s m args below meth c H ls locs C hR hSv hl
  refine lv_icmp_le C.1 C.2.1 hd ht (fun q => ?_) (fun q => ?_)
  · first | rw [if_pos q] at hX | rw [if_neg (fun z => z q)] at hX
    exact K a hX hS p e s m args below meth c H ls locs C hR hSv hl
  · first | rw [if_neg q] at hX | rw [if_neg (fun z => z q)] at hX
    exact K2 a hX hS p e s m args below meth c H ls locs C hR hSv hl
theorem r_if_le {x : Int32} {off : Int} {tgt : Nat} {X2 : Option α} (hd : decode y.2.1 pc = .ok (.ifCond .le off, 3)) (ht : (pc : Int) + off = (tgt : Int)) (K : AR G S y R Z φ kn tgt lv st h X) (K2 : AR G S y R Z φ kn (pc + 3) lv st h X2) : AR G S y R Z φ kn pc lv (.int x :: st) h (if x ≤ 0 then X else X2) := by
  intro a hX hS p e s m args below meth c H ls locs C hR hSv hl
  refine lv_if_le C.1 C.2.1 hd ht (fun q => ?_) (fun q => ?_)
  · first | rw [if_pos q] at hX | rw [if_neg (fun z => z q)] at hX
    exact K a hX hS p e s m args below meth c H ls locs C hR hSv hl
  · first | rw [if_neg q] at hX | rw [if_neg (fun z => z q)] at hX
    exact K2 a hX hS p e s m args below meth c H ls locs C hR hSv hl
theorem r_split {c : Prop} {d : Decidable c} {X2 : Option α} (K : c → AR G S y R Z φ kn pc lv st h X) (K2 : ¬ c → AR G S y R Z φ kn pc lv st h X2) : AR G S y R Z φ kn pc lv st h (@ite _ c d X X2) := by
  by_cases hc : c
  · rw [if_pos hc]; exact K hc
  · rw [if_neg hc]; exact K2 hc
theorem r_tableOut {dflt lo hi : Int} {offs : Array Int} {len : Nat} {x : Int32} {tgt : Nat} (hd : decode y.2.1 pc = .ok (.tableswitch dflt lo hi offs, len)) (h9 : x.toInt < lo ∨ hi < x.toInt) (ht : (pc : Int) + dflt = (tgt : Int)) (K : AR G S y R Z φ kn tgt lv st h X) : AR G S y R Z φ kn pc lv (.int x :: st) h X := by
  intro a hX hS p e s m args below meth c H ls locs C hR hSv hl
  exact lv_tableOut C.1 C.2.1 hd h9 ht (K a hX hS p e s m args below meth c H ls locs C hR hSv hl)
theorem r_tableIn {dflt lo hi : Int} {offs : Array Int} {len : Nat} {x : Int32} {off : Int} {tgt : Nat} (hd : decode y.2.1 pc = .ok (.tableswitch dflt lo hi offs, len)) (h1 : ¬ x.toInt < lo) (h2 : ¬ hi < x.toInt) (ho : offs[(x.toInt - lo).toNat]? = some off) (ht : (pc : Int) + off = (tgt : Int)) (K : AR G S y R Z φ kn tgt lv st h X) : AR G S y R Z φ kn pc lv (.int x :: st) h X := by
  intro a hX hS p e s m args below meth c H ls locs C hR hSv hl
  exact lv_tableIn C.1 C.2.1 hd h1 h2 ho ht (K a hX hS p e s m args below meth c H ls locs C hR hSv hl)
theorem r_lookup {dflt : Int} {ps : Array (Int × Int)} {len : Nat} {x : Int32} {off : Int} {tgt : Nat} (hd : decode y.2.1 pc = .ok (.lookupswitch dflt ps, len)) (hp : (ps.toList.zip (ps.toList.drop 1)).all (fun (a, next) => a.1 < next.1) = true) (ho : Op.lookupswitch.offset ps.toList dflt x.toInt = off) (ht : (pc : Int) + off = (tgt : Int)) (K : AR G S y R Z φ kn tgt lv st h X) : AR G S y R Z φ kn pc lv (.int x :: st) h X := by
  intro a hX hS p e s m args below meth c H ls locs C hR hSv hl
  exact lv_lookup C.1 C.2.1 hd hp ho ht (K a hX hS p e s m args below meth c H ls locs C hR hSv hl)
theorem r_ldc {index : Nat} {v : Int32} (hc : Cond.constant y.1.cls index v ∈ lw_good) (hd : decode y.2.1 pc = .ok (.ldc index, 2)) (K : AR G S y R Z φ kn (pc + 2) lv (.int v :: st) h X) : AR G S y R Z φ kn pc lv st h X := by
  intro a hX hS p e s m args below meth c H ls locs C hR hSv hl
  exact lv_ldc C.1 C.2.1 C.2.2.2.2.1 (C.2.2.2.2.2.1 _ hc) hd (K a hX hS p e s m args below meth c H ls locs C hR hSv hl)
theorem r_ldcw {index : Nat} {v : Int32} (hc : Cond.constant y.1.cls index v ∈ lw_good) (hd : decode y.2.1 pc = .ok (.ldc_w index, 3)) (K : AR G S y R Z φ kn (pc + 3) lv (.int v :: st) h X) : AR G S y R Z φ kn pc lv st h X := by
  intro a hX hS p e s m args below meth c H ls locs C hR hSv hl
  exact lv_ldcw C.1 C.2.1 C.2.2.2.2.1 (C.2.2.2.2.2.1 _ hc) hd (K a hX hS p e s m args below meth c H ls locs C hR hSv hl)
theorem r_ldc2 {index : Nat} {v : Int64} (hc : Cond.constantLong y.1.cls index v ∈ lw_good) (hd : decode y.2.1 pc = .ok (.ldc2_w index, 3)) (K : AR G S y R Z φ kn (pc + 3) lv (.long v :: st) h X) : AR G S y R Z φ kn pc lv st h X := by
  intro a hX hS p e s m args below meth c H ls locs C hR hSv hl
  exact lv_ldc2 C.1 C.2.1 C.2.2.2.2.1 (C.2.2.2.2.2.1 _ hc) hd (K a hX hS p e s m args below meth c H ls locs C hR hSv hl)
theorem r_weak {lv1 : List (Option Value)} (hw : wk lv1 lv) (K : AR G S y R Z φ kn pc lv1 st h X) : AR G S y R Z φ kn pc lv st h X := by
  intro a hX hS p e s m args below meth c H ls locs C hR hSv hl
  exact K a hX hS p e s m args below meth c H ls locs C hR hSv (al_wk hw hl)
theorem r_none : AR G S y R Z φ kn pc lv st h none := by
  intro a hX
  cases hX
theorem r_gp {b : Bool} (K : b = true → AR G S y R Z φ kn pc lv st h X) : AR G S y R Z φ kn pc lv st h (gp b X) := by
  intro a hX
  unfold gp at hX
  split at hX
  · rename_i hb
    exact K hb a hX
  · cases hX
theorem gx_in {i : Int32} {n : Nat} (h : 0 ≤ i.toInt ∧ i.toInt < n) : vp_in i n := vp_in_iff.mpr h
end AM
