/-! ===== the meaning of a formula ===== -/
abbrev CT : Type := Nat × (Nat → Int32) × (Nat → Int32)
def dn (sg x y : Int32) : Int32 :=
  if sg = 43 then x + y else if sg = 45 then x - y else if sg = 42 then x * y else if sg = 47 then (if y = 0 then 0 else x / y) else if sg = 37 then (if y = 0 then 0 else x - x / y * y)
  else if sg = 60 then (if x < y then 1 else 0) else if sg = 62 then (if y < x then 1 else 0) else if sg = 61 then (if x = y then 1 else 0)
  else if sg = 38 then (if x = 0 then 0 else if y = 0 then 0 else 1) else (if x = 0 then (if y = 0 then 0 else 1) else 1)
def isOp (a : Int32) : Prop := a = 43 ∨ a = 45 ∨ a = 42 ∨ a = 47 ∨ a = 37 ∨ a = 60 ∨ a = 62 ∨ a = 61 ∨ a = 38 ∨ a = 124
def cst (e : Nat → Int32) (s a : Int32) (q : Nat × (Nat → Int32)) : Nat × (Nat → Int32) :=
  if s = 0 then (q.1 + 1, upd q.2 q.1 a) else if s = 1 then (q.1 + 1, upd q.2 q.1 (e (ix a)))
  else if s = 2 then (q.1, upd q.2 (q.1 - 1) (if q.2 (q.1 - 1) = 0 then 1 else 0)) else (q.1 - 1, upd q.2 (q.1 - 2) (dn a (q.2 (q.1 - 2)) (q.2 (q.1 - 1))))
def crun (e : Nat → Int32) (c : CT) : Nat → Nat × (Nat → Int32)
  | 0 => (0, fun _ => 0)
  | k + 1 => cst e (c.2.1 k) (c.2.2 k) (crun e c k)
def chg (c : CT) : Nat → Nat
  | 0 => 0
  | k + 1 => if c.2.1 k = 0 ∨ c.2.1 k = 1 then chg c k + 1 else if c.2.1 k = 2 then chg c k else chg c k - 1
def okS (c : CT) (k : Nat) : Prop := (c.2.1 k = 0 ∧ chg c k < 30) ∨ (c.2.1 k = 1 ∧ chg c k < 30 ∧ ∃ j, j < 6 ∧ c.2.2 k = nI j) ∨ (c.2.1 k = 2 ∧ 1 ≤ chg c k) ∨ (c.2.1 k = 3 ∧ 2 ≤ chg c k ∧ isOp (c.2.2 k))
def WFc (c : CT) : Prop := c.1 ≤ 270 ∧ (∀ k, k < c.1 → okS c k) ∧ (0 < c.1 → 1 ≤ chg c c.1)
def evC (e : Nat → Int32) (c : CT) (other : Int32) : Int32 := if c.1 = 0 then other else (crun e c c.1).2 0
theorem crun_h (e : Nat → Int32) (c : CT) : ∀ k, (crun e c k).1 = chg c k := by
  intro k
  induction k with
  | zero => rfl
  | succ k ih =>
    simp only [crun, cst, chg]
    by_cases h0 : c.2.1 k = 0
    · simp [h0, ih]
    · by_cases h1 : c.2.1 k = 1
      · simp [h1, ih]
      · by_cases h2 : c.2.1 k = 2
        · simp [h2, ih]
        · simp [h0, h1, h2, ih]
theorem chg_le {c : CT} (hw : WFc c) : ∀ k, k ≤ c.1 → chg c k ≤ 30 := by
  intro k
  induction k with
  | zero => intro _; exact Nat.zero_le _
  | succ k ih =>
    intro hk
    have h1 := ih (by omega)
    have h2 := hw.2.1 k (by omega)
    simp only [chg]
    rcases h2 with ⟨h3, h4⟩ | ⟨h3, h4, -⟩ | ⟨h3, h4⟩ | ⟨h3, h4, -⟩ <;> simp [h3] <;> omega
/-! the reference -/
theorem M_truth_b (v : Int32) (h : AH) : f_M_truth v h = some (if v = 0 then 0 else 1, h) := by
  unfold f_M_truth
  split <;> simp_all
theorem M_done_ok {a : Int32} (ha : isOp a) (x y : Int32) (h : AH) : f_M_done a x y h = some (dn a x y, h) := by
  have hg : ∀ (z : Int32) (K : Option (Int32 × AH)), ¬ z = 0 → gz z K = K := fun z K hz => gz_ok K hz
  rcases ha with rfl | rfl | rfl | rfl | rfl | rfl | rfl | rfl | rfl | rfl <;>
    simp +decide only [f_M_done, f_M_done_b228, f_M_done_b223, f_M_done_b211, f_M_done_b210, f_M_done_b194, f_M_done_b180, f_M_done_b166, M_truth_b, bI_s, dn, if_true, if_false, ite_true, ite_false, reduceIte]
  all_goals by_cases hx : x = 0 <;> by_cases hy : y = 0 <;> by_cases hq : x = y <;> by_cases ha : x < y <;> by_cases hb : y < x
  all_goals simp_all [← Int32.not_lt]
