/-! ===== what a formula's reading leaves is well formed ===== -/
def isOpN (a : Nat) : Bool := decide (a = 43) || decide (a = 45) || decide (a = 42) || decide (a = 47) || decide (a = 37) || decide (a = 60) || decide (a = 62) || decide (a = 61) || decide (a = 38) || decide (a = 124)
def stH (x : Nat × Nat) (h : Nat) : Option Nat := if x.1 = 0 then (if h < 30 then some (h + 1) else none) else if x.1 = 1 then (if h < 30 ∧ x.2 < 6 then some (h + 1) else none) else if x.1 = 2 then (if 1 ≤ h then some h else none) else if x.1 = 3 ∧ 2 ≤ h ∧ isOpN x.2 = true then some (h - 1) else none
def runH : List (Nat × Nat) → Nat → Option Nat
  | [], h => some h
  | x :: r, h => match stH x h with
    | none => none
    | some k => runH r k
theorem runH_a : ∀ (c : List (Nat × Nat)) (x : Nat × Nat) (h k : Nat), runH c h = some k → runH (c ++ [x]) h = stH x k := by
  intro c
  induction c with
  | nil =>
    intro x h k hk
    cases hk
    show (match stH x h with | none => none | some k => runH [] k) = _
    cases stH x h <;> rfl
  | cons y r ih =>
    intro x h k hk
    show (match stH y h with | none => none | some k => runH (r ++ [x]) k) = _
    rw [runH] at hk
    cases hy : stH y h with
    | none => rw [hy] at hk; cases hk
    | some z =>
      rw [hy] at hk
      exact ih x z k hk
def PQ (w : Nat) (X : FS → ER) : Prop := ∀ s h, runH s.2.2 0 = some h → h ≤ s.2.1 → match X s with
  | .error _ => True
  | .ok s' => runH s'.2.2 0 = some (h + 1) ∧ h + 1 ≤ s'.2.1 ∧ s'.2.2.length + w + 9 * s.2.1 ≤ s.2.2.length + 9 * s'.2.1
theorem ask_6 (c : Nat) : askT c ≤ 6 := by
  unfold askT
  repeat' split
  all_goals omega
theorem unit_q {nx : LT → LT} {rE : FS → ER} {d : Nat} (hE : d ≤ 6 → PQ (1 + (d + 1)) rE) : PQ 8 (unitR nx rE d) := by
  intro s h hr hu
  obtain ⟨t, u, cd⟩ := s
  simp only at hr hu
  unfold unitR
  by_cases h1 : 30 ≤ u
  · rw [if_pos h1]; trivial
  · rw [if_neg h1]
    by_cases h2 : tC t = 1
    · rw [if_pos h2]
      refine ⟨?_, by show h + 1 ≤ u + 1; omega, by show (cd ++ [(0, tN t)]).length + 8 + 9 * u ≤ cd.length + 9 * (u + 1); rw [List.length_append]; show cd.length + 1 + 8 + 9 * u ≤ _; omega⟩
      show runH (cd ++ [(0, tN t)]) 0 = _
      rw [runH_a cd _ 0 h hr]
      unfold stH
      rw [if_pos rfl, if_pos (by omega)]
    · rw [if_neg h2]
      by_cases h3 : askT (tC t) = 0
      · rw [if_neg (fun z => z h3)]
        by_cases h4 : tC t = 40
        · rw [if_pos h4]
          by_cases h5 : 6 < d
          · rw [if_pos h5]; trivial
          · rw [if_neg h5]
            have sub := hE (by omega) (nx t, u + 1, cd) h hr (by show h ≤ u + 1; omega)
            show (match (match rE (nx t, u + 1, cd) with | .error e => .error e | .ok s' => if tC s'.1 = 41 then .ok (nx s'.1, s'.2.1, s'.2.2) else .error (er 2 s'.1) : ER) with | .error _ => True | .ok s' => _)
            cases hr : rE (nx t, u + 1, cd) with
            | error e => trivial
            | ok s2 =>
              rw [hr] at sub
              obtain ⟨q1, q2, q3⟩ := sub
              have q3' : s2.2.2.length + (1 + (d + 1)) + 9 * (u + 1) ≤ cd.length + 9 * s2.2.1 := q3
              show (match (if tC s2.1 = 41 then .ok (nx s2.1, s2.2.1, s2.2.2) else .error (er 2 s2.1) : ER) with | .error _ => True | .ok s' => _)
              by_cases h6 : tC s2.1 = 41
              · rw [if_pos h6]
                exact ⟨q1, q2, by show s2.2.2.length + 8 + 9 * u ≤ cd.length + 9 * s2.2.1; omega⟩
              · rw [if_neg h6]; trivial
        · rw [if_neg h4]; trivial
      · rw [if_pos h3]
        have a6 := ask_6 (tC t)
        refine ⟨?_, by show h + 1 ≤ u + 1; omega, by show (cd ++ [(1, askT (tC t) - 1)]).length + 8 + 9 * u ≤ cd.length + 9 * (u + 1); rw [List.length_append]; show cd.length + 1 + 8 + 9 * u ≤ _; omega⟩
        show runH (cd ++ [(1, askT (tC t) - 1)]) 0 = _
        rw [runH_a cd _ 0 h hr]
        unfold stH
        rw [if_neg (by simp), if_pos rfl, if_pos ⟨by omega, by show askT (tC t) - 1 < 6; omega⟩]
theorem bin_q {c : List (Nat × Nat)} {h a : Nat} (hr : runH c 0 = some (h + 1 + 1)) (ha : isOpN a = true) : runH (c ++ [(3, a)]) 0 = some (h + 1) := by
  rw [runH_a c _ 0 _ hr]
  unfold stH
  rw [if_neg (by simp), if_neg (by simp), if_neg (by simp), if_pos ⟨rfl, by omega, ha⟩]
  rfl
theorem chain_q {nx : LT → LT} {op : Nat → Nat} {sub : FS → ER} {w : Nat} (hw : 1 ≤ w) (ho : ∀ c, ¬ op c = 0 → isOpN (op c) = true) (hs : PQ w sub) : PQ w (chR nx op sub) := by
  have loop : ∀ i (s1 : FS) (s : FS) h, runH s1.2.2 0 = some (h + 1) → h + 1 ≤ s1.2.1 → s1.2.2.length + w + 9 * s.2.1 ≤ s.2.2.length + 9 * s1.2.1 → match chN nx op sub i s1 with
    | .error _ => True
    | .ok s' => runH s'.2.2 0 = some (h + 1) ∧ h + 1 ≤ s'.2.1 ∧ s'.2.2.length + w + 9 * s.2.1 ≤ s.2.2.length + 9 * s'.2.1 := by
    intro i
    induction i with
    | zero => intro s1 s h q1 q2 q3; exact ⟨q1, q2, q3⟩
    | succ i ih =>
      intro s1 s h q1 q2 q3
      rw [chN]
      by_cases h0 : op (tC s1.1) = 0
      · rw [if_pos h0]; exact ⟨q1, q2, q3⟩
      · rw [if_neg h0]
        have sb := hs (nx s1.1, s1.2.1, s1.2.2) (h + 1) q1 q2
        cases hr : sub (nx s1.1, s1.2.1, s1.2.2) with
        | error e => trivial
        | ok s2 =>
          rw [hr] at sb
          obtain ⟨p1, p2, p3⟩ := sb
          have p3' : s2.2.2.length + w + 9 * s1.2.1 ≤ s1.2.2.length + 9 * s2.2.1 := p3
          exact ih (s2.1, s2.2.1, s2.2.2 ++ [(3, op (tC s1.1))]) s h (bin_q p1 (ho _ h0)) (by show h + 1 ≤ s2.2.1; omega) (by show (s2.2.2 ++ [(3, op (tC s1.1))]).length + w + 9 * s.2.1 ≤ s.2.2.length + 9 * s2.2.1; rw [List.length_append]; show s2.2.2.length + 1 + w + 9 * s.2.1 ≤ _; omega)
  intro s h hr hu
  have sb := hs s h hr hu
  unfold chR
  cases hr2 : sub s with
  | error e => trivial
  | ok s1 =>
    rw [hr2] at sb
    exact loop 30 s1 s h sb.1 sb.2.1 sb.2.2
theorem rel_q {nx : LT → LT} {sum : FS → ER} (hs : PQ 8 sum) : PQ 8 (relR nx sum) := by
  intro s h hr hu
  have sb := hs s h hr hu
  unfold relR
  cases hr2 : sum s with
  | error e => trivial
  | ok s1 =>
    rw [hr2] at sb
    show (match (if op4 (tC s1.1) = 0 then .ok s1 else match sum (nx s1.1, s1.2.1, s1.2.2) with | .error e => .error e | .ok s2 => .ok (s2.1, s2.2.1, s2.2.2 ++ [(3, op4 (tC s1.1))]) : ER) with | .error _ => True | .ok s' => _)
    by_cases h0 : op4 (tC s1.1) = 0
    · rw [if_pos h0]; exact sb
    · rw [if_neg h0]
      obtain ⟨q1, q2, q3⟩ := sb
      have sb2 := hs (nx s1.1, s1.2.1, s1.2.2) (h + 1) q1 q2
      cases hr3 : sum (nx s1.1, s1.2.1, s1.2.2) with
      | error e => trivial
      | ok s2 =>
        rw [hr3] at sb2
        obtain ⟨p1, p2, p3⟩ := sb2
        have p3' : s2.2.2.length + 8 + 9 * s1.2.1 ≤ s1.2.2.length + 9 * s2.2.1 := p3
        have io : isOpN (op4 (tC s1.1)) = true := by
          have : tC s1.1 = 60 ∨ tC s1.1 = 62 ∨ tC s1.1 = 61 := by
            unfold op4 at h0
            by_cases q : tC s1.1 = 60 ∨ tC s1.1 = 62 ∨ tC s1.1 = 61
            · exact q
            · rw [if_neg q] at h0; exact absurd rfl h0
          rcases this with e | e | e <;> rw [e] <;> decide
        exact ⟨bin_q p1 io, by show h + 1 ≤ s2.2.1; omega, by show (s2.2.2 ++ [(3, op4 (tC s1.1))]).length + 8 + 9 * s.2.1 ≤ s.2.2.length + 9 * s2.2.1; rw [List.length_append]; show s2.2.2.length + 1 + 8 + 9 * s.2.1 ≤ _; omega⟩
theorem isOp_6 (c : Nat) (h : ¬ op6 c = 0) : isOpN (op6 c) = true := by
  have : c = 42 ∨ c = 47 ∨ c = 37 := by
    unfold op6 at h
    by_cases q : c = 42 ∨ c = 47 ∨ c = 37
    · exact q
    · rw [if_neg q] at h; exact absurd rfl h
  rcases this with rfl | rfl | rfl <;> decide
theorem isOp_5 (c : Nat) (h : ¬ op5 c = 0) : isOpN (op5 c) = true := by
  have : c = 43 ∨ c = 45 := by
    unfold op5 at h
    by_cases q : c = 43 ∨ c = 45
    · exact q
    · rw [if_neg q] at h; exact absurd rfl h
  rcases this with rfl | rfl <;> decide
theorem isOp_2 (c : Nat) (h : ¬ op2 c = 0) : isOpN (op2 c) = true := by
  unfold op2 at h ⊢
  by_cases q : c = 270
  · rw [if_pos q]; decide
  · rw [if_neg q] at h; exact absurd rfl h
theorem isOp_1 (c : Nat) (h : ¬ op1 c = 0) : isOpN (op1 c) = true := by
  unfold op1 at h ⊢
  by_cases q : c = 269
  · rw [if_pos q]; decide
  · rw [if_neg q] at h; exact absurd rfl h
theorem one_q {nx : LT → LT} {rE : Nat → FS → ER} : ∀ (n d : Nat), d ≤ 7 → (∀ d', d < d' → d' ≤ 7 → PQ (1 + d') (rE d')) → PQ (1 + d) (oneR nx rE n d) := by
  intro n
  induction n with
  | zero => intro d _ _ s h _ _; trivial
  | succ n ih =>
    intro d hd hE s h hr hu
    show match (if tC s.1 = 271 then (if 6 < d then .error (er 2 s.1) else match oneR nx rE n (d + 1) (nx s.1, s.2.1, s.2.2) with
      | .error e => .error e
      | .ok s' => .ok (s'.1, s'.2.1, s'.2.2 ++ [(2, 0)])) else relR nx (sumR nx (rE (d + 1)) d) s : ER) with | .error _ => True | .ok s' => _
    by_cases h2 : tC s.1 = 271
    · rw [if_pos h2]
      by_cases h6 : 6 < d
      · rw [if_pos h6]; trivial
      · rw [if_neg h6]
        have sb := ih (d + 1) (by omega) (fun d' q1 q2 => hE d' (by omega) q2) (nx s.1, s.2.1, s.2.2) h hr hu
        cases hr2 : oneR nx rE n (d + 1) (nx s.1, s.2.1, s.2.2) with
        | error e => trivial
        | ok s2 =>
          rw [hr2] at sb
          obtain ⟨q1, q2, q3⟩ := sb
          have q3' : s2.2.2.length + (1 + (d + 1)) + 9 * s.2.1 ≤ s.2.2.length + 9 * s2.2.1 := q3
          refine ⟨?_, q2, by show (s2.2.2 ++ [(2, 0)]).length + (1 + d) + 9 * s.2.1 ≤ s.2.2.length + 9 * s2.2.1; rw [List.length_append]; show s2.2.2.length + 1 + (1 + d) + 9 * s.2.1 ≤ _; omega⟩
          show runH (s2.2.2 ++ [(2, 0)]) 0 = _
          rw [runH_a _ _ 0 _ q1]
          unfold stH
          rw [if_neg (by simp), if_neg (by simp), if_pos rfl, if_pos (by omega)]
    · rw [if_neg h2]
      have u1 := unit_q (nx := nx) (d := d) (fun q => hE (d + 1) (by omega) (by omega))
      have s1 : PQ 8 (sumR nx (rE (d + 1)) d) := chain_q (by omega) isOp_5 (chain_q (by omega) isOp_6 u1)
      have r := rel_q (nx := nx) s1 s h hr hu
      cases hr2 : relR nx (sumR nx (rE (d + 1)) d) s with
      | error e => trivial
      | ok s2 =>
        rw [hr2] at r
        exact ⟨r.1, r.2.1, by have := r.2.2; omega⟩
theorem ei_q {nx : LT → LT} : ∀ (n d : Nat), d ≤ 7 → PQ (1 + d) (eiR nx n d) := by
  intro n
  induction n with
  | zero => intro d _ s h _ _; trivial
  | succ n ih =>
    intro d hd
    exact chain_q (by omega) isOp_1 (chain_q (by omega) isOp_2 (one_q 10 d hd (fun d' _ q2 => ih d' q2)))
/-- a list of steps as a formula's code -/
def lcT (c : List (Nat × Nat)) : CT := (c.length, fun k => nI ((c[k]?).getD (0, 0)).1, fun k => nI ((c[k]?).getD (0, 0)).2)
theorem isOp_n {a : Nat} (h : isOpN a = true) : isOp (nI a) := by
  unfold isOpN at h
  simp only [Bool.or_eq_true, decide_eq_true_eq] at h
  unfold isOp
  rcases h with ((((((((h | h) | h) | h) | h) | h) | h) | h) | h) | h <;> rw [h] <;> decide
theorem runH_t : ∀ (c : List (Nat × Nat)) (h0 z : Nat), runH c h0 = some z → ∀ k, k < c.length → ∃ a b, runH (c.take k) h0 = some a ∧ stH ((c[k]?).getD (0, 0)) a = some b ∧ runH (c.take (k + 1)) h0 = some b := by
  intro c
  induction c with
  | nil => intro h0 z _ k hk; simp at hk
  | cons x r ih =>
    intro h0 z hz k hk
    rw [runH] at hz
    cases hx : stH x h0 with
    | none => rw [hx] at hz; cases hz
    | some y =>
      rw [hx] at hz
      cases k with
      | zero => exact ⟨h0, y, rfl, hx, by show (match stH x h0 with | none => none | some k => runH (r.take 0) k) = _; rw [hx]; rfl⟩
      | succ k =>
        obtain ⟨a, b, q1, q2, q3⟩ := ih y z hz k (by simpa using hk)
        refine ⟨a, b, ?_, by simpa using q2, ?_⟩
        · show (match stH x h0 with | none => none | some z => runH (r.take k) z) = _
          rw [hx]; exact q1
        · show (match stH x h0 with | none => none | some z => runH (r.take (k + 1)) z) = _
          rw [hx]; exact q3
theorem WF_l {c : List (Nat × Nat)} (h : runH c 0 = some 1) (hl : c.length ≤ 270) : WFc (lcT c) := by
  have st := runH_t c 0 1 h
  have ss : ∀ (x : Nat × Nat) (a b : Nat), stH x a = some b → (x.1 = 0 ∧ a < 30 ∧ b = a + 1) ∨ (x.1 = 1 ∧ a < 30 ∧ x.2 < 6 ∧ b = a + 1) ∨ (x.1 = 2 ∧ 1 ≤ a ∧ b = a) ∨ (x.1 = 3 ∧ 2 ≤ a ∧ isOpN x.2 = true ∧ b = a - 1) := fun x a b q => by
    unfold stH at q
    by_cases h0 : x.1 = 0
    · rw [if_pos h0] at q
      by_cases h1 : a < 30
      · rw [if_pos h1] at q; cases q; exact Or.inl ⟨h0, h1, rfl⟩
      · rw [if_neg h1] at q; cases q
    · rw [if_neg h0] at q
      by_cases h1 : x.1 = 1
      · rw [if_pos h1] at q
        by_cases h2 : a < 30 ∧ x.2 < 6
        · rw [if_pos h2] at q; cases q; exact Or.inr (Or.inl ⟨h1, h2.1, h2.2, rfl⟩)
        · rw [if_neg h2] at q; cases q
      · rw [if_neg h1] at q
        by_cases h2 : x.1 = 2
        · rw [if_pos h2] at q
          by_cases h3 : 1 ≤ a
          · rw [if_pos h3] at q; cases q; exact Or.inr (Or.inr (Or.inl ⟨h2, h3, rfl⟩))
          · rw [if_neg h3] at q; cases q
        · rw [if_neg h2] at q
          by_cases h3 : x.1 = 3 ∧ 2 ≤ a ∧ isOpN x.2 = true
          · rw [if_pos h3] at q; cases q; exact Or.inr (Or.inr (Or.inr ⟨h3.1, h3.2.1, h3.2.2, rfl⟩))
          · rw [if_neg h3] at q; cases q
  have hg : ∀ k, k ≤ c.length → runH (c.take k) 0 = some (chg (lcT c) k) := by
    intro k
    induction k with
    | zero => intro _; rfl
    | succ k ih =>
      intro hk
      obtain ⟨a, b, q1, q2, q3⟩ := st k (by omega)
      have i1 := ih (by omega)
      rw [q1] at i1
      have ea : a = chg (lcT c) k := by injection i1
      rw [q3]
      congr 1
      rw [chg]
      show b = if nI ((c[k]?).getD (0, 0)).1 = 0 ∨ nI ((c[k]?).getD (0, 0)).1 = 1 then chg (lcT c) k + 1 else if nI ((c[k]?).getD (0, 0)).1 = 2 then chg (lcT c) k else chg (lcT c) k - 1
      rcases ss _ a b q2 with ⟨e, _, q⟩ | ⟨e, _, _, q⟩ | ⟨e, _, q⟩ | ⟨e, _, _, q⟩
      · rw [e, if_pos (show nI 0 = 0 ∨ nI 0 = 1 from Or.inl rfl)]; omega
      · rw [e, if_pos (show nI 1 = 0 ∨ nI 1 = 1 from Or.inr rfl)]; omega
      · rw [e, if_neg (show ¬(nI 2 = 0 ∨ nI 2 = 1) by decide), if_pos (show nI 2 = 2 from rfl)]; omega
      · rw [e, if_neg (show ¬(nI 3 = 0 ∨ nI 3 = 1) by decide), if_neg (show ¬(nI 3 = 2) by decide)]; omega
  refine ⟨hl, fun k hk => ?_, fun _ => ?_⟩
  · obtain ⟨a, b, q1, q2, q3⟩ := st k hk
    have i1 := hg k (by have : k < c.length := hk; omega)
    rw [q1] at i1
    have ea : a = chg (lcT c) k := by injection i1
    unfold okS
    show (nI ((c[k]?).getD (0, 0)).1 = 0 ∧ _) ∨ (nI ((c[k]?).getD (0, 0)).1 = 1 ∧ _ ∧ ∃ j, j < 6 ∧ nI ((c[k]?).getD (0, 0)).2 = nI j) ∨ (nI ((c[k]?).getD (0, 0)).1 = 2 ∧ _) ∨ (nI ((c[k]?).getD (0, 0)).1 = 3 ∧ _ ∧ isOp (nI ((c[k]?).getD (0, 0)).2))
    rw [← ea]
    rcases ss _ a b q2 with ⟨e, p1, q⟩ | ⟨e, p1, p2, q⟩ | ⟨e, p1, q⟩ | ⟨e, p1, p2, q⟩
    · left; rw [e]; exact ⟨rfl, p1⟩
    · right; left; rw [e]; exact ⟨rfl, p1, _, p2, rfl⟩
    · right; right; left; rw [e]; exact ⟨rfl, p1⟩
    · right; right; right; rw [e]; exact ⟨rfl, p1, isOp_n p2⟩
  · have := hg c.length (Nat.le_refl _)
    rw [List.take_length, h] at this
    have e : 1 = chg (lcT c) c.length := by injection this
    show 1 ≤ chg (lcT c) c.length
    omega
