/-! ===== formulas: two ways to read them are one (pure) ===== -/
abbrev FS : Type := LT × Nat × List (Nat × Nat)
abbrev ER : Type := Except (Nat × Nat) FS
def er (k : Nat) (t : LT) : Nat × Nat := (if tC t = 3 then 1 else k, tP t)
/-- which unit a token asks for: 0 none, else one more than its number -/
def askT (c : Nat) : Nat := if c = 265 then 1 else if c = 259 then 2 else if c = 260 then 3 else if c = 272 then 4 else if c = 273 then 5 else if c = 274 then 6 else 0
def unitR (nx : LT → LT) (rE : FS → ER) (d : Nat) (s : FS) : ER :=
  if 30 ≤ s.2.1 then .error (er 2 s.1) else
  if tC s.1 = 1 then .ok (nx s.1, s.2.1 + 1, s.2.2 ++ [(0, tN s.1)]) else
  if ¬ askT (tC s.1) = 0 then .ok (nx s.1, s.2.1 + 1, s.2.2 ++ [(1, askT (tC s.1) - 1)]) else
  if tC s.1 = 40 then (if 6 < d then .error (er 2 s.1) else match rE (nx s.1, s.2.1 + 1, s.2.2) with
    | .error e => .error e
    | .ok s' => if tC s'.1 = 41 then .ok (nx s'.1, s'.2.1, s'.2.2) else .error (er 2 s'.1)) else
  .error (er 2 s.1)
def chN (nx : LT → LT) (op : Nat → Nat) (sub : FS → ER) : Nat → FS → ER
  | 0, s => .ok s
  | i + 1, s => if op (tC s.1) = 0 then .ok s else match sub (nx s.1, s.2.1, s.2.2) with
    | .error e => .error e
    | .ok s' => chN nx op sub i (s'.1, s'.2.1, s'.2.2 ++ [(3, op (tC s.1))])
def chR (nx : LT → LT) (op : Nat → Nat) (sub : FS → ER) (s : FS) : ER := match sub s with
  | .error e => .error e
  | .ok s' => chN nx op sub 30 s'
def op6 (c : Nat) : Nat := if c = 42 ∨ c = 47 ∨ c = 37 then c else 0
def op5 (c : Nat) : Nat := if c = 43 ∨ c = 45 then c else 0
def op4 (c : Nat) : Nat := if c = 60 ∨ c = 62 ∨ c = 61 then c else 0
def op2 (c : Nat) : Nat := if c = 270 then 38 else 0
def op1 (c : Nat) : Nat := if c = 269 then 124 else 0
def sumR (nx : LT → LT) (rE : FS → ER) (d : Nat) : FS → ER := chR nx op5 (chR nx op6 (unitR nx rE d))
def relR (nx : LT → LT) (sum : FS → ER) (s : FS) : ER := match sum s with
  | .error e => .error e
  | .ok s1 => if op4 (tC s1.1) = 0 then .ok s1 else match sum (nx s1.1, s1.2.1, s1.2.2) with
    | .error e => .error e
    | .ok s2 => .ok (s2.1, s2.2.1, s2.2.2 ++ [(3, op4 (tC s1.1))])
/-- rE d: what stands in brackets at depth d -/
def oneR (nx : LT → LT) (rE : Nat → FS → ER) : Nat → Nat → FS → ER
  | 0, _, _ => .error (0, 0)
  | n + 1, d, s => if tC s.1 = 271 then (if 6 < d then .error (er 2 s.1) else match oneR nx rE n (d + 1) (nx s.1, s.2.1, s.2.2) with
    | .error e => .error e
    | .ok s' => .ok (s'.1, s'.2.1, s'.2.2 ++ [(2, 0)])) else relR nx (sumR nx (rE (d + 1)) d) s
def eiR (nx : LT → LT) : Nat → Nat → FS → ER
  | 0, _, _ => .error (0, 0)
  | n + 1, d, s => chR nx op1 (chR nx op2 (oneR nx (eiR nx n) 10 d)) s
/-! the operator stack -/
def tig (x : Nat) : Nat := if x = 21 then 3 else if x = 38 then 2 else if x = 43 ∨ x = 45 then 5 else if x = 60 ∨ x = 61 ∨ x = 62 then 4 else if x = 124 then 1 else 6
def emi (x : Nat) : Nat × Nat := if x = 21 then (2, 0) else (3, x)
def clP (k : Nat) : List Nat → List (Nat × Nat) → Nat → List Nat × List (Nat × Nat) × Nat
  | [], c, d => ([], c, d)
  | x :: r, c, d => if x = 20 ∨ tig x < k then (x :: r, c, d) else clP k r (c ++ [emi x]) (if x = 21 then d - 1 else d)
def hasRel : List Nat → Bool
  | [] => false
  | x :: r => if x = 20 then false else if 4 < tig x then hasRel r else decide (tig x = 4)
def mayN : List Nat → Bool
  | [] => true
  | x :: _ => decide (x = 20) || decide (tig x < 4)
def sgn (c : Nat) : Nat := if c = 270 then 38 else if c = 269 then 124 else if c = 60 ∨ c = 62 ∨ c = 61 ∨ c = 43 ∨ c = 45 ∨ c = 42 ∨ c = 47 ∨ c = 37 then c else 0
def has20 (st : List Nat) : Bool := decide (20 ∈ st)
/-- false: an operand is wanted; true: an operator -/
def MR (nx : LT → LT) : Nat → Bool → FS → List Nat → Nat → ER
  | 0, _, _, _, _ => .error (0, 0)
  | n + 1, false, s, st, dp =>
    if tC s.1 = 271 ∧ mayN st = true then (if 6 < dp then .error (er 2 s.1) else MR nx n false (nx s.1, s.2.1, s.2.2) (21 :: st) (dp + 1))
    else if tC s.1 = 40 then (if 30 ≤ s.2.1 ∨ 6 < dp then .error (er 2 s.1) else MR nx n false (nx s.1, s.2.1 + 1, s.2.2) (20 :: st) (dp + 1))
    else if (¬ tC s.1 = 1 ∧ askT (tC s.1) = 0) ∨ 30 ≤ s.2.1 then .error (er 2 s.1)
    else MR nx n true (nx s.1, s.2.1 + 1, s.2.2 ++ [if askT (tC s.1) = 0 then (0, tN s.1) else (1, askT (tC s.1) - 1)]) st dp
  | n + 1, true, s, st, dp =>
    if tC s.1 = 41 ∧ has20 st = true then MR nx n true (nx s.1, s.2.1, (clP 0 st s.2.2 dp).2.1) ((clP 0 st s.2.2 dp).1.tail) ((clP 0 st s.2.2 dp).2.2 - 1)
    else if ¬ sgn (tC s.1) = 0 ∧ ¬ (tig (sgn (tC s.1)) = 4 ∧ hasRel st = true) then MR nx n false (nx s.1, s.2.1, (clP (tig (sgn (tC s.1))) st s.2.2 dp).2.1) (sgn (tC s.1) :: (clP (tig (sgn (tC s.1))) st s.2.2 dp).1) (clP (tig (sgn (tC s.1))) st s.2.2 dp).2.2
    else if has20 st = true then .error (er 2 s.1)
    else .ok (s.1, s.2.1, (clP 0 st s.2.2 dp).2.1)
/-! closing -/
def bel (q : Nat) : List Nat → Prop
  | [] => True
  | x :: r => x = 20 ∨ (tig x < q ∧ bel q r)
def c21 (P : List Nat) : Nat := (P.filter (fun x => decide (x = 21))).length
theorem bel_mn {q q' : Nat} (h : q ≤ q') : ∀ st, bel q st → bel q' st := by
  intro st
  induction st with
  | nil => intro _; trivial
  | cons x r ih =>
    intro b
    rcases b with b | b
    · exact Or.inl b
    · exact Or.inr ⟨by omega, ih b.2⟩
theorem clP_st {k : Nat} {st : List Nat} (b : bel k st) (c : List (Nat × Nat)) (d : Nat) : clP k st c d = (st, c, d) := by
  cases st with
  | nil => rfl
  | cons x r =>
    rw [clP, if_pos]
    rcases b with b | b
    · exact Or.inl b
    · exact Or.inr b.1
theorem clP_P {k : Nat} {st : List Nat} (b : bel k st) : ∀ (P : List Nat), (∀ x ∈ P, ¬ x = 20 ∧ k ≤ tig x) → ∀ (c : List (Nat × Nat)) (d : Nat), clP k (P ++ st) c (d + c21 P) = (st, c ++ P.map emi, d) := by
  intro P
  induction P with
  | nil => intro _ c d; simp only [List.nil_append, List.map_nil, List.append_nil]; exact clP_st b c _
  | cons x r ih =>
    intro h c d
    have hx := h x (by simp)
    have e := ih (fun y hy => h y (by simp [hy])) (c ++ [emi x]) d
    show clP k (x :: (r ++ st)) c (d + c21 (x :: r)) = _
    rw [clP, if_neg (by omega)]
    have ed : (if x = 21 then d + c21 (x :: r) - 1 else d + c21 (x :: r)) = d + c21 r := by
      unfold c21
      by_cases e21 : x = 21
      · rw [if_pos e21]; simp [e21]
      · rw [if_neg e21]; simp [e21]
    rw [ed, e, List.append_assoc]
    rfl
theorem bel0 : ∀ st : List Nat, (st = [] ∨ ∃ r, st = 20 :: r) → ∀ k, bel k st := by
  rintro st (rfl | ⟨r, rfl⟩) k
  · trivial
  · exact Or.inl rfl
theorem hasRel_b {st : List Nat} (b : bel 4 st) : hasRel st = false := by
  cases st with
  | nil => rfl
  | cons x r =>
    rw [hasRel]
    rcases b with b | b
    · rw [if_pos b]
    · by_cases e : x = 20
      · rw [if_pos e]
      · rw [if_neg e, if_neg (by omega)]
        simp; omega
theorem hasRel_P {st : List Nat} : ∀ P : List Nat, (∀ x ∈ P, ¬ x = 20 ∧ 5 ≤ tig x) → hasRel (P ++ st) = hasRel st := by
  intro P
  induction P with
  | nil => intro _; rfl
  | cons x r ih =>
    intro h
    have hx := h x (by simp)
    show hasRel (x :: (r ++ st)) = _
    rw [hasRel, if_neg hx.1, if_pos (by omega)]
    exact ih (fun y hy => h y (by simp [hy]))
/-- no operator of level p or more goes on -/
def noOp (p : Nat) (c : Nat) (st : List Nat) : Prop := ¬ sgn c = 0 → p ≤ tig (sgn c) → tig (sgn c) = 4 ∧ hasRel st = true
/-- a token within the tape -/
def TG (L : Nat) (t : LT) : Prop := tX t ≤ L ∧ tP t ≤ L ∧ (¬ tC t = 0 → ¬ tC t = 3 → tP t < tX t)
def NXk (nx : LT → LT) (L : Nat) : Prop := ∀ t, TG L t → TG L (nx t) ∧ tX t ≤ tP (nx t)
def OKp (nx : LT → LT) (L p : Nat) (s : FS) (st : List Nat) (d : Nat) (s' : FS) : Prop := ∃ P cR m, (∀ x ∈ P, ¬ x = 20 ∧ p ≤ tig x) ∧ s'.2.2 = cR ++ P.map emi ∧ noOp p (tC s'.1) (P ++ st) ∧ m + tP s.1 ≤ tP s'.1 ∧ TG L s'.1 ∧ s.2.1 + 1 ≤ s'.2.1 ∧ s'.2.1 ≤ 30 ∧ ∀ n, MR nx (n + m) false s st d = MR nx n true (s'.1, s'.2.1, cR) (P ++ st) (d + c21 P)
def ERp (nx : LT → LT) (L : Nat) (s : FS) (st : List Nat) (d : Nat) (e : Nat × Nat) : Prop := ∃ m, m + tP s.1 ≤ L ∧ ∀ n, MR nx (n + m + 1) false s st d = .error e
def Rz (nx : LT → LT) (L p : Nat) (s : FS) (st : List Nat) (d : Nat) (r : ER) : Prop := match r with
  | .error e => ERp nx L s st d e
  | .ok s' => OKp nx L p s st d s'
def SPx (nx : LT → LT) (L p q : Nat) (H : FS → List Nat → Prop) (X : FS → ER) (d : Nat) : Prop := ∀ s st, TG L s.1 → s.2.1 ≤ 30 → bel q st → H s st → Rz nx L p s st d (X s)
theorem c21_a (P Q : List Nat) : c21 (P ++ Q) = c21 P + c21 Q := by unfold c21; rw [List.filter_append, List.length_append]
/-- an operator of tightness p taken up behind a finished operand -/
theorem MR_op {nx : LT → LT} {n p : Nat} {t : LT} {u : Nat} {cR : List (Nat × Nat)} {P st : List Nat} {d : Nat} (b : bel p st) (hP : ∀ x ∈ P, ¬ x = 20 ∧ p ≤ tig x) (h41 : ¬ tC t = 41) (hs : ¬ sgn (tC t) = 0) (ht : tig (sgn (tC t)) = p) (hr : ¬ (p = 4 ∧ hasRel (P ++ st) = true)) : MR nx (n + 1) true (t, u, cR) (P ++ st) (d + c21 P) = MR nx n false (nx t, u, cR ++ P.map emi) (sgn (tC t) :: st) d := by
  show (if tC t = 41 ∧ has20 (P ++ st) = true then _ else _) = _
  rw [if_neg (fun z => h41 z.1), if_pos ⟨hs, by rw [ht]; exact hr⟩, ht, clP_P b P hP cR d]
theorem chain_l {nx : LT → LT} {L p q' : Nat} {H' : FS → List Nat → Prop} (NX : NXk nx L) {op : Nat → Nat} (hop : ∀ c, ¬ op c = 0 → sgn c = op c ∧ tig (op c) = p ∧ ¬ op c = 20 ∧ ¬ op c = 21 ∧ ¬ c = 41 ∧ ¬ c = 0 ∧ ¬ c = 3) (hop2 : ∀ c, ¬ sgn c = 0 → tig (sgn c) = p → ¬ op c = 0) (p4 : ¬ p = 4) {sub : FS → ER} {d : Nat} (hs : SPx nx L (p + 1) q' H' sub d) (hq : p < q') (hH2 : ∀ s st c, ¬ op c = 0 → H' s (op c :: st)) {s : FS} {st : List Nat} (b : bel p st) : ∀ (i : Nat) (s1 : FS) (P : List Nat) (cR : List (Nat × Nat)) (m : Nat), 31 ≤ s1.2.1 + i → (∀ x ∈ P, ¬ x = 20 ∧ p ≤ tig x) → s1.2.2 = cR ++ P.map emi → noOp (p + 1) (tC s1.1) (P ++ st) → m + tP s.1 ≤ tP s1.1 → TG L s1.1 → s.2.1 + 1 ≤ s1.2.1 → s1.2.1 ≤ 30 → (∀ n, MR nx (n + m) false s st d = MR nx n true (s1.1, s1.2.1, cR) (P ++ st) (d + c21 P)) → Rz nx L p s st d (chN nx op sub i s1) := by
  intro i
  induction i with
  | zero => intro s1 P cR m h31 hP hc hn hm tg hu h30 hM; omega
  | succ i ih =>
    intro s1 P cR m h31 hP hc hn hm tg hu h30 hM
    obtain ⟨t, u, cd⟩ := s1
    simp only at h31 hc hn hm tg hu h30 hM
    rw [chN]
    by_cases h0 : op (tC t) = 0
    · rw [if_pos h0]
      refine ⟨P, cR, m, hP, hc, fun z1 z2 => ?_, hm, tg, hu, h30, hM⟩
      by_cases e : tig (sgn (tC t)) = p
      · exact absurd h0 (hop2 _ z1 e)
      · exact hn z1 (by have z2' : p ≤ tig (sgn (tC t)) := z2; omega)
    · rw [if_neg h0]
      obtain ⟨o1, o2, o3, o3', o4, o5, o6⟩ := hop _ h0
      obtain ⟨tg2, le2⟩ := NX t tg
      have lt2 := tg.2.2 o5 o6
      have o4' : ¬ tC t = 41 := o4
      have sP : ∀ n, MR nx (n + 1) true (t, u, cR) (P ++ st) (d + c21 P) = MR nx n false (nx t, u, cR ++ P.map emi) (op (tC t) :: st) d := fun n => by
        rw [← o1]
        exact MR_op b hP o4' (by rw [o1]; exact h0) (by rw [o1]; exact o2) (fun z => p4 z.1)
      have sub1 := hs (nx t, u, cd) (op (tC t) :: st) tg2 h30 (Or.inr ⟨by omega, bel_mn (by omega) st b⟩) (hH2 _ _ _ h0)
      show Rz nx L p s st d (match sub (nx t, u, cd) with | .error e => .error e | .ok s' => chN nx op sub i (s'.1, s'.2.1, s'.2.2 ++ [(3, op (tC t))]))
      cases hr : sub (nx t, u, cd) with
      | error e =>
        rw [hr] at sub1
        obtain ⟨m2, k1, k2⟩ := sub1
        refine ⟨m2 + 1 + m, by have k1' : m2 + tP (nx t) ≤ L := k1; omega, fun n => ?_⟩
        rw [show n + (m2 + 1 + m) + 1 = n + m2 + 1 + 1 + m by omega, hM, sP, ← hc]
        exact k2 n
      | ok s2 =>
        rw [hr] at sub1
        obtain ⟨P2, c2, m2, k1, k2, k3, k4, k5, k6, k7, k8⟩ := sub1
        obtain ⟨t2, u2, cd2⟩ := s2
        simp only at k2 k3 k4 k5 k6 k7 k8 ⊢
        have k4' : m2 + tP (nx t) ≤ tP t2 := k4
        refine ih (t2, u2, cd2 ++ [(3, op (tC t))]) (P2 ++ [op (tC t)]) c2 (m2 + 1 + m) (by show 31 ≤ u2 + i; omega) (fun x hx => ?_) ?_ ?_ (by show m2 + 1 + m + tP s.1 ≤ tP t2; omega) k5 (by show s.2.1 + 1 ≤ u2; omega) k7 (fun n => ?_)
        · rw [List.mem_append] at hx
          rcases hx with hx | hx
          · have := k1 x hx; exact ⟨this.1, by omega⟩
          · simp only [List.mem_singleton] at hx
            rw [hx]
            exact ⟨o3, by omega⟩
        · show cd2 ++ [(3, op (tC t))] = c2 ++ (P2 ++ [op (tC t)]).map emi
          rw [k2, List.map_append, List.append_assoc]
          have : [op (tC t)].map emi = [(3, op (tC t))] := by simp [emi, o3']
          rw [this]
        · rw [List.append_assoc]
          exact k3
        · rw [show n + (m2 + 1 + m) = n + m2 + 1 + m by omega, hM, sP, ← hc, k8, List.append_assoc, c21_a]
          have : c21 [op (tC t)] = 0 := by simp [c21, o3']
          rw [this, Nat.add_zero]
          rfl
theorem chain_ok {nx : LT → LT} {L p q' : Nat} {H H' : FS → List Nat → Prop} (NX : NXk nx L) {op : Nat → Nat} (hop : ∀ c, ¬ op c = 0 → sgn c = op c ∧ tig (op c) = p ∧ ¬ op c = 20 ∧ ¬ op c = 21 ∧ ¬ c = 41 ∧ ¬ c = 0 ∧ ¬ c = 3) (hop2 : ∀ c, ¬ sgn c = 0 → tig (sgn c) = p → ¬ op c = 0) (p4 : ¬ p = 4) {sub : FS → ER} {d : Nat} (hs : SPx nx L (p + 1) q' H' sub d) (hq : p < q') (hH : ∀ s st, H s st → H' s st) (hH2 : ∀ s st c, ¬ op c = 0 → H' s (op c :: st)) : SPx nx L p p H (chR nx op sub) d := by
  intro s st tg h30 b h
  have sub1 := hs s st tg h30 (bel_mn (by omega) st b) (hH s st h)
  unfold chR
  cases hr : sub s with
  | error e => rw [hr] at sub1; exact sub1
  | ok s1 =>
    rw [hr] at sub1
    obtain ⟨P, cR, m, k1, k2, k3, k4, k5, k6, k7, k8⟩ := sub1
    exact chain_l NX hop hop2 p4 hs hq hH2 b 30 s1 P cR m (by omega) (fun x hx => ⟨(k1 x hx).1, by have := (k1 x hx).2; omega⟩) k2 k3 k4 k5 k6 k7 k8
