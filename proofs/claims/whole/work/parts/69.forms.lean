/-! ===== formulas: units, relations, nots, all ===== -/
def Hn (s : FS) (st : List Nat) : Prop := ¬ tC s.1 = 271 ∨ mayN st = false
def Ht (_ : FS) (_ : List Nat) : Prop := True
theorem tig_in (x : Nat) : 1 ≤ tig x ∧ tig x ≤ 6 := by
  unfold tig
  repeat' split
  all_goals omega
theorem ask_no : askT 271 = 0 ∧ askT 40 = 0 ∧ askT 1 = 0 ∧ askT 0 = 0 ∧ askT 3 = 0 := by decide
theorem sgn_41 : sgn 41 = 0 := by decide
theorem unit_ok {nx : LT → LT} {L d : Nat} (NX : NXk nx L) {rE : FS → ER} (hE : d ≤ 6 → SPx nx L 1 1 Ht rE (d + 1)) : SPx nx L 7 7 Hn (unitR nx rE d) d := by
  intro s st tg h30 b hn
  obtain ⟨t, u, cd⟩ := s
  simp only at tg h30
  have hn' : ¬ (tC t = 271 ∧ mayN st = true) := fun z => by
    rcases hn with q | q
    · exact q z.1
    · rw [z.2] at q; cases q
  have no7 : ∀ c st, noOp 7 c st := fun c st z1 z2 => by have := (tig_in (sgn c)).2; omega
  have er2 : (tC t = 40 → 30 ≤ u ∨ 6 < d) → (¬ tC t = 40 → (¬ tC t = 1 ∧ askT (tC t) = 0) ∨ 30 ≤ u) → Rz nx L 7 (t, u, cd) st d (.error (er 2 t)) := fun a1 a2 => by
    refine ⟨0, by show 0 + tP t ≤ L; have := tg.2.1; omega, fun n => ?_⟩
    show MR nx (n + 1) false (t, u, cd) st d = _
    rw [MR, if_neg hn']
    by_cases h40 : tC t = 40
    · rw [if_pos h40, if_pos (a1 h40)]
    · rw [if_neg h40, if_pos (a2 h40)]
  unfold unitR
  by_cases h1 : 30 ≤ u
  · rw [if_pos h1]
    exact er2 (fun _ => Or.inl h1) (fun _ => Or.inr h1)
  · rw [if_neg h1]
    by_cases h2 : tC t = 1
    · rw [if_pos h2]
      obtain ⟨tg2, le2⟩ := NX t tg
      have lt2 := tg.2.2 (by omega) (by omega)
      refine ⟨[], cd ++ [(0, tN t)], 1, fun x hx => (by cases hx), (List.append_nil _).symm, no7 _ _, by show 1 + tP t ≤ tP (nx t); omega, tg2, Nat.le_refl _, by show u + 1 ≤ 30; omega, fun n => ?_⟩
      show MR nx (n + 1) false (t, u, cd) st d = _
      rw [MR, if_neg hn', if_neg (by rw [h2]; decide), if_neg (fun z => z.elim (fun y => y.1 h2) h1)]
      show MR nx n true (nx t, u + 1, cd ++ [if askT (tC t) = 0 then (0, tN t) else (1, askT (tC t) - 1)]) st d = _
      rw [h2, if_pos ask_no.2.2.1]
      rfl
    · rw [if_neg h2]
      by_cases h3 : askT (tC t) = 0
      · rw [if_neg (fun z => z h3)]
        by_cases h4 : tC t = 40
        · rw [if_pos h4]
          by_cases h5 : 6 < d
          · rw [if_pos h5]
            exact er2 (fun _ => Or.inr h5) (fun z => absurd h4 z)
          · rw [if_neg h5]
            obtain ⟨tg2, le2⟩ := NX t tg
            have lt2 := tg.2.2 (by omega) (by omega)
            have sub1 := hE (by omega) (nx t, u + 1, cd) (20 :: st) tg2 (by show u + 1 ≤ 30; omega) (Or.inl rfl) trivial
            have s1 : ∀ n, MR nx (n + 1) false (t, u, cd) st d = MR nx n false (nx t, u + 1, cd) (20 :: st) (d + 1) := fun n => by
              rw [MR, if_neg hn', if_pos h4, if_neg (fun z => z.elim h1 h5)]
            show Rz nx L 7 (t, u, cd) st d (match rE (nx t, u + 1, cd) with | .error e => .error e | .ok s' => if tC s'.1 = 41 then .ok (nx s'.1, s'.2.1, s'.2.2) else .error (er 2 s'.1))
            cases hr : rE (nx t, u + 1, cd) with
            | error e =>
              rw [hr] at sub1
              obtain ⟨m2, k1, k2⟩ := sub1
              have k1' : m2 + tP (nx t) ≤ L := k1
              refine ⟨m2 + 1, by show m2 + 1 + tP t ≤ L; omega, fun n => ?_⟩
              rw [show n + (m2 + 1) + 1 = n + m2 + 1 + 1 by omega, s1]
              exact k2 n
            | ok s2 =>
              rw [hr] at sub1
              obtain ⟨P, cR, m2, k1, k2, k3, k4, k5, k6, k7, k8⟩ := sub1
              obtain ⟨t2, u2, cd2⟩ := s2
              simp only at k2 k3 k4 k5 k6 k7 k8 ⊢
              have k4' : m2 + tP (nx t) ≤ tP t2 := k4
              have k6' : u + 1 + 1 ≤ u2 := k6
              have h20 : has20 (P ++ 20 :: st) = true := by unfold has20; simp
              by_cases h6 : tC t2 = 41
              · rw [if_pos h6]
                obtain ⟨tg3, le3⟩ := NX t2 k5
                have lt3 := k5.2.2 (by omega) (by omega)
                refine ⟨[], cd2, m2 + 2, fun x hx => (by cases hx), (List.append_nil _).symm, no7 _ _, by show m2 + 2 + tP t ≤ tP (nx t2); omega, tg3, by show u + 1 ≤ u2; omega, k7, fun n => ?_⟩
                have ec := clP_P (k := 0) (st := 20 :: st) (Or.inl rfl) P (fun x hx => ⟨(k1 x hx).1, by omega⟩) cR (d + 1)
                rw [show n + (m2 + 2) = n + 1 + m2 + 1 by omega, s1, k8, MR, if_pos ⟨h6, h20⟩]
                show MR nx n true (nx t2, u2, (clP 0 (P ++ 20 :: st) cR (d + 1 + c21 P)).2.1) ((clP 0 (P ++ 20 :: st) cR (d + 1 + c21 P)).1.tail) ((clP 0 (P ++ 20 :: st) cR (d + 1 + c21 P)).2.2 - 1) = _
                rw [ec, k2]
                rfl
              · rw [if_neg h6]
                refine ⟨m2 + 1, by show m2 + 1 + tP t ≤ L; have := k5.2.1; omega, fun n => ?_⟩
                rw [show n + (m2 + 1) + 1 = n + 1 + m2 + 1 by omega, s1, k8, MR, if_neg (fun z => h6 z.1), if_neg (fun z => z.2 (k3 z.1 (tig_in _).1)), if_pos h20]
        · rw [if_neg h4]
          exact er2 (fun z => absurd z h4) (fun _ => Or.inl ⟨h2, h3⟩)
      · rw [if_pos h3]
        obtain ⟨tg2, le2⟩ := NX t tg
        have lt2 := tg.2.2 (fun z => h3 (by rw [z]; exact ask_no.2.2.2.1)) (fun z => h3 (by rw [z]; exact ask_no.2.2.2.2))
        refine ⟨[], cd ++ [(1, askT (tC t) - 1)], 1, fun x hx => (by cases hx), (List.append_nil _).symm, no7 _ _, by show 1 + tP t ≤ tP (nx t); omega, tg2, Nat.le_refl _, by show u + 1 ≤ 30; omega, fun n => ?_⟩
        show MR nx (n + 1) false (t, u, cd) st d = _
        rw [MR, if_neg hn', if_neg (fun z => h3 (by rw [z]; exact ask_no.2.1)), if_neg (fun z => z.elim (fun y => h3 y.2) h1)]
        show MR nx n true (nx t, u + 1, cd ++ [if askT (tC t) = 0 then (0, tN t) else (1, askT (tC t) - 1)]) st d = _
        rw [if_neg h3]
        rfl
theorem op6_a (c : Nat) (h : ¬ op6 c = 0) : sgn c = op6 c ∧ tig (op6 c) = 6 ∧ ¬ op6 c = 20 ∧ ¬ op6 c = 21 ∧ ¬ c = 41 ∧ ¬ c = 0 ∧ ¬ c = 3 := by
  have : c = 42 ∨ c = 47 ∨ c = 37 := by
    unfold op6 at h
    by_cases q : c = 42 ∨ c = 47 ∨ c = 37
    · exact q
    · rw [if_neg q] at h; exact absurd rfl h
  rcases this with rfl | rfl | rfl <;> decide
theorem op5_a (c : Nat) (h : ¬ op5 c = 0) : sgn c = op5 c ∧ tig (op5 c) = 5 ∧ ¬ op5 c = 20 ∧ ¬ op5 c = 21 ∧ ¬ c = 41 ∧ ¬ c = 0 ∧ ¬ c = 3 := by
  have : c = 43 ∨ c = 45 := by
    unfold op5 at h
    by_cases q : c = 43 ∨ c = 45
    · exact q
    · rw [if_neg q] at h; exact absurd rfl h
  rcases this with rfl | rfl <;> decide
theorem op4_a (c : Nat) (h : ¬ op4 c = 0) : sgn c = op4 c ∧ tig (op4 c) = 4 ∧ ¬ op4 c = 20 ∧ ¬ op4 c = 21 ∧ ¬ c = 41 ∧ ¬ c = 0 ∧ ¬ c = 3 := by
  have : c = 60 ∨ c = 62 ∨ c = 61 := by
    unfold op4 at h
    by_cases q : c = 60 ∨ c = 62 ∨ c = 61
    · exact q
    · rw [if_neg q] at h; exact absurd rfl h
  rcases this with rfl | rfl | rfl <;> decide
theorem op2_a (c : Nat) (h : ¬ op2 c = 0) : sgn c = op2 c ∧ tig (op2 c) = 2 ∧ ¬ op2 c = 20 ∧ ¬ op2 c = 21 ∧ ¬ c = 41 ∧ ¬ c = 0 ∧ ¬ c = 3 := by
  have : c = 270 := by
    unfold op2 at h
    by_cases q : c = 270
    · exact q
    · rw [if_neg q] at h; exact absurd rfl h
  rcases this with rfl; decide
theorem op1_a (c : Nat) (h : ¬ op1 c = 0) : sgn c = op1 c ∧ tig (op1 c) = 1 ∧ ¬ op1 c = 20 ∧ ¬ op1 c = 21 ∧ ¬ c = 41 ∧ ¬ c = 0 ∧ ¬ c = 3 := by
  have : c = 269 := by
    unfold op1 at h
    by_cases q : c = 269
    · exact q
    · rw [if_neg q] at h; exact absurd rfl h
  rcases this with rfl; decide
theorem sgn_or (c : Nat) (h : ¬ sgn c = 0) : c = 270 ∨ c = 269 ∨ c = 60 ∨ c = 62 ∨ c = 61 ∨ c = 43 ∨ c = 45 ∨ c = 42 ∨ c = 47 ∨ c = 37 := by
  unfold sgn at h
  by_cases h1 : c = 270
  · exact Or.inl h1
  · rw [if_neg h1] at h
    by_cases h2 : c = 269
    · exact Or.inr (Or.inl h2)
    · rw [if_neg h2] at h
      by_cases h3 : c = 60 ∨ c = 62 ∨ c = 61 ∨ c = 43 ∨ c = 45 ∨ c = 42 ∨ c = 47 ∨ c = 37
      · exact Or.inr (Or.inr h3)
      · rw [if_neg h3] at h; exact absurd rfl h
theorem op_b (c : Nat) (h : ¬ sgn c = 0) : (tig (sgn c) = 6 → ¬ op6 c = 0) ∧ (tig (sgn c) = 5 → ¬ op5 c = 0) ∧ (tig (sgn c) = 4 → ¬ op4 c = 0) ∧ (tig (sgn c) = 2 → ¬ op2 c = 0) ∧ (tig (sgn c) = 1 → ¬ op1 c = 0) ∧ ¬ tig (sgn c) = 3 := by
  rcases sgn_or c h with rfl | rfl | rfl | rfl | rfl | rfl | rfl | rfl | rfl | rfl <;> decide
theorem sum_ok {nx : LT → LT} {L d : Nat} (NX : NXk nx L) {rE : FS → ER} (hE : d ≤ 6 → SPx nx L 1 1 Ht rE (d + 1)) : SPx nx L 5 5 Hn (sumR nx rE d) d := by
  have mf : ∀ x st, ¬ x = 20 → 4 ≤ tig x → mayN (x :: st) = false := fun x st h1 h2 => by
    simp only [mayN, Bool.or_eq_false_iff, decide_eq_false_iff_not]
    exact ⟨h1, by omega⟩
  have t6 : SPx nx L 6 6 Hn (chR nx op6 (unitR nx rE d)) d := chain_ok NX op6_a (fun c z1 z2 => (op_b c z1).1 z2) (by omega) (unit_ok NX hE) (by omega) (fun s st h => h) (fun s st c h => Or.inr (mf _ _ (op6_a c h).2.2.1 (by rw [(op6_a c h).2.1]; omega)))
  exact chain_ok NX op5_a (fun c z1 z2 => (op_b c z1).2.1 z2) (by omega) t6 (by omega) (fun s st h => h) (fun s st c h => Or.inr (mf _ _ (op5_a c h).2.2.1 (by rw [(op5_a c h).2.1]; omega)))
theorem rel_ok {nx : LT → LT} {L d : Nat} (NX : NXk nx L) {sum : FS → ER} (hs : SPx nx L 5 5 Hn sum d) : SPx nx L 3 4 Hn (relR nx sum) d := by
  intro s st tg h30 b hn
  have sub1 := hs s st tg h30 (bel_mn (by omega) st b) hn
  unfold relR
  cases hr : sum s with
  | error e => rw [hr] at sub1; exact sub1
  | ok s1 =>
    rw [hr] at sub1
    obtain ⟨P, cR, m, k1, k2, k3, k4, k5, k6, k7, k8⟩ := sub1
    obtain ⟨t, u, cd⟩ := s1
    simp only at k2 k3 k4 k5 k6 k7 k8 ⊢
    by_cases h0 : op4 (tC t) = 0
    · rw [if_pos h0]
      refine ⟨P, cR, m, fun x hx => ⟨(k1 x hx).1, by have := (k1 x hx).2; omega⟩, k2, fun z1 z2 => ?_, k4, k5, k6, k7, k8⟩
      have ob := op_b (tC t) z1
      have z2' : 3 ≤ tig (sgn (tC t)) := z2
      by_cases e4 : tig (sgn (tC t)) = 4
      · exact absurd h0 (ob.2.2.1 e4)
      · have e3 := ob.2.2.2.2.2
        exact k3 z1 (by omega)
    · rw [if_neg h0]
      obtain ⟨o1, o2, o3, o3', o4, o5, o6⟩ := op4_a _ h0
      obtain ⟨tg2, le2⟩ := NX t k5
      have lt2 := k5.2.2 o5 o6
      have hrel : hasRel (P ++ st) = false := by rw [hasRel_P P k1]; exact hasRel_b b
      have sP : ∀ n, MR nx (n + 1) true (t, u, cR) (P ++ st) (d + c21 P) = MR nx n false (nx t, u, cd) (op4 (tC t) :: st) d := fun n => by
        rw [k2, ← o1]
        exact MR_op b (fun x hx => ⟨(k1 x hx).1, by have := (k1 x hx).2; omega⟩) o4 (by rw [o1]; exact h0) (by rw [o1]; exact o2) (fun z => by rw [hrel] at z; cases z.2)
      have sub2 := hs (nx t, u, cd) (op4 (tC t) :: st) tg2 k7 (Or.inr ⟨by omega, bel_mn (by omega) st b⟩) (Or.inr (by
        simp only [mayN, Bool.or_eq_false_iff, decide_eq_false_iff_not]
        exact ⟨o3, by omega⟩))
      cases hr2 : sum (nx t, u, cd) with
      | error e =>
        rw [hr2] at sub2
        obtain ⟨m2, j1, j2⟩ := sub2
        have j1' : m2 + tP (nx t) ≤ L := j1
        refine ⟨m2 + 1 + m, by omega, fun n => ?_⟩
        rw [show n + (m2 + 1 + m) + 1 = n + m2 + 1 + 1 + m by omega, k8, sP]
        exact j2 n
      | ok s2 =>
        rw [hr2] at sub2
        obtain ⟨P2, c2, m2, j1, j2, j3, j4, j5, j6, j7, j8⟩ := sub2
        obtain ⟨t2, u2, cd2⟩ := s2
        simp only at j2 j3 j4 j5 j6 j7 j8 ⊢
        have j4' : m2 + tP (nx t) ≤ tP t2 := j4
        refine ⟨P2 ++ [op4 (tC t)], c2, m2 + 1 + m, fun x hx => ?_, ?_, fun z1 z2 => ?_, by show m2 + 1 + m + tP s.1 ≤ tP t2; omega, j5, by show s.2.1 + 1 ≤ u2; omega, j7, fun n => ?_⟩
        · rw [List.mem_append] at hx
          rcases hx with hx | hx
          · have := j1 x hx; exact ⟨this.1, by omega⟩
          · simp only [List.mem_singleton] at hx
            rw [hx]
            exact ⟨o3, by omega⟩
        · show cd2 ++ [(3, op4 (tC t))] = c2 ++ (P2 ++ [op4 (tC t)]).map emi
          rw [j2, List.map_append, List.append_assoc]
          have : [op4 (tC t)].map emi = [(3, op4 (tC t))] := by simp [emi, o3']
          rw [this]
        · have ob := op_b (tC t2) z1
          have z2' : 3 ≤ tig (sgn (tC t2)) := z2
          have hr3 : hasRel (P2 ++ [op4 (tC t)] ++ st) = true := by
            rw [List.append_assoc, hasRel_P P2 j1]
            show hasRel (op4 (tC t) :: st) = true
            rw [hasRel, if_neg o3, if_neg (by omega)]
            simp [o2]
          by_cases e4 : tig (sgn (tC t2)) = 4
          · exact ⟨e4, hr3⟩
          · have e3 := ob.2.2.2.2.2
            have := (j3 z1 (by omega)).1
            omega
        · rw [show n + (m2 + 1 + m) = n + m2 + 1 + m by omega, k8, sP, j8, List.append_assoc, c21_a]
          have : c21 [op4 (tC t)] = 0 := by simp [c21, o3']
          rw [this, Nat.add_zero]
          rfl
theorem mayN_b {st : List Nat} (b : bel 4 st) : mayN st = true := by
  cases st with
  | nil => rfl
  | cons x r =>
    simp only [mayN, Bool.or_eq_true, decide_eq_true_eq]
    rcases b with b | b
    · exact Or.inl b
    · exact Or.inr b.1
theorem one_ok {nx : LT → LT} {L : Nat} (NX : NXk nx L) {rE : Nat → FS → ER} : ∀ (n d : Nat), d ≤ 7 → 8 ≤ n + d → 1 ≤ n → (∀ d', d < d' → d' ≤ 7 → SPx nx L 1 1 Ht (rE d') d') → SPx nx L 3 4 Ht (oneR nx rE n d) d := by
  intro n
  induction n with
  | zero => intro d _ _ h; omega
  | succ n ih =>
    intro d hd hn h1 hE s st tg h30 b _
    obtain ⟨t, u, cd⟩ := s
    simp only at tg h30
    show Rz nx L 3 (t, u, cd) st d (if tC t = 271 then (if 6 < d then .error (er 2 t) else match oneR nx rE n (d + 1) (nx t, u, cd) with
      | .error e => .error e
      | .ok s' => .ok (s'.1, s'.2.1, s'.2.2 ++ [(2, 0)])) else relR nx (sumR nx (rE (d + 1)) d) (t, u, cd))
    by_cases h2 : tC t = 271
    · rw [if_pos h2]
      have mN := mayN_b b
      by_cases h6 : 6 < d
      · rw [if_pos h6]
        refine ⟨0, by show 0 + tP t ≤ L; have := tg.2.1; omega, fun n => ?_⟩
        show MR nx (n + 1) false (t, u, cd) st d = _
        rw [MR, if_pos ⟨h2, mN⟩, if_pos h6]
      · rw [if_neg h6]
        obtain ⟨tg2, le2⟩ := NX t tg
        have lt2 := tg.2.2 (by omega) (by omega)
        have sub1 := ih (d + 1) (by omega) (by omega) (by omega) (fun d' q1 q2 => hE d' (by omega) q2) (nx t, u, cd) (21 :: st) tg2 h30 (Or.inr ⟨by decide, b⟩) trivial
        have s1 : ∀ n, MR nx (n + 1) false (t, u, cd) st d = MR nx n false (nx t, u, cd) (21 :: st) (d + 1) := fun n => by
          rw [MR, if_pos ⟨h2, mN⟩, if_neg h6]
        cases hr : oneR nx rE n (d + 1) (nx t, u, cd) with
        | error e =>
          rw [hr] at sub1
          obtain ⟨m2, k1, k2⟩ := sub1
          have k1' : m2 + tP (nx t) ≤ L := k1
          refine ⟨m2 + 1, by show m2 + 1 + tP t ≤ L; omega, fun n => ?_⟩
          rw [show n + (m2 + 1) + 1 = n + m2 + 1 + 1 by omega, s1]
          exact k2 n
        | ok s2 =>
          rw [hr] at sub1
          obtain ⟨P, cR, m2, k1, k2, k3, k4, k5, k6, k7, k8⟩ := sub1
          obtain ⟨t2, u2, cd2⟩ := s2
          simp only at k2 k3 k4 k5 k6 k7 k8 ⊢
          have k4' : m2 + tP (nx t) ≤ tP t2 := k4
          refine ⟨P ++ [21], cR, m2 + 1, fun x hx => ?_, ?_, ?_, by show m2 + 1 + tP t ≤ tP t2; omega, k5, k6, k7, fun n => ?_⟩
          · rw [List.mem_append] at hx
            rcases hx with hx | hx
            · exact k1 x hx
            · simp only [List.mem_singleton] at hx
              rw [hx]
              decide
          · show cd2 ++ [(2, 0)] = cR ++ (P ++ [21]).map emi
            rw [k2, List.map_append, List.append_assoc]
            rfl
          · rw [List.append_assoc]; exact k3
          · rw [show n + (m2 + 1) = n + m2 + 1 by omega, s1, k8, List.append_assoc, c21_a, show d + 1 + c21 P = d + (c21 P + c21 [21]) by rw [show c21 [21] = 1 from rfl]; omega]
            rfl
    · rw [if_neg h2]
      exact rel_ok NX (sum_ok NX (fun q => hE (d + 1) (by omega) (by omega))) (t, u, cd) st tg h30 b (Or.inl h2)
theorem ei_ok {nx : LT → LT} {L : Nat} (NX : NXk nx L) : ∀ (n d : Nat), d ≤ 7 → 8 ≤ n + d → 1 ≤ n → SPx nx L 1 1 Ht (eiR nx n d) d := by
  intro n
  induction n with
  | zero => intro d _ _ h; omega
  | succ n ih =>
    intro d hd hn h1
    have o := one_ok NX (rE := eiR nx n) 10 d hd (by omega) (by omega) (fun d' q1 q2 => ih d' q2 (by omega) (by omega))
    have b := chain_ok (H := Ht) NX op2_a (fun c z1 z2 => (op_b c z1).2.2.2.1 z2) (by omega) o (by omega) (fun s st h => h) (fun s st c h => trivial)
    exact chain_ok (H := Ht) NX op1_a (fun c z1 z2 => (op_b c z1).2.2.2.2.1 z2) (by omega) b (by omega) (fun s st h => h) (fun s st c h => trivial)
/-- the whole formula -/
theorem form_eq {nx : LT → LT} {L : Nat} (NX : NXk nx L) {s : FS} (tg : TG L s.1) (h30 : s.2.1 ≤ 30) {n : Nat} (hn : L + 3 ≤ n) : MR nx n false s [] 0 = eiR nx 10 0 s := by
  have r := ei_ok NX 10 0 (by omega) (by omega) (by omega) s [] tg h30 trivial trivial
  cases hr : eiR nx 10 0 s with
  | error e =>
    rw [hr] at r
    obtain ⟨m, k1, k2⟩ := r
    rw [show n = n - (m + 1) + m + 1 by omega]
    exact k2 _
  | ok s1 =>
    rw [hr] at r
    obtain ⟨P, cR, m, k1, k2, k3, k4, k5, k6, k7, k8⟩ := r
    obtain ⟨t, u, cd⟩ := s1
    simp only at k2 k3 k4 k5 k6 k7 k8 ⊢
    have tl := k5.2.1
    have h20 : ¬ has20 (P ++ []) = true := by
      unfold has20
      simp only [List.append_nil, decide_eq_true_eq]
      exact fun z => (k1 20 z).1 rfl
    have ec := clP_P (k := 0) (st := []) trivial P (fun x hx => ⟨(k1 x hx).1, by omega⟩) cR 0
    rw [show n = n - m - 1 + 1 + m by omega, k8, MR, if_neg (fun z => h20 z.2), if_neg (fun z => z.2 (k3 z.1 (tig_in _).1)), if_neg h20]
    show Except.ok (t, u, (clP 0 (P ++ []) cR (0 + c21 P)).2.1) = _
    rw [ec, k2]
