/-! ===== the class's loops over operators; whole formulas ===== -/
theorem chain_c {b : Nat → Nat} {L q w : Nat} {op : Nat → Nat} {X : FS → ER} {F : AH → Option AH} (hc : CSm b L q X F) (p : PQ w X) (hw : 1 ≤ w) (o3 : op 3 = 0) (o0 : op 0 = 0) (ho : ∀ c, ¬ op c = 0 → isOpN (op c) = true) (loop : Nat → Int32 → AH → Option AH) (hz : ∀ n x2 h, 30 ≤ x2 → loop (n + 1) x2 h = some h) (hs : ∀ n x2 c h, ¬ 30 ≤ x2 → c < 300 → hI h 1 4 = nI c → loop (n + 1) x2 h = if op c = 0 then some h else bV (f_Reader_next h) fun h1 => bV (F h1) fun h2 => gd h2 1 2 5 fun q => bV (f_Formula_add q (enc 3 (nI (op c))) 0 h2) fun h3 => loop n (x2 + 1) h3) : CSm b L q (chR (nxl b L) op X) (fun h => bV (F h) fun h1 => loop FU 0 h1) := by
  have dead : ∀ n j h e, DC b L q h e → loop (n + 1) j h = some h := fun n j h e x => by
    by_cases h30 : 30 ≤ j
    · exact hz n j h h30
    · rw [hs n j 3 h h30 (by omega) x.2.2.2.2.2.2.1, if_pos o3]
  have go : ∀ i j, i + j = 30 → ∀ n h s k0, i < n → XC b L q h s → runH s.2.2 0 = some (k0 + 1) → k0 + 1 ≤ s.2.1 → s.2.2.length + w ≤ 9 * s.2.1 → ∃ h1, loop n (nI j) h = some h1 ∧ FrQ q h h1 ∧ match chN (nxl b L) op X i s with
      | .error e => DC b L q h1 e
      | .ok s' => XC b L q h1 s' := by
    intro i
    induction i with
    | zero =>
      intro j hj n h s k0 hn r _ _ _
      obtain ⟨m, rfl⟩ : ∃ m, n = m + 1 := ⟨n - 1, by omega⟩
      exact ⟨h, hz m (nI j) h (by have : j = 30 := by omega
                                  subst this; exact Int32.le_refl _), FrL.rf _ _ _ h, r⟩
    | succ i ih =>
      intro j hj n h s k0 hn r g1 g2 g3
      obtain ⟨m, rfl⟩ : ∃ m, n = m + 1 := ⟨n - 1, by omega⟩
      obtain ⟨t1, t2⟩ := r.tok
      rw [hs m (nI j) (tC s.1) h (show ¬ (30 : Int32) ≤ nI j from nI_ge (a := j) (b := 30) (by omega) (by omega)) t2 t1, chN]
      by_cases h0 : op (tC s.1) = 0
      · rw [if_pos h0, if_pos h0]
        exact ⟨h, rfl, FrL.rf _ _ _ h, r⟩
      · rw [if_neg h0, if_neg h0]
        have g : Gd s := ⟨⟨k0 + 1, g1, g2⟩, by omega⟩
        obtain ⟨h1, e1, f1, x1⟩ := r.next (fun z => h0 (by rw [z]; exact o3))
        obtain ⟨h2, e2, f2, x2⟩ := hc.1 h1 _ x1 g.n
        rw [e1, bV_s, e2, bV_s]
        cases hr : X (nxl b L s.1, s.2.1, s.2.2) with
        | error e =>
          rw [hr] at x2
          obtain ⟨h3, e3, f3, x3⟩ := x2.add (enc 3 (nI (op (tC s.1)))) 0
          rw [gd_ok _ x2.2.1.2.1 x2.2.1.2.2, e3, bV_s]
          obtain ⟨m2, rfl⟩ : ∃ m2, m = m2 + 1 := ⟨m - 1, by omega⟩
          exact ⟨h3, dead m2 _ h3 e x3, (f1.t f2).t f3, x3⟩
        | ok s2 =>
          rw [hr] at x2
          have pq := p (nxl b L s.1, s.2.1, s.2.2) (k0 + 1) g1 g2
          rw [hr] at pq
          obtain ⟨p1, p2, p3⟩ := pq
          have p3' : s2.2.2.length + w + 9 * s.2.1 ≤ s.2.2.length + 9 * s2.2.1 := p3
          have u3 := x2.2.2.2.2.1
          obtain ⟨h3, e3, f3, x3⟩ := x2.add (x := (3, op (tC s.1))) (a := enc 3 (nI (op (tC s.1)))) (v := 0) (by omega) rfl (fun z => absurd z (by simp)) (by show 3 < 4; omega)
          rw [gd_ok _ x2.2.2.1.2.1 x2.2.2.1.2.2, e3, bV_s, nI_1]
          obtain ⟨h4, e4, f4, x4⟩ := ih (j + 1) (by omega) m h3 _ k0 (by omega) x3 (bin_q p1 (ho _ h0)) (by show k0 + 1 ≤ s2.2.1; omega) (by show (s2.2.2 ++ [(3, op (tC s.1))]).length + w ≤ 9 * s2.2.1; rw [List.length_append]; show s2.2.2.length + 1 + w ≤ 9 * s2.2.1; omega)
          exact ⟨h4, e4, ((f1.t f2).t f3).t f4, x4⟩
  refine ⟨fun h s r g => ?_, fun h e x => ?_⟩
  · obtain ⟨h1, e1, f1, x1⟩ := hc.1 h s r g
    unfold chR
    show ∃ h1, bV (F h) (fun h1 => loop FU 0 h1) = some h1 ∧ _
    rw [e1, bV_s]
    cases hr : X s with
    | error e =>
      rw [hr] at x1
      exact ⟨h1, dead 999999 0 h1 e x1, f1, x1⟩
    | ok s2 =>
      rw [hr] at x1
      obtain ⟨-, q1, q2, k, q3, q4, -⟩ := Gd.s p g hr
      obtain ⟨h4, e4, f4, x4⟩ := go 30 0 rfl FU h1 s2 k (by show 30 < 1000000; omega) x1 q3 q4 q1
      exact ⟨h4, e4, f1.t f4, x4⟩
  · obtain ⟨h1, e1, f1, x1⟩ := hc.2 h e x
    show ∃ h1, bV (F h) (fun h1 => loop FU 0 h1) = some h1 ∧ _
    rw [e1, bV_s]
    exact ⟨h1, dead 999999 0 h1 e x1, f1, x1⟩
theorem term_c {b : Nat → Nat} {L q d : Nat} {rE : Int32 → AH → Option AH} {X : FS → ER} (hu : CSm b L q X (f_Reader_readUnit rE (nI d))) (p : PQ 8 X) : CSm b L q (chR (nxl b L) op6 X) (f_Reader_readTerm rE (nI d)) := by
  refine chain_c hu p (by omega) (by decide) (by decide) isOp_6 (f_Reader_readTerm_l7 rE (nI d)) (fun n x2 h h30 => by rw [f_Reader_readTerm_l7, if_pos h30]) (fun n x2 c h h30 hc ht => ?_)
  rw [f_Reader_readTerm_l7, if_neg h30, ht]
  by_cases a : c = 42
  · rw [if_pos (show nI c = (42 : Int32) by rw [a]; rfl), f_Reader_readTerm_b40, lt_e, ht, a]
    rfl
  · rw [if_neg (show ¬ nI c = (42 : Int32) from fun z => a ((tk_eq (k := 42) hc (by omega)).mp z))]
    by_cases a2 : c = 47
    · rw [if_pos (show nI c = (47 : Int32) by rw [a2]; rfl), f_Reader_readTerm_b40, lt_e, ht, a2]
      rfl
    · rw [if_neg (show ¬ nI c = (47 : Int32) from fun z => a2 ((tk_eq (k := 47) hc (by omega)).mp z))]
      by_cases a3 : c = 37
      · rw [if_neg (show ¬ ¬ nI c = (37 : Int32) from fun z => z (by rw [a3]; rfl)), f_Reader_readTerm_b40, lt_e, ht, a3]
        rfl
      · rw [if_pos (show ¬ nI c = (37 : Int32) from fun z => a3 ((tk_eq (k := 37) hc (by omega)).mp z)), if_pos (by unfold op6; rw [if_neg (by omega)])]
theorem sum_c {b : Nat → Nat} {L q d : Nat} {rE : Int32 → AH → Option AH} {X : FS → ER} (hu : CSm b L q X (f_Reader_readTerm rE (nI d))) (p : PQ 8 X) : CSm b L q (chR (nxl b L) op5 X) (f_Reader_readSum rE (nI d)) := by
  refine chain_c hu p (by omega) (by decide) (by decide) isOp_5 (f_Reader_readSum_l7 rE (nI d)) (fun n x2 h h30 => by rw [f_Reader_readSum_l7, if_pos h30]) (fun n x2 c h h30 hc ht => ?_)
  rw [f_Reader_readSum_l7, if_neg h30, ht]
  by_cases a : c = 43
  · rw [if_pos (show nI c = (43 : Int32) by rw [a]; rfl), f_Reader_readSum_b31, lt_e, ht, a]
    rfl
  · rw [if_neg (show ¬ nI c = (43 : Int32) from fun z => a ((tk_eq (k := 43) hc (by omega)).mp z))]
    by_cases a3 : c = 45
    · rw [if_neg (show ¬ ¬ nI c = (45 : Int32) from fun z => z (by rw [a3]; rfl)), f_Reader_readSum_b31, lt_e, ht, a3]
      rfl
    · rw [if_pos (show ¬ nI c = (45 : Int32) from fun z => a3 ((tk_eq (k := 45) hc (by omega)).mp z)), if_pos (by unfold op5; rw [if_neg (by omega)])]
theorem both_c {b : Nat → Nat} {L q d w : Nat} {rE : Int32 → AH → Option AH} {X : FS → ER} (hw : 1 ≤ w) (hu : CSm b L q X (f_Reader_readOne rE 10 (nI d))) (p : PQ w X) : CSm b L q (chR (nxl b L) op2 X) (f_Reader_readBoth rE (nI d)) := by
  refine chain_c hu p hw (by decide) (by decide) isOp_2 (f_Reader_readBoth_l7 rE (nI d)) (fun n x2 h h30 => by rw [f_Reader_readBoth_l7, if_pos h30]) (fun n x2 c h h30 hc ht => ?_)
  rw [f_Reader_readBoth_l7, if_neg h30, f_Reader_take, ht]
  by_cases a : c = 270
  · rw [if_pos (show nI c = (270 : Int32) by rw [a]; rfl), a, if_neg (show ¬ op2 270 = 0 by decide)]
    cases f_Reader_next h with
    | none => rfl
    | some h1 => rfl
  · rw [if_neg (show ¬ nI c = (270 : Int32) from fun z => a ((tk_eq (k := 270) hc (by omega)).mp z)), bI_s, if_pos rfl, if_pos (by unfold op2; rw [if_neg a])]
theorem either_c {b : Nat → Nat} {L q d w : Nat} {rE : Int32 → AH → Option AH} {X : FS → ER} (hw : 1 ≤ w) (hu : CSm b L q X (f_Reader_readBoth rE (nI d))) (p : PQ w X) : CSm b L q (chR (nxl b L) op1 X) (f_Reader_readEither_e rE (nI d)) := by
  refine chain_c hu p hw (by decide) (by decide) isOp_1 (f_Reader_readEither_l7 rE (nI d)) (fun n x2 h h30 => by rw [f_Reader_readEither_l7, if_pos h30]) (fun n x2 c h h30 hc ht => ?_)
  rw [f_Reader_readEither_l7, if_neg h30, f_Reader_take, ht]
  by_cases a : c = 269
  · rw [if_pos (show nI c = (269 : Int32) by rw [a]; rfl), a, if_neg (show ¬ op1 269 = 0 by decide)]
    cases f_Reader_next h with
    | none => rfl
    | some h1 => rfl
  · rw [if_neg (show ¬ nI c = (269 : Int32) from fun z => a ((tk_eq (k := 269) hc (by omega)).mp z)), bI_s, if_pos rfl, if_pos (by unfold op1; rw [if_neg a])]
theorem rel_c {b : Nat → Nat} {L q d : Nat} {rE rO : Int32 → AH → Option AH} {X : FS → ER} (hc : CSm b L q X (f_Reader_readSum rE (nI d))) (p : PQ 8 X) : (∀ h s, XC b L q h s → ¬ tC s.1 = 271 → Gd s → ∃ h1, f_Reader_readOne_e rE rO (nI d) h = some h1 ∧ FrQ q h h1 ∧ match relR (nxl b L) X s with
      | .error e => DC b L q h1 e
      | .ok s' => XC b L q h1 s') ∧ ∀ h e, DC b L q h e → ∃ h1, f_Reader_readOne_e rE rO (nI d) h = some h1 ∧ FrQ q h h1 ∧ DC b L q h1 e := by
  refine ⟨fun h s r hn g => ?_, fun h e x => ?_⟩
  · obtain ⟨t1, t2⟩ := r.tok
    obtain ⟨h1, e1, f1, x1⟩ := hc.1 h s r g
    rw [f_Reader_readOne_e, if_pos (show ¬ hI h 1 4 = (271 : Int32) from fun z => hn ((tk_eq (k := 271) t2 (by omega)).mp (by rw [← t1]; exact z))), e1, bV_s, lt_e]
    unfold relR
    cases hr : X s with
    | error e =>
      rw [hr] at x1
      rw [x1.2.2.2.2.2.2.1, if_neg (by decide), if_neg (by decide), if_pos (by decide)]
      exact ⟨h1, rfl, f1, x1⟩
    | ok s1 =>
      rw [hr] at x1
      obtain ⟨v1, v2⟩ := x1.tok
      have gs := Gd.s p g hr
      show ∃ h1, _ ∧ _ ∧ match (if op4 (tC s1.1) = 0 then .ok s1 else match X (nxl b L s1.1, s1.2.1, s1.2.2) with | .error e => .error e | .ok s2 => .ok (s2.1, s2.2.1, s2.2.2 ++ [(3, op4 (tC s1.1))]) : ER) with | .error e => _ | .ok s' => _
      have act : ∀ c, tC s1.1 = c → ¬ op4 c = 0 → enc 3 (nI (op4 c)) = nI c → ¬ c = 3 → ∃ h4, f_Reader_readOne_b73 rE rO (nI d) (nI c) h1 = some h4 ∧ FrQ q h h4 ∧ match (if op4 c = 0 then .ok s1 else match X (nxl b L s1.1, s1.2.1, s1.2.2) with | .error e => .error e | .ok s2 => .ok (s2.1, s2.2.1, s2.2.2 ++ [(3, op4 c)]) : ER) with
          | .error e => DC b L q h4 e
          | .ok s' => XC b L q h4 s' := fun c ec h0 he c3 => by
        obtain ⟨h2, e2, f2, x2⟩ := x1.next (by rw [ec]; exact c3)
        obtain ⟨h3, e3, f3, x3⟩ := hc.1 h2 _ x2 gs.1.n
        rw [f_Reader_readOne_b73, e2, bV_s, e3, bV_s, if_neg h0]
        cases hr2 : X (nxl b L s1.1, s1.2.1, s1.2.2) with
        | error e =>
          rw [hr2] at x3
          obtain ⟨h4, e4, f4, x4⟩ := x3.add (nI c) 0
          rw [gd_ok _ x3.2.1.2.1 x3.2.1.2.2, e4, bV_s]
          exact ⟨h4, rfl, ((f1.t f2).t f3).t f4, x4⟩
        | ok s2 =>
          rw [hr2] at x3
          have gs2 := Gd.s p gs.1.n hr2
          have u3 := x3.2.2.2.2.1
          obtain ⟨h4, e4, f4, x4⟩ := x3.add (x := (3, op4 c)) (a := nI c) (v := 0) (by have := gs2.2.1; omega) he.symm (fun z => absurd z (by simp)) (by show 3 < 4; omega)
          rw [gd_ok _ x3.2.2.1.2.1 x3.2.2.1.2.2, e4, bV_s]
          exact ⟨h4, rfl, ((f1.t f2).t f3).t f4, x4⟩
      rw [v1]
      by_cases a : tC s1.1 = 60
      · rw [if_pos (show nI (tC s1.1) = (60 : Int32) by rw [a]; rfl), a]
        exact act 60 a (by decide) (by decide) (by omega)
      · rw [if_neg (show ¬ nI (tC s1.1) = (60 : Int32) from fun z => a ((tk_eq (k := 60) v2 (by omega)).mp z))]
        by_cases a2 : tC s1.1 = 62
        · rw [if_pos (show nI (tC s1.1) = (62 : Int32) by rw [a2]; rfl), a2]
          exact act 62 a2 (by decide) (by decide) (by omega)
        · rw [if_neg (show ¬ nI (tC s1.1) = (62 : Int32) from fun z => a2 ((tk_eq (k := 62) v2 (by omega)).mp z))]
          by_cases a3 : tC s1.1 = 61
          · rw [if_neg (show ¬ ¬ nI (tC s1.1) = (61 : Int32) from fun z => z (by rw [a3]; rfl)), a3]
            exact act 61 a3 (by decide) (by decide) (by omega)
          · rw [if_pos (show ¬ nI (tC s1.1) = (61 : Int32) from fun z => a3 ((tk_eq (k := 61) v2 (by omega)).mp z)), if_pos (by unfold op4; rw [if_neg (by omega)])]
            exact ⟨h1, rfl, f1, x1⟩
  · obtain ⟨h1, e1, f1, x1⟩ := hc.2 h e x
    rw [f_Reader_readOne_e, if_pos (by rw [x.2.2.2.2.2.2.1]; decide), e1, bV_s, lt_e, x1.2.2.2.2.2.2.1, if_neg (by decide), if_neg (by decide), if_pos (by decide)]
    exact ⟨h1, rfl, f1, x1⟩
theorem one_c {b : Nat → Nat} {L q : Nat} {rE : Int32 → AH → Option AH} {X : Nat → FS → ER} : ∀ (n d : Nat), d ≤ 7 → 8 ≤ n + d → 1 ≤ n → (∀ d', d < d' → d' ≤ 7 → CSm b L q (X d') (fun h => rE (nI d') h)) → (∀ d', d < d' → d' ≤ 7 → PQ (1 + d') (X d')) → CSm b L q (oneR (nxl b L) X n d) (f_Reader_readOne rE n (nI d)) := by
  intro n
  induction n with
  | zero => intro d _ _ h; omega
  | succ n ih =>
    intro d hd hn _ hE hp
    have u1 := unit_q (nx := nxl b L) (d := d) (fun q => hp (d + 1) (by omega) (by omega))
    have pt : PQ 8 (chR (nxl b L) op6 (unitR (nxl b L) (X (d + 1)) d)) := chain_q (by omega) isOp_6 u1
    have ps : PQ 8 (sumR (nxl b L) (X (d + 1)) d) := chain_q (by omega) isOp_5 pt
    have cu := unit_c (rE := rE) hd (w := 1 + (d + 1)) (fun z => hp (d + 1) (by omega) (by omega)) (fun z => hE (d + 1) (by omega) (by omega))
    have cs : CSm b L q (sumR (nxl b L) (X (d + 1)) d) (f_Reader_readSum rE (nI d)) := sum_c (term_c cu u1) pt
    have rl := rel_c (rO := f_Reader_readOne rE n) cs ps
    refine ⟨fun h s r g => ?_, fun h e x => ?_⟩
    · rw [f_Reader_readOne]
      show ∃ h1, _ ∧ _ ∧ match (if tC s.1 = 271 then (if 6 < d then .error (er 2 s.1) else match oneR (nxl b L) X n (d + 1) (nxl b L s.1, s.2.1, s.2.2) with
        | .error e => .error e
        | .ok s' => .ok (s'.1, s'.2.1, s'.2.2 ++ [(2, 0)])) else relR (nxl b L) (sumR (nxl b L) (X (d + 1)) d) s : ER) with | .error e => _ | .ok s' => _
      by_cases h2 : tC s.1 = 271
      · have t1 := r.tok.1
        have u3 := r.2.2.2.2.1
        have gl := g.2
        rw [if_pos h2, f_Reader_readOne_e, t1, if_neg (show ¬ ¬ nI (tC s.1) = (271 : Int32) from fun z => z (by rw [h2]; rfl))]
        by_cases h6 : 6 < d
        · rw [if_neg (show ¬ nI d ≤ (6 : Int32) from nI_ge (a := 6) h6 (by omega)), if_pos h6]
          obtain ⟨h1, e1, f1, x1⟩ := r.fail (by omega) (k := 2) (by omega) (by omega)
          exact ⟨h1, by rw [show (2 : Int32) = nI 2 from rfl, e1, bV_s], f1, x1⟩
        · rw [if_pos (show nI d ≤ (6 : Int32) from nI_le (b := 6) (by omega) (by omega)), if_neg h6]
          obtain ⟨h1, e1, f1, x1⟩ := r.next (by rw [h2]; omega)
          have i1 := ih (d + 1) (by omega) (by omega) (by omega) (fun d' q1 q2 => hE d' (by omega) q2) (fun d' q1 q2 => hp d' (by omega) q2)
          obtain ⟨h3, e3, f3, x3⟩ := i1.1 h1 _ x1 g.n
          rw [e1, bV_s, nI_1, e3, bV_s]
          have pq := one_q (nx := nxl b L) n (d + 1) (by omega) (fun d' q1 q2 => hp d' (by omega) q2)
          cases hr : oneR (nxl b L) X n (d + 1) (nxl b L s.1, s.2.1, s.2.2) with
          | error e =>
            rw [hr] at x3
            obtain ⟨h4, e4, f4, x4⟩ := x3.add 271 0
            rw [gd_ok _ x3.2.1.2.1 x3.2.1.2.2, e4, bV_s]
            exact ⟨h4, rfl, (f1.t f3).t f4, x4⟩
          | ok s2 =>
            rw [hr] at x3
            have gs2 := Gd.s pq g.n hr
            have u32 := x3.2.2.2.2.1
            obtain ⟨h4, e4, f4, x4⟩ := x3.add (x := (2, 0)) (a := 271) (v := 0) (by have := gs2.2.1; omega) (by decide) (fun z => absurd z (by simp)) (by show 2 < 4; omega)
            rw [gd_ok _ x3.2.2.1.2.1 x3.2.2.1.2.2, e4, bV_s]
            exact ⟨h4, rfl, (f1.t f3).t f4, x4⟩
      · rw [if_neg h2]
        exact rl.1 h s r h2 g
    · rw [f_Reader_readOne]
      exact rl.2 h e x
theorem ei_c {b : Nat → Nat} {L q : Nat} : ∀ (n d : Nat), d ≤ 7 → 8 ≤ n + d → 1 ≤ n → CSm b L q (eiR (nxl b L) n d) (f_Reader_readEither n (nI d)) := by
  intro n
  induction n with
  | zero => intro d _ _ h; omega
  | succ n ih =>
    intro d hd hn _
    have p1 : PQ (1 + d) (oneR (nxl b L) (eiR (nxl b L) n) 10 d) := one_q 10 d hd (fun d' _ q2 => ei_q n d' q2)
    have c1 : CSm b L q (oneR (nxl b L) (eiR (nxl b L) n) 10 d) (f_Reader_readOne (f_Reader_readEither n) 10 (nI d)) := one_c 10 d hd (by omega) (by omega) (fun d' q1 q2 => ih d' q2 (by omega) (by omega)) (fun d' _ q2 => ei_q n d' q2)
    have c2 := both_c (by omega) c1 p1
    have p2 : PQ (1 + d) (chR (nxl b L) op2 (oneR (nxl b L) (eiR (nxl b L) n) 10 d)) := chain_q (by omega) isOp_2 p1
    exact either_c (by omega) c2 p2
