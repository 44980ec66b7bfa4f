/-! ===== gain, the reference's ===== -/
abbrev scL : List Nat := [393, 395, 406, 409]
abbrev plL : List (Nat × Nat) := [(383, 57)]
def GA (M : MT) (Y : YT) (h0 : AH) (acc : Option (Nat × Nat)) (z : AH) : Prop := Fr scL plL h0 z ∧ MM z M ∧ AY z Y ∧ ∀ p, acc = some p → hI z 409 0 = nI p.1 ∧ hI z 409 1 = nI p.2
theorem GA.pr {M : MT} {Y : YT} {h0 z : AH} {acc : Option (Nat × Nat)} (g : GA M Y h0 acc z) {i j : Nat} (hi : i < mN M) (hj : j < mN M) : ∃ h1, f_M_priceOf (nI i) (nI j) z = some (priceS M Y i j, h1) ∧ GA M Y h0 acc h1 := by
  obtain ⟨g1, g2, g3, g4⟩ := g
  obtain ⟨h1, e1, f1⟩ := M_priceOf_ok g2 g3 hi hj
  refine ⟨h1, e1, g1.t (f1.mn (by simp) (by simp)), g2.fr f1 (by simp) (by simp), g3.fr f1 (by simp) (by simp), fun p hp => ?_⟩
  rw [f1.i _ _ (by simp) (by simp), f1.i _ _ (by simp) (by simp)]
  exact g4 p hp
theorem M_gain_in {M : MT} {Y : YT} {h0 : AH} {a x : Nat} (ha : a < mN M) (hx : x < mN M) (K : Int32 → Int32 → AH → Option (Int32 × AH)) (acc : Option (Nat × Nat)) {h : AH} (g : GA M Y h0 acc h) : ∃ h1, f_M_gain_l38 (nI a) K FU (gv M Y a acc) (nI x) 0 h = K (gv M Y a (gin M Y a x acc (mN M))) (nI (x + 1)) h1 ∧ GA M Y h0 (gin M Y a x acc (mN M)) h1 := by
  have h6 := g.2.1.1.2.1
  refine lqc (fun fu k (s : AH) => f_M_gain_l38 (nI a) K fu (gv M Y a (gin M Y a x acc k)) (nI x) (nI k) s) (fun k h1 => GA M Y h0 (gin M Y a x acc k) h1) (fun h1 => K (gv M Y a (gin M Y a x acc (mN M))) (nI (x + 1)) h1) (mN M) (by omega) h g (fun r e q => ⟨r, e, q⟩) (fun k fu z hk p => ?_) (fun fu z p => ?_)
  · show ∃ s', f_M_gain_l38 (nI a) K (fu + 1) (gv M Y a (gin M Y a x acc k)) (nI x) (nI k) z = f_M_gain_l38 (nI a) K fu (gv M Y a (gst M Y a x (gin M Y a x acc k) k)) (nI x) (nI (k + 1)) s' ∧ GA M Y h0 (gst M Y a x (gin M Y a x acc k) k) s'
    generalize gin M Y a x acc k = A at p ⊢
    have e6 : (6 : Int32) + nI x = nI (6 + x) := n_add 6 x
    have ga : ∀ K : Option (Int32 × AH), gx (nI a) 35 K = K := fun K => gx_n K (by omega) (by omega)
    have gk : ∀ K : Option (Int32 × AH), gx (nI k) 35 K = K := fun K => gx_n K (by omega) (by omega)
    obtain ⟨h1, e1, p1⟩ := p.pr ha hx
    obtain ⟨h2, e2, p2⟩ := p1.pr ha hk
    obtain ⟨h3, e3, p3⟩ := p2.pr ha hk
    obtain ⟨h4, e4, p4⟩ := p3.pr ha hx
    rw [f_M_gain_l38, p.2.1.1.1, if_neg (nI_ge hk (by omega)), e6, gx_n _ (show 6 + x < 35 by omega) (by omega), ix_n (show 6 + x < 2 ^ 31 by omega), ix_n (show a < 2 ^ 31 by omega), ix_n (show k < 2 ^ 31 by omega), p.2.2.1 (6 + x) (by omega), e1, bI_s, ga, p1.2.2.1 a (by omega), e2, bI_s, gk, p2.2.2.1 k (by omega), e3, bI_s, e4, bI_s]
    simp only [lt_e, nI_1]
    unfold gst
    have no : ∀ z', GA M Y h0 A z' → ¬ dlB M Y a x k = true → ∃ s', f_M_gain_l38 (nI a) K fu (gv M Y a A) (nI x) (nI (k + 1)) z' = f_M_gain_l38 (nI a) K fu (gv M Y a (if dlB M Y a x k = true then (if priceS M Y a k - priceS M Y a x ≤ gv M Y a A then A else some (x, k)) else A)) (nI x) (nI (k + 1)) s' ∧ GA M Y h0 (if dlB M Y a x k = true then (if priceS M Y a k - priceS M Y a x ≤ gv M Y a A then A else some (x, k)) else A) s' := fun z' pz hd => by
      rw [if_neg hd]
      exact ⟨z', rfl, pz⟩
    by_cases q1 : x = a
    · subst q1
      rw [if_pos rfl]
      exact no z p (by simp [dlB, byB])
    · rw [if_neg (fun q => q1 ((n_eqv (by omega) (by omega)).mp q))]
      by_cases q2 : k = a
      · subst q2
        rw [if_pos rfl]
        exact no z p (by simp [dlB])
      · rw [if_neg (fun q => q2 ((n_eqv (by omega) (by omega)).mp q))]
        by_cases q3 : x = k
        · subst q3
          rw [if_pos rfl]
          exact no z p (by simp [dlB])
        · rw [if_neg (fun q => q3 ((n_eqv (by omega) (by omega)).mp q))]
          by_cases q4 : Y (6 + x) = 0
          · rw [if_pos q4]
            exact no z p (by simp [dlB, byB, q4])
          · rw [if_neg q4]
            by_cases q5 : priceS M Y a x ≤ Y a
            · rw [if_neg (Int32.not_lt.mpr q5)]
              by_cases q6 : priceS M Y a k ≤ Y k
              · have hd : dlB M Y a x k = true := by
                  have : ¬ k = x := fun q => q3 q.symm
                  simp [dlB, byB, q1, q2, q4, q5, q6, this]
                rw [if_pos q6, if_pos hd]
                by_cases hg : priceS M Y a k - priceS M Y a x ≤ gv M Y a A
                · rw [if_neg (Int32.not_lt.mpr hg), if_pos hg]
                  exact ⟨h4, rfl, p4⟩
                · rw [if_pos (Int32.not_le.mp hg), if_neg hg]
                  have ff : Fr [409] [] h4 (sI (sI h4 409 0 (nI x)) 409 1 (nI k)) := ((Fr.rf _ _ _).s (by simp) _ _).s (by simp) _ _
                  refine ⟨_, rfl, p4.1.t (ff.mn (by simp) (by simp)), p4.2.1.fr ff (by simp) (by simp), p4.2.2.1.fr ff (by simp) (by simp), fun q hq => ?_⟩
                  cases hq
                  exact ⟨rfl, rfl⟩
              · rw [if_neg q6]
                exact no h2 p2 (by simp [dlB, q6])
            · rw [if_pos (Int32.not_le.mp q5)]
              exact no h1 p1 (by simp [dlB, byB, q5])
  · show f_M_gain_l38 (nI a) K (fu + 1) _ (nI x) (nI (mN M)) z = _
    rw [f_M_gain_l38, p.2.1.1.1, if_pos (nI_le (by omega) (by omega)), lt_e, nI_1]
theorem gv_m (M : MT) (Y : YT) (a : Nat) (o : Option (Nat × Nat)) : gv M Y a o = -1000 ↔ o = none := by
  cases o with
  | none => simp [gv]
  | some p =>
    have h1 := price_in M Y a p.1
    have h2 := price_in M Y a p.2
    refine ⟨fun q => ?_, fun q => by cases q⟩
    have e : (priceS M Y a p.2 - priceS M Y a p.1).toInt = -1000 := by
      have := i_eq.mp q
      rw [show (-1000 : Int32).toInt = -1000 by decide] at this
      exact this
    rw [i_sub (by omega) (by omega)] at e
    omega
theorem M_gain_ok {M : MT} {Y : YT} {h : AH} (s : MS h M Y) (a : Int32) : ∃ h1, f_M_gain a h = some (gainS M Y a, h1) ∧ Fr scL plL h h1 ∧ LM h1 (gN (gainO M Y a)) (gV (gainO M Y a)) := by
  have h6 := s.1.1.2.1
  have f1 : Fr [] plL h (sI h 383 57 0) := (Fr.rf _ _ _).p (by simp) _
  have l1 : hI (sI h 383 57 0) 383 57 = 0 := hI_sI_s _ _ _ _
  rw [f_M_gain, lt_e]
  generalize sI h 383 57 0 = h1 at f1 l1 ⊢
  have s1 : MS h1 M Y := ⟨s.1.fr f1 (by simp) (by simp), fun k hk => by rw [f1.i _ _ (by simp) (by simp)]; exact s.2 k hk⟩
  rw [M_isDealer_ok s1.1, bI_s]
  unfold gainS gainO
  by_cases hq : hasS (mN M) a = true
  · rw [if_pos hq, if_pos (by decide), if_pos hq]
    obtain ⟨a, hi, rfl⟩ := has_ix h6 hq
    obtain ⟨h2, e2, p2⟩ := PA.ld s1
    rw [e2, bV_s, ix_n (show a < 2 ^ 31 by omega)]
    have g2 : GA M Y h none h2 := ⟨(f1.mn (by simp) (by simp)).t (p2.1.mn (by simp) (by simp)), p2.2.1, p2.2.2, fun p hp => by cases hp⟩
    refine lqc (fun fu k (s : AH) => f_M_gain_l27 (nI a) fu (gv M Y a (gou M Y a k)) (nI k) s) (fun k h1 => GA M Y h (gou M Y a k) h1) (fun z => some (gv M Y a (gou M Y a (mN M)), sI z 383 57 (nI (gN (gou M Y a (mN M)))))) (mN M) (by omega) h2 g2 (fun r e q => ⟨_, e, ?_, ?_, ?_, fun i hi => ?_⟩) (fun k fu z hk p => ?_) (fun fu z p => ?_)
    · exact q.1.p (by simp) _
    · exact hI_sI_s _ _ _ _
    · cases gou M Y a (mN M) <;> simp [gN]
    · rw [hI_sI_c _ _ _ _ _ (by decide)]
      cases ho : gou M Y a (mN M) with
      | none => rw [ho] at hi; simp [gN] at hi
      | some p =>
        rw [ho] at hi
        have : i = 0 ∨ i = 1 := by simp [gN] at hi; omega
        rcases this with rfl | rfl
        · exact (q.2.2.2 p ho).1
        · exact (q.2.2.2 p ho).2
    · show ∃ s', f_M_gain_l27 (nI a) (fu + 1) (gv M Y a (gou M Y a k)) (nI k) z = _ ∧ _
      rw [f_M_gain_l27, p.2.1.1.1, if_neg (nI_ge hk (by omega))]
      obtain ⟨h4, e4, p4⟩ := M_gain_in hi hk (f_M_gain_l27 (nI a) fu) (gou M Y a k) p
      exact ⟨h4, e4, p4⟩
    · show f_M_gain_l27 (nI a) (fu + 1) (gv M Y a (gou M Y a (mN M))) (nI (mN M)) z = _
      rw [f_M_gain_l27, p.2.1.1.1, if_pos (nI_le (by omega) (by omega))]
      by_cases hg : gv M Y a (gou M Y a (mN M)) = -1000
      · rw [if_neg (fun q => q hg), (gv_m M Y a _).mp hg]
        rfl
      · rw [if_pos hg]
        cases ho : gou M Y a (mN M) with
        | none => rw [ho] at hg; exact absurd rfl hg
        | some p => rfl
  · rw [if_neg hq, if_neg (by decide), if_neg hq]
    exact ⟨h1, rfl, f1.mn (by simp) (by simp), l1, by simp [gN], fun i hi => by simp [gN] at hi⟩
