/-! ===== both sides' queries: heat, price ===== -/
/-- the reference's half -/
def MS (h : AH) (M : MT) (Y : YT) : Prop := MM h M ∧ ∀ k, k < 35 → hI h 405 k = Y k
/-- the class's half -/
def HS (h : AH) (M : MT) (Y : YT) (u : Nat) : Prop := (u = 3 ∨ u = 20) ∧ hR h 0 1 = some u ∧ MK h u M ∧ YR (mN M) h 37 Y
theorem kd_u {u : Nat} (hu : u = 3 ∨ u = 20) : kdF u = .inr 7 := by rcases hu with rfl | rfl <;> rfl
def hasS (n : Nat) (a : Int32) : Bool := decide (0 ≤ a) && decide (a < nI n)
def twoS (n : Nat) (a b : Int32) : Bool := hasS n a && hasS n b && !decide (a = b)
theorem has_ix {n : Nat} (hn : n ≤ 6) {a : Int32} (h : hasS n a = true) : ∃ j, j < n ∧ a = nI j := by
  unfold hasS at h
  simp only [Bool.and_eq_true, decide_eq_true_eq] at h
  rcases i_pl a (show n < 2 ^ 31 by omega) with q | q | q
  · exact absurd h.1 (Int32.not_le.mpr q)
  · exact absurd h.2 (Int32.not_lt.mpr q)
  · exact q
theorem M_isDealer_ok {M : MT} {h : AH} (hM : MM h M) (a : Int32) : f_M_isDealer a h = some (if hasS (mN M) a = true then 1 else 0, h) := by
  have h6 := hM.1.2.1
  have hN : (nI (mN M)).toInt = (mN M : Int) := nI_toInt (by omega)
  have e : (nI (mN M) - 1).toInt = (mN M : Int) - 1 := by
    rw [i_sub (by rw [hN]; show _ ≤ _ - (1 : Int); omega) (by rw [hN]; show _ - (1 : Int) ≤ _; omega), hN]
    rfl
  rw [f_M_isDealer, hM.1.1, f_M_isIn]
  unfold hasS
  by_cases h1 : a < 0
  · rw [if_pos h1, bI_s, gb_0, if_neg (by simp only [Bool.and_eq_true, decide_eq_true_eq]; exact fun q => Int32.not_le.mpr h1 q.1)]
  · rw [if_neg h1]
    by_cases h2 : nI (mN M) - 1 < a
    · rw [if_pos h2, bI_s, gb_0, if_neg (by
        simp only [Bool.and_eq_true, decide_eq_true_eq]
        intro q
        have q1 := i_lt.mp h2
        have q2 := i_lt.mp q.2
        omega)]
    · rw [if_neg h2, bI_s, gb_1, if_pos (by
        simp only [Bool.and_eq_true, decide_eq_true_eq]
        refine ⟨Int32.not_lt.mp h1, i_lt.mpr ?_⟩
        have q1 : ¬ (nI (mN M) - 1).toInt < a.toInt := fun q => h2 (i_lt.mpr q)
        omega)]
theorem M_areTwo_ok {M : MT} {h : AH} (hM : MM h M) (a b : Int32) : f_M_areTwo a b h = some (if twoS (mN M) a b = true then 1 else 0, h) := by
  rw [f_M_areTwo, M_isDealer_ok hM, bI_s]
  unfold twoS
  by_cases ha : hasS (mN M) a = true
  · rw [if_pos ha, if_neg (by decide), M_isDealer_ok hM, bI_s]
    by_cases hb : hasS (mN M) b = true
    · rw [if_pos hb, if_neg (by decide)]
      by_cases hq : a = b
      · rw [if_pos hq, if_neg (by simp [hq])]
      · rw [if_neg hq, if_pos (by simp [ha, hb, hq])]
    · rw [if_neg hb, if_pos rfl, if_neg (by simp [hb])]
  · rw [if_neg ha, if_pos rfl, if_neg (by simp [ha])]
theorem K_has_ok {M : MT} {u : Nat} {h : AH} (hM : MK h u M) (a : Int32) : f_Market_has u a h = some (if hasS (mN M) a = true then 1 else 0, h) := by
  rw [f_Market_has, hM.1.1]
  unfold hasS
  by_cases h1 : a < 0
  · rw [if_pos h1, if_neg (by simp only [Bool.and_eq_true, decide_eq_true_eq]; exact fun q => Int32.not_le.mpr h1 q.1)]
  · rw [if_neg h1]
    by_cases h2 : nI (mN M) ≤ a
    · rw [if_pos h2, if_neg (by simp only [Bool.and_eq_true, decide_eq_true_eq]; exact fun q => Int32.not_lt.mpr h2 q.2)]
    · rw [if_neg h2, if_pos (by simp only [Bool.and_eq_true, decide_eq_true_eq]; exact ⟨Int32.not_lt.mp h1, Int32.not_le.mp h2⟩)]
theorem H_areTwo_ok {M : MT} {Y : YT} {u : Nat} {h : AH} (s : HS h M Y u) (a b : Int32) : f_H_areTwo a b h = some (if twoS (mN M) a b = true then 1 else 0, h) := by
  obtain ⟨hu, hr, hM, hY⟩ := s
  rw [f_H_areTwo]
  unfold twoS
  by_cases hq : a = b
  · rw [if_pos hq, if_neg (by simp [hq])]
  · rw [if_neg hq, gd_ok _ hr (kd_u hu), K_has_ok hM, bI_s]
    by_cases ha : hasS (mN M) a = true
    · rw [if_pos ha, if_neg (by decide), gd_ok _ hr (kd_u hu), K_has_ok hM, bI_s]
      by_cases hb : hasS (mN M) b = true
      · rw [if_pos hb, if_neg (by decide), if_pos (by simp [ha, hb, hq])]
      · rw [if_neg hb, if_pos rfl, if_neg (by simp [hb])]
    · rw [if_neg ha, if_pos rfl, if_neg (by simp [ha])]
/-- what a price is asked to be -/
def prS (M : MT) (Y : YT) (a b : Int32) : Int32 := if twoS (mN M) a b = true then priceS M Y (ix a) (ix b) else -1
theorem M_heat_ok {M : MT} {Y : YT} {h : AH} (s : MS h M Y) : ∃ h1, f_M_heat h = some (heatS M Y, h1) ∧ Fr sca [] h h1 := by
  obtain ⟨h1, e1, f1, a1⟩ := M_load_ok s.2
  obtain ⟨h2, e2, f2⟩ := M_heatHere_ok (s.1.fr f1 (by simp) (by simp)) a1
  refine ⟨h2, ?_, f1.t (f2.mn (by simp) (by simp))⟩
  rw [f_M_heat, e1, bV_s, e2, bI_s]
theorem H_heat_ok {M : MT} {Y : YT} {u : Nat} {h : AH} (s : HS h M Y u) : ∃ h1, f_H_heat h = some (heatS M Y, h1) ∧ Fr [u + 16] [] h h1 := by
  obtain ⟨hu, hr, hM, hY⟩ := s
  obtain ⟨h1, e1, f1⟩ := K_warm_ok hM hY
  refine ⟨h1, ?_, f1⟩
  rw [f_H_heat, gd_ok _ hr (kd_u hu), e1, bI_s]
theorem two_ix {n : Nat} (hn : n ≤ 6) {a b : Int32} (h : twoS n a b = true) : ∃ i j, i < n ∧ j < n ∧ a = nI i ∧ b = nI j := by
  unfold twoS at h
  simp only [Bool.and_eq_true] at h
  obtain ⟨i, hi, ei⟩ := has_ix hn h.1.1
  obtain ⟨j, hj, ej⟩ := has_ix hn h.1.2
  exact ⟨i, j, hi, hj, ei, ej⟩
theorem M_price_ok {M : MT} {Y : YT} {h : AH} (s : MS h M Y) (a b : Int32) : ∃ h1, f_M_price a b h = some (prS M Y a b, h1) ∧ Fr sca [] h h1 := by
  have h6 := s.1.1.2.1
  rw [f_M_price, M_areTwo_ok s.1, bI_s]
  unfold prS
  by_cases hq : twoS (mN M) a b = true
  · rw [if_pos hq, if_pos (by decide), if_pos hq]
    obtain ⟨i, j, hi, hj, rfl, rfl⟩ := two_ix h6 hq
    obtain ⟨h1, e1, f1, a1⟩ := M_load_ok s.2
    obtain ⟨h2, e2, f2⟩ := M_priceOf_ok (s.1.fr f1 (by simp) (by simp)) a1 hi hj
    refine ⟨h2, ?_, f1.t (f2.mn (by simp) (by simp))⟩
    rw [e1, bV_s, e2, bI_s, ix_n (show i < 2 ^ 31 by omega), ix_n (show j < 2 ^ 31 by omega)]
  · rw [if_neg hq, if_neg (by decide), if_neg hq]
    exact ⟨h, rfl, Fr.rf _ _ _⟩
theorem H_price_ok {M : MT} {Y : YT} {u : Nat} {h : AH} (s : HS h M Y u) (a b : Int32) : ∃ h1, f_H_price a b h = some (prS M Y a b, h1) ∧ Fr (scU u) [(51, 1)] h h1 := by
  have h6 := s.2.2.1.1.2.1
  rw [f_H_price, H_areTwo_ok s, bI_s]
  obtain ⟨hu, hr, hM, hY⟩ := s
  unfold prS
  by_cases hq : twoS (mN M) a b = true
  · rw [if_pos hq, if_pos (by decide), if_pos hq, gd_ok _ hr (kd_u hu)]
    obtain ⟨i, j, hi, hj, rfl, rfl⟩ := two_ix h6 hq
    obtain ⟨h1, e1, f1, d1, a1⟩ := tune_ok (t := 37) (by omega) hu (by omega) hM hY
    refine ⟨h1, ?_, f1⟩
    rw [e1, bV_s, f_Choir_half, gx_n _ (show i < 6 by omega) (by omega), gx_n _ (show j < 6 by omega) (by omega), bI_s, ix_n (show i < 2 ^ 31 by omega), ix_n (show j < 2 ^ 31 by omega), a1 i hi, a1 j hj]
    rfl
  · rw [if_neg hq, if_neg (by decide), if_neg hq]
    exact ⟨h, rfl, Fr.rf _ _ _⟩
