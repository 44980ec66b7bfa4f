/-! ===== a dealer's items ===== -/
def dealS (M : MT) (Y : YT) (a k : Int32) : Int32 := if hasS (mN M) a = true then
    (if k = 0 then Y (ix a) else if k = 1 then Y (6 + ix a) else if k = 2 then mNd M (ix a) else if k = 3 then Y (12 + ix a) else if k = 4 then mKd M (ix a) else if k = 5 then mSg M (ix a) else if k = 6 then Y (18 + ix a) else if k = 7 then Y (24 + ix a) else if k = 8 then (if freeS Y (ix a) = true then 1 else 0) else if k = 9 then chirpS M Y (ix a) else if k = 10 then matesS M Y (ix a) else -100) else -100
theorem H_dealer_ok {M : MT} {Y : YT} {u : Nat} {h : AH} (s : HS h M Y u) (a k : Int32) : ∃ h1, f_H_dealer a k h = some (dealS M Y a k, h1) ∧ Fr (scU u) [(51, 1)] h h1 := by
  have h6 := s.2.2.1.1.2.1
  obtain ⟨hu, hr, hM, hY⟩ := s
  rw [f_H_dealer, gd_ok _ hr (kd_u hu), K_has_ok hM, bI_s]
  unfold dealS
  by_cases hq : hasS (mN M) a = true
  · obtain ⟨i, hi, rfl⟩ := has_ix h6 hq
    have xi : ix (nI i) = i := ix_n (by omega)
    have g : ∀ K : Option (Int32 × AH), gx (nI i) 6 K = K := fun K => gx_n K (by omega) (by omega)
    obtain ⟨y1, y2, y3, y4, y5, y6⟩ := hY.1 i hi
    obtain ⟨k1, k2, k3⟩ := hM.1.2.2 i hi
    obtain ⟨h1, e1, f1, d1, a1⟩ := tune_ok (t := 37) (by omega) hu (by omega) hM hY
    have e9 := a1 i hi
    have em := K_mates_ok hM hY hi
    rw [if_pos hq, if_pos (by decide), if_pos hq]
    simp only [g, xi, gd_ok _ hr (kd_u hu), k1, k2, k3, e1, bV_s, e9, em, bI_s]
    have z1 : hI h 38 i = Y i := y1
    have z2 : hI h 39 i = Y (6 + i) := y2
    have z3 : hI h 40 i = Y (12 + i) := y3
    have z4 : hI h 41 i = Y (18 + i) := y4
    have z5 : hI h 42 i = Y (24 + i) := y5
    have z6 : hI h 43 i = (if freeS Y i = true then 1 else 0) := y6
    rw [z1, z2, z3, z4, z5, z6]
    by_cases q9 : k = 9
    · subst q9
      exact ⟨h1, rfl, f1⟩
    · refine ⟨h, ?_, Fr.rf _ _ _⟩
      rw [if_neg q9, if_neg q9]
      repeat' split
      all_goals rfl
  · rw [if_neg hq, if_neg (by decide), if_neg hq]
    exact ⟨h, rfl, Fr.rf _ _ _⟩
theorem M_dealer_ok {M : MT} {Y : YT} {h : AH} (s : MS h M Y) (a k : Int32) : ∃ h1, f_M_dealer a k h = some (dealS M Y a k, h1) ∧ Fr sca [] h h1 := by
  have h6 := s.1.1.2.1
  rw [f_M_dealer, M_isDealer_ok s.1, bI_s]
  unfold dealS
  by_cases hq : hasS (mN M) a = true
  · obtain ⟨i, hi, rfl⟩ := has_ix h6 hq
    obtain ⟨h1, e1, f1, hY⟩ := M_load_ok s.2
    have hM := s.1.fr f1 (by simp) (by simp)
    have xx : ∀ j, ix (nI (j + i)) = j + i ∨ ¬ j < 40 := fun j => by
      by_cases q : j < 40
      · exact Or.inl (ix_n (by omega))
      · exact Or.inr q
    have xi : ix (nI i) = i := ix_n (by omega)
    have x6 : ix (nI (6 + i)) = 6 + i := ix_n (by omega)
    have x12 : ix (nI (12 + i)) = 12 + i := ix_n (by omega)
    have x18 : ix (nI (18 + i)) = 18 + i := ix_n (by omega)
    have x24 : ix (nI (24 + i)) = 24 + i := ix_n (by omega)
    have e6 : (6 : Int32) + nI i = nI (6 + i) := n_add 6 i
    have e12 : (12 : Int32) + nI i = nI (12 + i) := n_add 12 i
    have e18 : (18 : Int32) + nI i = nI (18 + i) := n_add 18 i
    have e24 : (24 : Int32) + nI i = nI (24 + i) := n_add 24 i
    have g : ∀ K : Option (Int32 × AH), gx (nI i) 6 K = K := fun K => gx_n K (by omega) (by omega)
    have gg : ∀ (j : Nat) (K : Option (Int32 × AH)), j < 35 → gx (nI j) 35 K = K := fun j K hj => gx_n K hj (by omega)
    have g0 : ∀ K : Option (Int32 × AH), gx (nI i) 35 K = K := fun K => gg _ _ (by omega)
    have g6 : ∀ K : Option (Int32 × AH), gx (nI (6 + i)) 35 K = K := fun K => gg _ _ (by omega)
    have g12 : ∀ K : Option (Int32 × AH), gx (nI (12 + i)) 35 K = K := fun K => gg _ _ (by omega)
    have g18 : ∀ K : Option (Int32 × AH), gx (nI (18 + i)) 35 K = K := fun K => gg _ _ (by omega)
    have g24 : ∀ K : Option (Int32 × AH), gx (nI (24 + i)) 35 K = K := fun K => gg _ _ (by omega)
    obtain ⟨k1, k2, k3⟩ := hM.1.2.2 i hi
    obtain ⟨h2, e2, f2⟩ := M_chirpsOf_ok hM hY hi
    have tb : ∀ b : Bool, (if (if b = true then (1 : Int32) else 0) = 0 then (0 : Int32) else 1) = (if b = true then 1 else 0) := fun b => by cases b <;> decide
    rw [if_pos hq, if_pos (by decide), if_pos hq, e1, bV_s]
    simp only [g, g0, g6, g12, g18, g24, e6, e12, e18, e24, xi, x6, x12, x18, x24, k1, k2, k3, hY i (by omega), hY (6 + i) (by omega), hY (12 + i) (by omega), hY (18 + i) (by omega), hY (24 + i) (by omega), M_isFree_ok hY, M_matesOf_ok hM hY hi, e2, bI_s, M_truth_b, tb]
    by_cases q9 : k = 9
    · subst q9
      exact ⟨h2, rfl, f1.t (f2.mn (by simp) (by simp))⟩
    · refine ⟨h1, ?_, f1⟩
      rw [if_neg q9, if_neg q9]
      repeat' split
      all_goals rfl
  · rw [if_neg hq, if_neg (by decide), if_neg hq]
    exact ⟨h, rfl, Fr.rf _ _ _⟩
