/-! ===== how long a load lasts ===== -/
def lastS (M : MT) (Y : YT) (a : Int32) : Int32 := if hasS (mN M) a = true then (if mNd M (ix a) = 0 then -1 else Y (6 + ix a) / mNd M (ix a)) else -1
theorem H_lasts_ok {M : MT} {Y : YT} {u : Nat} {h : AH} (s : HS h M Y u) (b : BN M Y) (a : Int32) : f_H_lasts a h = some (lastS M Y a, h) := by
  have h6 := s.2.2.1.1.2.1
  obtain ⟨hu, hr, hM, hY⟩ := s
  rw [f_H_lasts, gd_ok _ hr (kd_u hu), K_has_ok hM, bI_s]
  unfold lastS
  by_cases hq : hasS (mN M) a = true
  · obtain ⟨i, hi, rfl⟩ := has_ix h6 hq
    have xi : ix (nI i) = i := ix_n (by omega)
    have g : ∀ K : Option (Int32 × AH), gx (nI i) 6 K = K := fun K => gx_n K (by omega) (by omega)
    have n8 := (hM.1.2.2 i hi).2.2
    have y2 : hI h 39 i = Y (6 + i) := (hY.1 i hi).2.1
    have b0 := (b i hi).1.1
    rw [if_pos hq, if_neg (by decide), if_pos hq]
    simp only [g, xi, gd_ok _ hr (kd_u hu), n8, y2]
    by_cases h0 : mNd M i = 0
    · rw [if_neg (by rw [h0]; decide), if_pos h0]
    · have : 0 < mNd M i := by
        refine i_lt.mpr ?_
        have q : ¬ (mNd M i).toInt = (0 : Int32).toInt := fun q => h0 (i_eq.mpr q)
        have z : (0 : Int32).toInt = 0 := rfl
        omega
      rw [if_pos this, gz_ok _ h0, if_neg h0]
  · rw [if_neg hq, if_pos rfl, if_neg hq]
theorem M_lasts_ok {M : MT} {Y : YT} {h : AH} (s : MS h M Y) (a : Int32) : f_M_lasts a h = some (lastS M Y a, h) := by
  have h6 := s.1.1.2.1
  obtain ⟨hM, hY⟩ := s
  rw [f_M_lasts, M_isDealer_ok hM, bI_s]
  unfold lastS
  by_cases hq : hasS (mN M) a = true
  · obtain ⟨i, hi, rfl⟩ := has_ix h6 hq
    have xi : ix (nI i) = i := ix_n (by omega)
    have x6 : ix (nI (6 + i)) = 6 + i := ix_n (by omega)
    have e6 : (6 : Int32) + nI i = nI (6 + i) := n_add 6 i
    have g : ∀ K : Option (Int32 × AH), gx (nI i) 6 K = K := fun K => gx_n K (by omega) (by omega)
    have g6 : ∀ K : Option (Int32 × AH), gx (nI (6 + i)) 35 K = K := fun K => gx_n K (by omega) (by omega)
    have n8 := (hM.1.2.2 i hi).2.2
    have y2 := hY (6 + i) (by omega)
    rw [if_pos hq, if_neg (by decide), if_pos hq]
    simp only [g, xi, e6, g6, x6, n8, y2]
    by_cases h0 : mNd M i = 0
    · rw [if_neg (fun q => q h0), if_pos h0]
    · rw [if_pos h0, gz_ok _ h0, if_neg h0]
  · rw [if_neg hq, if_pos rfl, if_neg hq]
