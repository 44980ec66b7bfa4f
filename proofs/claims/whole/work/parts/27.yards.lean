/-! ===== the class's yards: filling, copying, eating, passing ===== -/
theorem fill_l {c n : Nat} {h : AH} (hn : n < 100000) (hk : kdF c = .inl (0, n)) (v : Int32) : ∀ (m k fu : Nat) (h1 : AH), m + k = n → m < fu → Fr [c] [] h h1 → (∀ j, j < k → hI h1 c j = v) → ∃ h2, f_JArrays_fill_l5 c v fu (nI k) (nI n) h1 = some h2 ∧ Fr [c] [] h h2 ∧ ∀ j, j < n → hI h2 c j = v := by
  intro m
  induction m with
  | zero =>
    intro k fu h1 hkn hf f1 a1
    obtain ⟨fu, rfl⟩ : ∃ q, fu = q + 1 := ⟨fu - 1, by omega⟩
    rw [f_JArrays_fill_l5, if_pos (nI_le (by omega) (by omega))]
    exact ⟨h1, rfl, f1, fun j hj => a1 j (by omega)⟩
  | succ m ih =>
    intro k fu h1 hkn hf f1 a1
    obtain ⟨fu, rfl⟩ : ∃ q, fu = q + 1 := ⟨fu - 1, by omega⟩
    rw [f_JArrays_fill_l5, if_neg (nI_ge (show k < n by omega) (by omega)), gk_ok _ hk, gx_n _ (show k < n by omega) (by omega), lt_e, lt_e, nI_1, ix_n (show k < 2 ^ 31 by omega)]
    refine ih (k + 1) fu _ (by omega) (by omega) (f1.s (by simp) _ _) (fun j hj => ?_)
    rw [hI_sI_u]
    unfold upd
    split
    · rfl
    · exact a1 j (by omega)
theorem fill_ok {c n : Nat} {h : AH} (hn : n < 100000) (hk : kdF c = .inl (0, n)) (v : Int32) : ∃ h2, f_JArrays_fill c v h = some h2 ∧ Fr [c] [] h h2 ∧ ∀ j, j < n → hI h2 c j = v := by
  obtain ⟨h2, e2, r⟩ := fill_l (h := h) hn hk v n 0 FU h (by omega) (by show n < 1000000; omega) (Fr.rf _ _ _) (fun j hj => by omega)
  refine ⟨h2, ?_, r⟩
  rw [f_JArrays_fill, gk_ok _ hk, lt_e]
  exact e2
theorem eatS_o (M : MT) (Z : YT) (d k : Nat) (h1 : ¬ k = 6 + d) (h2 : ¬ k = 12 + d) (h3 : ¬ k = 18 + d) : eatS M d Z k = Z k := by
  rw [eatS_p, if_neg h3, if_neg h2, if_neg h1]
theorem mn_le {x y : Int32} (h : x ≤ y) : mn x y = x := by
  unfold mn
  rw [if_neg (Int32.not_lt.mpr h)]
theorem mn_ge {x y : Int32} (h : y ≤ x) : mn x y = y := by
  unfold mn
  by_cases h1 : y < x
  · rw [if_pos h1]
  · rw [if_neg h1]
    exact Int32.le_antisymm (Int32.not_lt.mp h1) h
theorem i_sf (x : Int32) : x - x = 0 := by rw [i_eq, i_sub (by have := i_lo x; have := i_hi x; omega) (by have := i_lo x; have := i_hi x; omega)]; simp
theorem lack_le {l d : Int32} (h1 : 0 ≤ d.toInt) (h2 : d.toInt ≤ 1000000) (h3 : 0 ≤ l.toInt) (h4 : l.toInt ≤ 1000000) : d - l ≤ 0 ↔ d ≤ l := by
  rw [i_le, i_le, i_sub (by omega) (by omega)]
  show d.toInt - l.toInt ≤ 0 ↔ _
  omega
/-- numbers that hunger works on stay small -/
def BN (M : MT) (Y : YT) : Prop := ∀ i, i < mN M → (0 ≤ (mNd M i).toInt ∧ (mNd M i).toInt ≤ 1000000) ∧ (0 ≤ (Y (6 + i)).toInt ∧ (Y (6 + i)).toInt ≤ 1000000) ∧ (Y (18 + i)).toInt ≤ 99
abbrev scY (t : Nat) : List Nat := [t + 2, t + 3, t + 4]
theorem eat_l {t u : Nat} {M : MT} {Y : YT} {h : AH} (htu : t + 6 < u ∨ u + 16 < t) (hM : MK h u M) (hb : BN M Y) : ∀ (m k fu : Nat) (h1 : AH), m + k = mN M → m < fu → Fr (scY t) [] h h1 → YR (mN M) h1 t (eatN M k Y) → ∃ h2, f_Yard_eat_l2 t u fu (nI k) h1 = some h2 ∧ Fr (scY t) [] h h2 ∧ YR (mN M) h2 t (eatN M (mN M) Y) := by
  have h6 := hM.1.2.1
  intro m
  induction m with
  | zero =>
    intro k fu h1 hk hf f1 y1
    obtain ⟨fu, rfl⟩ : ∃ q, fu = q + 1 := ⟨fu - 1, by omega⟩
    have hM1 := hM.fr f1 (fun q hq => by simp only [scY, List.mem_cons, List.not_mem_nil, or_false] at hq; omega) (by simp)
    rw [f_Yard_eat_l2, hM1.1.1, if_pos (nI_le (by omega) (by omega))]
    have : k = mN M := by omega
    subst this
    exact ⟨h1, rfl, f1, y1⟩
  | succ m ih =>
    intro k fu h1 hk hf f1 y1
    obtain ⟨fu, rfl⟩ : ∃ q, fu = q + 1 := ⟨fu - 1, by omega⟩
    have hM1 := hM.fr f1 (fun q hq => by simp only [scY, List.mem_cons, List.not_mem_nil, or_false] at hq; omega) (by simp)
    have gk6 : ∀ K : Option AH, gx (nI k) 6 K = K := fun K => gx_n K (by omega) (by omega)
    have xk : ix (nI k) = k := ix_n (by omega)
    have e1 : ∀ j, j = 6 + k ∨ j = 12 + k ∨ j = 18 + k → eatN M k Y j = Y j := fun j hj => by
      unfold eatN
      rw [if_neg (by omega), if_neg (by omega), if_neg (by omega)]
    obtain ⟨b1, b2, b3⟩ := hb k (by omega)
    have yk := y1.1 k (by omega)
    have n8 := (hM1.1.2.2 k (by omega)).2.2
    rw [f_Yard_eat_l2, hM1.1.1, if_neg (nI_ge (show k < mN M by omega) (by omega))]
    simp only [gk6, xk, lt_e, yk.2.1, n8]
    rw [nI_1]
    refine ih (k + 1) fu _ (by omega) (by omega) (((f1.s (by simp) _ _).s (by simp) _ _).s (by simp) _ _) ?_
    rw [← eatN_s M Y (show k < 6 by omega)]
    have c8 : ∀ v, hI (sI h1 (t + 2) k v) (u + 8) k = mNd M k := fun v => by rw [hI_sI, if_neg (by omega)]; exact n8
    have c3 : ∀ v, hI (sI h1 (t + 2) k v) (t + 3) k = Y (12 + k) := fun v => by rw [hI_sI, if_neg (by omega), yk.2.2.1]; exact e1 _ (by simp)
    have c4 : ∀ v w, hI (sI (sI h1 (t + 2) k v) (t + 3) k w) (t + 4) k = Y (18 + k) := fun v w => by rw [hI_sI, if_neg (by omega), hI_sI, if_neg (by omega), yk.2.2.2.1]; exact e1 _ (by simp)
    rw [c8, c3, c4]
    have lk : lackS M (eatN M k Y) k ≤ 0 ↔ mNd M k ≤ Y (6 + k) := by
      unfold lackS
      rw [e1 _ (by simp)]
      exact lack_le b1.1 b1.2 b2.1 b2.2
    have e6 := e1 (6 + k) (by simp)
    refine ⟨fun i hi => ?_, ?_⟩
    · have yi := y1.1 i hi
      refine ⟨?_, ?_, ?_, ?_, ?_, ?_⟩
      · rw [hI_sI, if_neg (by omega), hI_sI, if_neg (by omega), hI_sI, if_neg (by omega), eatS_o _ _ _ _ (by omega) (by omega) (by omega)]
        exact yi.1
      · rw [hI_sI, if_neg (by omega), hI_sI, if_neg (by omega), hI_sI]
        by_cases e : i = k
        · subst e
          rw [if_pos ⟨rfl, rfl⟩, eatS_p, if_neg (by omega), if_neg (by omega), if_pos rfl, e6]
          by_cases hq : mNd M i ≤ Y (6 + i)
          · rw [if_pos (lk.mpr hq), mn_ge hq]
          · rw [if_neg (fun q => hq (lk.mp q)), mn_le (Int32.le_of_lt (Int32.not_le.mp hq))]
        · rw [if_neg (by omega), eatS_o _ _ _ _ (by omega) (by omega) (by omega)]
          exact yi.2.1
      · rw [hI_sI, if_neg (by omega), hI_sI]
        by_cases e : i = k
        · subst e
          rw [if_pos ⟨rfl, rfl⟩, eatS_p, if_neg (by omega), if_pos rfl, e1 (12 + i) (by simp), e6]
          by_cases hq : mNd M i ≤ Y (6 + i)
          · rw [if_pos (lk.mpr hq), mn_ge hq, i_sf]
          · rw [if_neg (fun q => hq (lk.mp q)), mn_le (Int32.le_of_lt (Int32.not_le.mp hq))]
            unfold lackS
            rw [e6]
        · rw [if_neg (by omega), hI_sI, if_neg (by omega), eatS_o _ _ _ _ (by omega) (by omega) (by omega)]
          exact yi.2.2.1
      · rw [hI_sI]
        by_cases e : i = k
        · subst e
          rw [if_pos ⟨rfl, rfl⟩, eatS_p, if_pos rfl, e1 (18 + i) (by simp)]
          have lo := i_lo (Y (18 + i))
          have ha : (Y (18 + i) + 1).toInt = (Y (18 + i)).toInt + 1 := i_add (by show _ ≤ _ + 1; omega) (by show _ + 1 ≤ _; omega)
          by_cases hq : (99 : Int32) ≤ Y (18 + i)
          · have hq2 : (99 : Int) ≤ (Y (18 + i)).toInt := i_le.mp hq
            rw [if_pos hq, mn_le (i_le.mpr (by rw [ha]; show (99 : Int) ≤ _; omega))]
            exact i_eq.mpr (by show (99 : Int) = _; omega)
          · have hq2 : ¬ (99 : Int) ≤ (Y (18 + i)).toInt := fun q => hq (i_le.mpr q)
            rw [if_neg hq, mn_ge (i_le.mpr (by rw [ha]; show _ ≤ (99 : Int); omega))]
        · rw [if_neg (by omega), hI_sI, if_neg (by omega), hI_sI, if_neg (by omega), eatS_o _ _ _ _ (by omega) (by omega) (by omega)]
          exact yi.2.2.2.1
      · rw [hI_sI, if_neg (by omega), hI_sI, if_neg (by omega), hI_sI, if_neg (by omega), eatS_o _ _ _ _ (by omega) (by omega) (by omega)]
        exact yi.2.2.2.2.1
      · rw [hI_sI, if_neg (by omega), hI_sI, if_neg (by omega), hI_sI, if_neg (by omega)]
        unfold freeS
        rw [eatS_o _ _ _ _ (by omega) (by omega) (by omega)]
        exact yi.2.2.2.2.2
    · have g0 : ∀ k' a b c, hI (sI (sI (sI h1 (t + 2) k a) (t + 3) k b) (t + 4) k c) t k' = hI h1 t k' := fun k' a b c => by rw [hI_sI, if_neg (by omega), hI_sI, if_neg (by omega), hI_sI, if_neg (by omega)]
      rw [g0, g0, g0, g0, eatS_o _ _ _ _ (by omega) (by omega) (by omega), eatS_o _ _ _ _ (by omega) (by omega) (by omega), eatS_o _ _ _ _ (by omega) (by omega) (by omega), eatS_o _ _ _ _ (by omega) (by omega) (by omega)]
      exact y1.2
