/-! ===== the reference's law ===== -/
theorem M_all_in {M : MT} {Y : YT} {h : AH} (hM : MM h M) (hY : AY h Y) (K : Int32 → Int32 → AH → Option (Int32 × AH)) {i : Nat} (hi : i < mN M) (acc : Int32) : ∀ (m k fu : Nat) (h1 : AH), m + k = i → m < fu → Fr sc [] h h1 → ∃ h2, f_M_allPrices_l14 K fu (rowS (priceS M Y) i k acc) (nI i) (nI k) h1 = K (rowS (priceS M Y) i i acc) (nI (i + 1)) h2 ∧ Fr sc [] h h2 := by
  have h6 := hM.1.2.1
  intro m
  induction m with
  | zero =>
    intro k fu h1 hk hf f1
    obtain ⟨fu, rfl⟩ : ∃ q, fu = q + 1 := ⟨fu - 1, by omega⟩
    refine ⟨h1, ?_, f1⟩
    rw [f_M_allPrices_l14, if_pos (nI_le (by omega) (by omega)), lt_e, nI_1, show k = i by omega]
  | succ m ih =>
    intro k fu h1 hk hf f1
    obtain ⟨fu, rfl⟩ : ∃ q, fu = q + 1 := ⟨fu - 1, by omega⟩
    obtain ⟨h2, e2, f2⟩ := M_priceOf_ok (hM.fr f1 (by simp) (by simp)) (hY.fr f1 (by simp) (by simp)) hi (show k < mN M by omega)
    rw [f_M_allPrices_l14, if_neg (nI_ge (show k < i by omega) (by omega)), e2, bI_s, lt_e, lt_e, nI_1]
    exact ih (k + 1) fu h2 (by omega) (by omega) (f1.t f2)
theorem M_all_out {M : MT} {Y : YT} {h : AH} (hM : MM h M) (hY : AY h Y) (acc : Int32) : ∀ (m k fu : Nat) (h1 : AH), m + k = mN M → m < fu → Fr sc [] h h1 → ∃ h2, f_M_allPrices_l4 fu (triL (priceS M Y) k acc) (nI k) h1 = some (triL (priceS M Y) (mN M) acc, h2) ∧ Fr sc [] h h2 := by
  have h6 := hM.1.2.1
  intro m
  induction m with
  | zero =>
    intro k fu h1 hk hf f1
    obtain ⟨fu, rfl⟩ : ∃ q, fu = q + 1 := ⟨fu - 1, by omega⟩
    have hM1 := hM.fr f1 (by simp) (by simp)
    refine ⟨h1, ?_, f1⟩
    rw [f_M_allPrices_l4, hM1.1.1, if_pos (nI_le (by omega) (by omega)), show k = mN M by omega]
  | succ m ih =>
    intro k fu h1 hk hf f1
    obtain ⟨fu, rfl⟩ : ∃ q, fu = q + 1 := ⟨fu - 1, by omega⟩
    have hM1 := hM.fr f1 (by simp) (by simp)
    obtain ⟨h2, e2, f2⟩ := M_all_in hM1 (hY.fr f1 (by simp) (by simp)) (f_M_allPrices_l4 fu) (show k < mN M by omega) (triL (priceS M Y) k acc) k 0 FU h1 (by omega) (by show k < 1000000; omega) (Fr.rf _ _ _)
    rw [f_M_allPrices_l4, hM1.1.1, if_neg (nI_ge (show k < mN M by omega) (by omega))]
    obtain ⟨h3, e3, f3⟩ := ih (k + 1) fu h2 (by omega) (by omega) (f1.t f2)
    exact ⟨h3, e2.trans e3, f3⟩
theorem M_law_in {M : MT} {Y : YT} {h : AH} {a : Int32} (ha : a = 1 ∨ a = 2 ∨ a = 3) (hM : MM h M) (hY : AY h Y) (K : Int32 → Int32 → AH → Option (Int32 × AH)) {i : Nat} (hi : i < mN M) (acc : Int32) : ∀ (m k fu : Nat) (h1 : AH), m + k = i → m < fu → Fr sc [] h h1 → ∃ h2, f_M_law_l36 a K fu (rowS (pF M Y a) i k acc) (nI i) (nI k) h1 = K (rowS (pF M Y a) i i acc) (nI (i + 1)) h2 ∧ Fr sc [] h h2 := by
  have h6 := hM.1.2.1
  intro m
  induction m with
  | zero =>
    intro k fu h1 hk hf f1
    obtain ⟨fu, rfl⟩ : ∃ q, fu = q + 1 := ⟨fu - 1, by omega⟩
    refine ⟨h1, ?_, f1⟩
    rw [f_M_law_l36, if_pos (nI_le (by omega) (by omega)), lt_e, nI_1, show k = i by omega]
  | succ m ih =>
    intro k fu h1 hk hf f1
    obtain ⟨fu, rfl⟩ : ∃ q, fu = q + 1 := ⟨fu - 1, by omega⟩
    obtain ⟨h2, e2, f2⟩ := M_priceBy_ok (hM.fr f1 (by simp) (by simp)) (hY.fr f1 (by simp) (by simp)) ha hi (show k < mN M by omega)
    rw [f_M_law_l36, if_neg (nI_ge (show k < i by omega) (by omega)), e2, bI_s, lt_e, lt_e, nI_1]
    exact ih (k + 1) fu h2 (by omega) (by omega) (f1.t f2)
theorem M_law_out {M : MT} {Y : YT} {h : AH} {a : Int32} (ha : a = 1 ∨ a = 2 ∨ a = 3) (hM : MM h M) (hY : AY h Y) (acc : Int32) : ∀ (m k fu : Nat) (h1 : AH), m + k = mN M → m < fu → Fr sc [] h h1 → ∃ h2, f_M_law_l25 a fu (triL (pF M Y a) k acc) (nI k) h1 = some (triL (pF M Y a) (mN M) acc, h2) ∧ Fr sc [] h h2 := by
  have h6 := hM.1.2.1
  intro m
  induction m with
  | zero =>
    intro k fu h1 hk hf f1
    obtain ⟨fu, rfl⟩ : ∃ q, fu = q + 1 := ⟨fu - 1, by omega⟩
    have hM1 := hM.fr f1 (by simp) (by simp)
    refine ⟨h1, ?_, f1⟩
    rw [f_M_law_l25, hM1.1.1, if_pos (nI_le (by omega) (by omega)), show k = mN M by omega]
  | succ m ih =>
    intro k fu h1 hk hf f1
    obtain ⟨fu, rfl⟩ : ∃ q, fu = q + 1 := ⟨fu - 1, by omega⟩
    have hM1 := hM.fr f1 (by simp) (by simp)
    obtain ⟨h2, e2, f2⟩ := M_law_in ha hM1 (hY.fr f1 (by simp) (by simp)) (f_M_law_l25 a fu) (show k < mN M by omega) (triL (pF M Y a) k acc) k 0 FU h1 (by omega) (by show k < 1000000; omega) (Fr.rf _ _ _)
    rw [f_M_law_l25, hM1.1.1, if_neg (nI_ge (show k < mN M by omega) (by omega))]
    obtain ⟨h3, e3, f3⟩ := ih (k + 1) fu h2 (by omega) (by omega) (f1.t f2)
    exact ⟨h3, e2.trans e3, f3⟩
theorem rowS_a (f : Nat → Nat → Int32) (i : Nat) (acc : Int32) : ∀ k, rowS f i k acc = acc + rowS f i k 0 := by
  intro k
  induction k with
  | zero => simp [rowS]
  | succ k ih => rw [rowS, ih, rowS, Int32.add_assoc]
theorem triL_a (f : Nat → Nat → Int32) (acc : Int32) : ∀ k, triL f k acc = acc + triL f k 0 := by
  intro k
  induction k with
  | zero => simp [triL]
  | succ k ih => rw [triL, rowS_a, ih, triL, rowS_a f k (triL f k 0), Int32.add_assoc]
theorem pF_0 (M : MT) (Y : YT) : pF M Y 0 = priceS M Y := rfl
theorem law_rng (a : Int32) : (1 ≤ a ∧ a ≤ 3) ↔ (a = 1 ∨ a = 2 ∨ a = 3) := by
  constructor
  · intro ⟨h1, h2⟩
    have q1 : (1 : Int) ≤ a.toInt := i_le.mp h1
    have q2 : a.toInt ≤ (3 : Int) := i_le.mp h2
    rcases (show a.toInt = 1 ∨ a.toInt = 2 ∨ a.toInt = 3 by omega) with q | q | q
    · exact Or.inl (i_eq.mpr q)
    · exact Or.inr (Or.inl (i_eq.mpr q))
    · exact Or.inr (Or.inr (i_eq.mpr q))
  · intro h
    rcases h with rfl | rfl | rfl <;> decide
theorem isIn_e (a lo hi : Int32) (h : AH) : f_M_isIn a lo hi h = some (if lo ≤ a ∧ a ≤ hi then 1 else 0, h) := by
  unfold f_M_isIn
  by_cases h1 : a < lo
  · rw [if_pos h1, if_neg (fun q => Int32.not_le.mpr h1 q.1)]
  · rw [if_neg h1]
    by_cases h2 : hi < a
    · rw [if_pos h2, if_neg (fun q => Int32.not_le.mpr h2 q.2)]
    · rw [if_neg h2, if_pos ⟨Int32.not_lt.mp h1, Int32.not_lt.mp h2⟩]
theorem M_law_ok {M : MT} {Y : YT} {h : AH} (s : MS h M Y) (a : Int32) : ∃ h1, f_M_law a h = some (lawS M Y a, h1) ∧ Fr sca [] h h1 := by
  have h6 := s.1.1.2.1
  rw [f_M_law, isIn_e, bI_s]
  unfold lawS
  by_cases hq : 1 ≤ a ∧ a ≤ 3
  · rw [if_pos hq, if_pos (by decide), if_pos hq]
    obtain ⟨h1, e1, f1, a1⟩ := M_load_ok s.2
    have hM1 := s.1.fr f1 (by simp) (by simp)
    obtain ⟨h2, e2, f2⟩ := M_all_out hM1 a1 0 (mN M) 0 FU h1 (by omega) (by show mN M < 1000000; omega) (Fr.rf _ _ _)
    obtain ⟨h3, e3, f3⟩ := M_law_out ((law_rng a).mp hq) (hM1.fr f2 (by simp) (by simp)) (a1.fr f2 (by simp) (by simp)) (-triL (priceS M Y) (mN M) 0) (mN M) 0 FU h2 (by omega) (by show mN M < 1000000; omega) (Fr.rf _ _ _)
    refine ⟨h3, ?_, f1.t ((f2.t f3).mn (by simp) (by simp))⟩
    rw [e1, bV_s, f_M_allPrices, show f_M_allPrices_l4 FU 0 0 h1 = some (triL (priceS M Y) (mN M) 0, h2) from e2, bI_s, lt_e]
    rw [show f_M_law_l25 a FU (-triL (priceS M Y) (mN M) 0) 0 h2 = some (triL (pF M Y a) (mN M) (-triL (priceS M Y) (mN M) 0), h3) from e3, triL_a, pF_0, Int32.sub_eq_add_neg, Int32.add_comm]
  · rw [if_neg hq, if_neg (by decide), if_neg hq]
    exact ⟨h, rfl, Fr.rf _ _ _⟩
