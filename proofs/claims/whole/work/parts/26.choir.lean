/-! ===== the class's market, its yards and the choir ===== -/
/-- the yard at t holds Y, as far as n dealers go -/
def YR (n : Nat) (h : AH) (t : Nat) (Y : YT) : Prop := (∀ i, i < n → hI h (t + 1) i = Y i ∧ hI h (t + 2) i = Y (6 + i) ∧ hI h (t + 3) i = Y (12 + i) ∧ hI h (t + 4) i = Y (18 + i) ∧ hI h (t + 5) i = Y (24 + i) ∧ hI h (t + 6) i = (if freeS Y i = true then 1 else 0)) ∧ hI h t 6 = Y 31 ∧ hI h t 7 = Y 32 ∧ hI h t 8 = Y 33 ∧ hI h t 9 = Y 34
theorem fr0 {b : Bool} {x : Int32} (e : x = if b = true then 1 else 0) : x = 0 ↔ ¬ b = true := by cases b <;> simp [e]
theorem YR.fr {S : List Nat} {P : List (Nat × Nat)} {h h1 : AH} {n t : Nat} {Y : YT} (m : YR n h t Y) (f : Fr S P h h1) (a : ∀ q ∈ S, q < t ∨ t + 6 < q) (b : ∀ q ∈ P, q.1 < t ∨ t + 6 < q.1) : YR n h1 t Y := by
  have g : ∀ j k, j < 7 → hI h1 (t + j) k = hI h (t + j) k := fun j k hj => f.i _ _ (fun q => by have := a _ q; omega) (fun q => by have := b _ q; simp only at this; omega)
  have g0 : ∀ k, hI h1 t k = hI h t k := fun k => g 0 k (by omega)
  refine ⟨fun i hi => ?_, by rw [g0]; exact m.2.1, by rw [g0]; exact m.2.2.1, by rw [g0]; exact m.2.2.2.1, by rw [g0]; exact m.2.2.2.2⟩
  rw [g 1 _ (by omega), g 2 _ (by omega), g 3 _ (by omega), g 4 _ (by omega), g 5 _ (by omega), g 6 _ (by omega)]
  exact m.1 i hi
/-- the market at t holds M -/
def MK (h : AH) (t : Nat) (M : MT) : Prop := (hI h t 11 = nI (mN M) ∧ mN M ≤ 6 ∧ ∀ i, i < mN M → hI h (t + 3) i = mKd M i ∧ hI h (t + 4) i = mSg M i ∧ hI h (t + 8) i = mNd M i) ∧ (FC h (t + 9) (mFc M) ∧ WFc (mFc M)) ∧ (FC h (t + 13) (mFh M) ∧ WFc (mFh M)) ∧ hI h t 12 = mCh M ∧ hI h t 13 = mSn M ∧ hI h t 14 = mCt M
theorem MK.fr {S : List Nat} {P : List (Nat × Nat)} {h h1 : AH} {t : Nat} {M : MT} (m : MK h t M) (f : Fr S P h h1) (a : ∀ q ∈ S, q = t + 12 ∨ q = t + 16 ∨ q < t ∨ t + 16 < q) (b : ∀ q ∈ P, q.1 < t ∨ t + 16 < q.1) : MK h1 t M := by
  have g : ∀ j k, j < 16 → ¬ j = 12 → hI h1 (t + j) k = hI h (t + j) k := fun j k hj h12 => f.i _ _ (fun q => by have := a _ q; omega) (fun q => by have := b _ q; simp only at this; omega)
  have g0 : ∀ k, hI h1 t k = hI h t k := fun k => g 0 k (by omega) (by omega)
  obtain ⟨⟨m1, m2, m3⟩, ⟨m4, m5⟩, ⟨m6, m7⟩, m8, m9, m10⟩ := m
  refine ⟨⟨by rw [g0]; exact m1, m2, fun i hi => ?_⟩, ⟨?_, m5⟩, ⟨?_, m7⟩, by rw [g0]; exact m8, by rw [g0]; exact m9, by rw [g0]; exact m10⟩
  · rw [g 3 _ (by omega) (by omega), g 4 _ (by omega) (by omega), g 8 _ (by omega) (by omega)]
    exact m3 i hi
  · exact m4.fr f (fun q hq => by have := a q hq; omega) (fun q hq => by have := b q hq; omega)
  · exact m6.fr f (fun q hq => by have := a q hq; omega) (fun q hq => by have := b q hq; omega)
theorem cl_mm (v m : Int32) (hm : 0 ≤ m) : mx 0 (mn m v) = cl v m := by
  unfold cl mx mn
  by_cases h1 : v < m
  · rw [if_pos h1]
    by_cases h0 : 0 < v
    · rw [if_pos h0, if_pos (Int32.le_of_lt h0), if_pos (Int32.le_of_lt h1)]
    · rw [if_neg h0]
      by_cases h2 : 0 ≤ v
      · rw [if_pos h2, if_pos (Int32.le_of_lt h1)]
        exact Int32.le_antisymm h2 (Int32.not_lt.mp h0)
      · rw [if_neg h2]
  · rw [if_neg h1]
    have hv : m ≤ v := Int32.not_lt.mp h1
    rw [if_pos (Int32.le_trans hm hv)]
    by_cases h0 : 0 < m
    · rw [if_pos h0]
      by_cases h2 : v ≤ m
      · rw [if_pos h2]
        exact Int32.le_antisymm hv h2
      · rw [if_neg h2]
    · rw [if_neg h0]
      have hz : 0 = m := Int32.le_antisymm hm (Int32.not_lt.mp h0)
      by_cases h2 : v ≤ m
      · rw [if_pos h2, hz]
        exact Int32.le_antisymm hv h2
      · rw [if_neg h2, hz]
theorem evC_0 {e : Nat → Int32} {c : CT} {o : Int32} (h : c.1 = 0) : evC e c o = o := by unfold evC; rw [if_pos h]
theorem K_warmth_ok {t : Nat} {M : MT} {Y : YT} {h : AH} (hM : MK h t M) : ∃ h1, f_Market_warmth t (Y 32) (Y 33) (Y 31) h = some (heatS M Y, h1) ∧ Fr [t + 16] [] h h1 := by
  obtain ⟨m6, m7⟩ := hM.2.2.1
  rw [f_Market_warmth, F_told_ok m7 m6, bI_s]
  by_cases h0 : (mFh M).1 = 0
  · refine ⟨h, ?_, Fr.rf _ _ _⟩
    rw [if_pos h0, if_pos rfl, f_Market_warmth_b28, f_Market_clampHeat, bI_s, cl_mm _ _ (by decide), heatS, evC_0 h0]
  · rw [if_neg h0, if_neg (by decide)]
    obtain ⟨h1, e1, f1⟩ := F_value_ok (a1 := 0) (a2 := 0) (a3 := 0) (a4 := 0) (a5 := Y 32) (a6 := Y 33) m7 (by omega) m6 20
    refine ⟨h1, ?_, f1⟩
    rw [e1, bI_s, f_Market_warmth_b28, f_Market_clampHeat, bI_s, cl_mm _ _ (by decide), heatS]
theorem K_sung_ok {t : Nat} {M : MT} {Y : YT} {h : AH} (hM : MK h t M) (a b c d : Int32) : ∃ h1, f_Market_sung t a b c d (Y 32) (Y 33) h = some (sungS M Y a b c d, h1) ∧ Fr [t + 12] [] h h1 := by
  obtain ⟨m6, m7⟩ := hM.2.1
  rw [f_Market_sung, F_told_ok m7 m6, bI_s]
  by_cases h0 : (mFc M).1 = 0
  · refine ⟨h, ?_, Fr.rf _ _ _⟩
    rw [if_pos h0, if_pos rfl, f_Market_sung_b32, cl_mm _ _ (by decide), sungS, evC_0 h0]
  · rw [if_neg h0, if_neg (by decide)]
    obtain ⟨h1, e1, f1⟩ := F_value_ok (a1 := a) (a2 := b) (a3 := c) (a4 := d) (a5 := Y 32) (a6 := Y 33) m7 (by omega) m6 (a + b)
    refine ⟨h1, ?_, f1⟩
    rw [e1, bI_s, f_Market_sung_b32, cl_mm _ _ (by decide), sungS]
theorem K_mates_l {t u : Nat} {M : MT} {Y : YT} {h : AH} (hM : MK h u M) (hY : YR (mN M) h t Y) {d : Nat} (hd : d < mN M) : ∀ (m k fu : Nat), m + k = mN M → m < fu → f_Yard_mates_l5 t u (nI d) fu (nI (cntS (mateS M Y d) k)) (nI k) h = some (matesS M Y d, h) := by
  have h6 := hM.1.2.1
  intro m
  induction m with
  | zero =>
    intro k fu hk hf
    obtain ⟨fu, rfl⟩ : ∃ q, fu = q + 1 := ⟨fu - 1, by omega⟩
    rw [f_Yard_mates_l5, hM.1.1, if_pos (nI_le (by omega) (by omega))]
    have : k = mN M := by omega
    subst this
    rfl
  | succ m ih =>
    intro k fu hk hf
    obtain ⟨fu, rfl⟩ : ∃ q, fu = q + 1 := ⟨fu - 1, by omega⟩
    rw [f_Yard_mates_l5, hM.1.1, if_neg (nI_ge (show k < mN M by omega) (by omega))]
    have hnx := ih (k + 1) fu (by omega) (by omega)
    have no : mateS M Y d k = false → f_Yard_mates_l5 t u (nI d) fu (nI (cntS (mateS M Y d) k)) (nI k + 1) h = some (matesS M Y d, h) := fun hq => by
      rw [nI_1]
      simp only [cntS, hq, Bool.false_eq_true, if_false, Nat.add_zero] at hnx
      exact hnx
    have gk6 : ∀ K : Option (Int32 × AH), gx (nI k) 6 K = K := fun K => gx_n K (by omega) (by omega)
    have gd6 : ∀ K : Option (Int32 × AH), gx (nI d) 6 K = K := fun K => gx_n K (by omega) (by omega)
    by_cases h1 : k = d
    · rw [if_pos (by rw [h1]), lt_e]
      exact no (by simp [mateS, h1])
    · rw [if_neg (fun q => h1 ((n_inj (by omega) (by omega)).mp q)), gk6, ix_n (show k < 2 ^ 31 by omega)]
      have hf := fr0 (hY.1 k (by omega)).2.2.2.2.2
      by_cases h3 : freeS Y k = true
      · rw [if_pos (fun q => hf.mp q h3), lt_e]
        exact no (by simp [mateS, h3])
      · rw [if_neg (fun q => q (hf.mpr h3)), gk6, gd6, ix_n (show d < 2 ^ 31 by omega), (hM.1.2.2 k (by omega)).1, (hM.1.2.2 d hd).1]
        by_cases h2 : mKd M k = mKd M d
        · have hq : mateS M Y d k = true := by simp [mateS, h1, h2, h3]
          rw [if_neg (by simp [h2]), lt_e, lt_e, nI_1, nI_1]
          simp only [cntS, hq, if_true] at hnx
          exact hnx
        · rw [if_pos h2, lt_e]
          exact no (by simp [mateS, h2])
theorem K_mates_ok {t u : Nat} {M : MT} {Y : YT} {h : AH} (hM : MK h u M) (hY : YR (mN M) h t Y) {d : Nat} (hd : d < mN M) : f_Yard_mates t u (nI d) h = some (matesS M Y d, h) := by
  have h6 := hM.1.2.1
  exact K_mates_l hM hY hd (mN M) 0 FU (by omega) (by show mN M < 1000000; omega)
theorem K_warm_ok {t u : Nat} {M : MT} {Y : YT} {h : AH} (hM : MK h u M) (hY : YR (mN M) h t Y) : ∃ h1, f_Yard_warmth t u h = some (heatS M Y, h1) ∧ Fr [u + 16] [] h h1 := by
  obtain ⟨h1, e1, f1⟩ := K_warmth_ok (Y := Y) hM
  refine ⟨h1, ?_, f1⟩
  rw [f_Yard_warmth, hY.2.2.1, hY.2.2.2.1, hY.2.1, e1, bI_s]
/-- the choir's cells, and the scratch of the market's two formulas -/
abbrev scU (u : Nat) : List Nat := [52, u + 12, u + 16]
theorem tune_l {t u : Nat} {M : MT} {Y : YT} {h : AH} (ht : t + 6 < 51 ∨ 53 ≤ t) (hu : u = 3 ∨ u = 20) (htu : t + 6 < u ∨ u + 16 < t) (hM : MK h u M) (hY : YR (mN M) h t Y) : ∀ (m k fu : Nat) (h1 : AH), m + k = mN M → m < fu → Fr (scU u) [(51, 1)] h h1 → hI h1 51 1 = nI (mN M) → (∀ j, j < k → hI h1 52 j = chirpS M Y j) → ∃ h2, f_Choir_tune_l17 u t fu (heatS M Y) (nI k) h1 = some h2 ∧ Fr (scU u) [(51, 1)] h h2 ∧ hI h2 51 1 = nI (mN M) ∧ ∀ j, j < mN M → hI h2 52 j = chirpS M Y j := by
  have h6 := hM.1.2.1
  intro m
  induction m with
  | zero =>
    intro k fu h1 hk hf f1 d1 a1
    obtain ⟨fu, rfl⟩ : ∃ q, fu = q + 1 := ⟨fu - 1, by omega⟩
    rw [f_Choir_tune_l17, d1, if_pos (nI_le (by omega) (by omega))]
    exact ⟨h1, rfl, f1, d1, fun j hj => a1 j (by omega)⟩
  | succ m ih =>
    intro k fu h1 hk hf f1 d1 a1
    obtain ⟨fu, rfl⟩ : ∃ q, fu = q + 1 := ⟨fu - 1, by omega⟩
    have gk6 : ∀ K : Option AH, gx (nI k) 6 K = K := fun K => gx_n K (by omega) (by omega)
    have xk : ix (nI k) = k := ix_n (by omega)
    have mS : ∀ q ∈ scU u, q = u + 12 ∨ q = u + 16 ∨ q < u ∨ u + 16 < q := fun q hq => by
      simp only [scU, List.mem_cons, List.not_mem_nil, or_false] at hq; omega
    have mP : ∀ q ∈ [((51 : Nat), (1 : Nat))], q.1 < u ∨ u + 16 < q.1 := fun q hq => by
      simp only [List.mem_cons, List.not_mem_nil, or_false] at hq; subst hq; simp only; omega
    have yS : ∀ q ∈ scU u, q < t ∨ t + 6 < q := fun q hq => by
      simp only [scU, List.mem_cons, List.not_mem_nil, or_false] at hq; omega
    have yP : ∀ q ∈ [((51 : Nat), (1 : Nat))], q.1 < t ∨ t + 6 < q.1 := fun q hq => by
      simp only [List.mem_cons, List.not_mem_nil, or_false] at hq; subst hq; simp only; omega
    have hM1 := hM.fr f1 mS mP
    have hY1 := hY.fr f1 yS yP
    have yk := hY1.1 k (by omega)
    have stepv : ∀ (h2 : AH) (v : Int32), v = chirpS M Y k → Fr [u + 12] [] h1 h2 → ∃ h3, f_Choir_tune_l17 u t fu (heatS M Y) (nI k + 1) (sI h2 52 k v) = some h3 ∧ Fr (scU u) [(51, 1)] h h3 ∧ hI h3 51 1 = nI (mN M) ∧ ∀ j, j < mN M → hI h3 52 j = chirpS M Y j := by
      intro h2 v hv f2
      rw [nI_1]
      have f3 : Fr (scU u) [(51, 1)] h h2 := f1.t (f2.mn (by simp) (by simp))
      refine ih (k + 1) fu _ (by omega) (by omega) (f3.s (by simp) _ _) ?_ (fun j hj => ?_)
      · rw [hI_sI_c _ _ _ _ _ (by decide), f2.i _ _ (by simp only [List.mem_cons, List.not_mem_nil, or_false]; omega) (by simp)]
        exact d1
      · rw [hI_sI_u]
        unfold upd
        split
        · rename_i e; rw [e]; exact hv
        · rw [f2.i _ _ (by simp only [List.mem_cons, List.not_mem_nil, or_false]; omega) (by simp)]
          exact a1 j (by omega)
    rw [f_Choir_tune_l17, d1, if_neg (nI_ge (show k < mN M by omega) (by omega)), gk6, xk]
    by_cases h3 : freeS Y k = true
    · rw [if_neg (fun q => (fr0 yk.2.2.2.2.2).mp q h3), gk6, lt_e, lt_e]
      exact stepv h1 0 (by unfold chirpS; rw [if_pos h3]) (Fr.rf _ _ _)
    · rw [if_pos ((fr0 yk.2.2.2.2.2).mpr h3), gk6, f_Market_clampHeat, bI_s, gk6, gk6, K_mates_ok hM1 hY1 (by omega), bI_s, (hM1.1.2.2 k (by omega)).2.1, yk.2.2.2.1, yk.2.2.2.2.1, hY1.2.2.1, hY1.2.2.2.1, cl_mm _ _ (by decide)]
      obtain ⟨h4, e4, f4⟩ := K_sung_ok (Y := Y) hM1 (cl (heatS M Y + Y (24 + k)) 40) (mSg M k) (Y (18 + k)) (matesS M Y k)
      rw [e4, bI_s, gk6, lt_e, lt_e]
      exact stepv h4 _ (by unfold chirpS; rw [if_neg h3]) f4
theorem tune_ok {t u : Nat} {M : MT} {Y : YT} {h : AH} (ht : t + 6 < 51 ∨ 53 ≤ t) (hu : u = 3 ∨ u = 20) (htu : t + 6 < u ∨ u + 16 < t) (hM : MK h u M) (hY : YR (mN M) h t Y) : ∃ h2, f_Choir_tune u t h = some h2 ∧ Fr (scU u) [(51, 1)] h h2 ∧ hI h2 51 1 = nI (mN M) ∧ ∀ j, j < mN M → hI h2 52 j = chirpS M Y j := by
  have h6 := hM.1.2.1
  have f1 : Fr [] [(51, 1)] h (sI h 51 1 (nI (mN M))) := (Fr.rf _ _ _).p (by simp) _
  have hM1 := hM.fr f1 (by simp) (fun q hq => by
      simp only [List.mem_cons, List.not_mem_nil, or_false] at hq; subst hq; simp only; omega)
  have hY1 := hY.fr f1 (by simp) (fun q hq => by
      simp only [List.mem_cons, List.not_mem_nil, or_false] at hq; subst hq; simp only; omega)
  have d1 : hI (sI h 51 1 (nI (mN M))) 51 1 = nI (mN M) := hI_sI_s _ _ _ _
  rw [f_Choir_tune, hM.1.1, lt_e]
  generalize sI h 51 1 (nI (mN M)) = h1 at f1 hM1 hY1 d1 ⊢
  obtain ⟨h2, e2, f2⟩ := K_warm_ok hM1 hY1
  rw [e2, bI_s]
  have f3 : Fr (scU u) [(51, 1)] h h2 := (f1.mn (by simp) (by simp)).t (f2.mn (by simp) (by simp))
  refine tune_l ht hu htu hM hY (mN M) 0 FU h2 (by omega) (by show mN M < 1000000; omega) f3 ?_ (fun j hj => by omega)
  rw [f2.i _ _ (by simp only [List.mem_cons, List.not_mem_nil, or_false]; omega) (by simp)]
  exact d1
