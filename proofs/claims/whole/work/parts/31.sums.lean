/-! ===== the chorus; looking ahead ===== -/
def smS (f : Nat → Int32) : Nat → Int32
  | 0 => 0
  | k + 1 => smS f k + f k
theorem M_chorus_l {M : MT} {Y : YT} {h : AH} (hM : MM h M) (hY : AY h Y) : ∀ (m k fu : Nat) (h1 : AH), m + k = mN M → m < fu → Fr sc [] h h1 → ∃ h2, f_M_chorusHere_l4 fu (smS (chirpS M Y) k) (nI k) h1 = some (smS (chirpS M Y) (mN M), h2) ∧ Fr sc [] h h2 := by
  have h6 := hM.1.2.1
  intro m
  induction m with
  | zero =>
    intro k fu h1 hk hf f1
    obtain ⟨fu, rfl⟩ : ∃ q, fu = q + 1 := ⟨fu - 1, by omega⟩
    have hM1 := hM.fr f1 (by simp) (by simp)
    rw [f_M_chorusHere_l4, hM1.1.1, if_pos (nI_le (by omega) (by omega))]
    have : k = mN M := by omega
    subst this
    exact ⟨h1, rfl, f1⟩
  | succ m ih =>
    intro k fu h1 hk hf f1
    obtain ⟨fu, rfl⟩ : ∃ q, fu = q + 1 := ⟨fu - 1, by omega⟩
    have hM1 := hM.fr f1 (by simp) (by simp)
    obtain ⟨h2, e2, f2⟩ := M_chirpsOf_ok hM1 (hY.fr f1 (by simp) (by simp)) (show k < mN M by omega)
    rw [f_M_chorusHere_l4, hM1.1.1, if_neg (nI_ge (show k < mN M by omega) (by omega)), e2, bI_s, lt_e, lt_e, nI_1]
    exact ih (k + 1) fu h2 (by omega) (by omega) (f1.t f2)
theorem M_chorus_ok {M : MT} {Y : YT} {h : AH} (s : MS h M Y) : ∃ h1, f_M_chorus h = some (smS (chirpS M Y) (mN M), h1) ∧ Fr sca [] h h1 := by
  have h6 := s.1.1.2.1
  obtain ⟨h1, e1, f1, a1⟩ := M_load_ok s.2
  obtain ⟨h2, e2, f2⟩ := M_chorus_l (s.1.fr f1 (by simp) (by simp)) a1 (mN M) 0 FU h1 (by omega) (by show mN M < 1000000; omega) (Fr.rf _ _ _)
  refine ⟨h2, ?_, f1.t (f2.mn (by simp) (by simp))⟩
  rw [f_M_chorus, e1, bV_s, f_M_chorusHere]
  rw [show f_M_chorusHere_l4 FU 0 0 h1 = some (smS (chirpS M Y) (mN M), h2) from e2, bI_s]
theorem together_l {n : Nat} (hn : n ≤ 6) {f : Nat → Int32} {h : AH} (d1 : hI h 51 1 = nI n) (a1 : ∀ j, j < n → hI h 52 j = f j) : ∀ (m k fu : Nat), m + k = n → m < fu → f_Choir_together_l4 fu (smS f k) (nI k) h = some (smS f n, h) := by
  intro m
  induction m with
  | zero =>
    intro k fu hk hf
    obtain ⟨fu, rfl⟩ : ∃ q, fu = q + 1 := ⟨fu - 1, by omega⟩
    rw [f_Choir_together_l4, d1, if_pos (nI_le (by omega) (by omega)), show k = n by omega]
  | succ m ih =>
    intro k fu hk hf
    obtain ⟨fu, rfl⟩ : ∃ q, fu = q + 1 := ⟨fu - 1, by omega⟩
    rw [f_Choir_together_l4, d1, if_neg (nI_ge (show k < n by omega) (by omega)), gx_n _ (show k < 6 by omega) (by omega), lt_e, lt_e, nI_1, ix_n (show k < 2 ^ 31 by omega), a1 k (by omega)]
    exact ih (k + 1) fu (by omega) (by omega)
theorem H_chorus_ok {M : MT} {Y : YT} {u : Nat} {h : AH} (s : HS h M Y u) : ∃ h1, f_H_chorus h = some (smS (chirpS M Y) (mN M), h1) ∧ Fr (scU u) [(51, 1)] h h1 := by
  have h6 := s.2.2.1.1.2.1
  obtain ⟨hu, hr, hM, hY⟩ := s
  obtain ⟨h1, e1, f1, d1, a1⟩ := tune_ok (t := 37) (by omega) hu (by omega) hM hY
  refine ⟨h1, ?_, f1⟩
  rw [f_H_chorus, gd_ok _ hr (kd_u hu), e1, bV_s, f_Choir_together]
  rw [show f_Choir_together_l4 FU 0 0 h1 = some (smS (chirpS M Y) (mN M), h1) from together_l h6 d1 a1 (mN M) 0 FU (by omega) (by show mN M < 1000000; omega), bI_s]
theorem far_keep {M : MT} (hn : mN M ≤ 6) : ∀ (n : Nat) (Y : YT), BN M Y → BC M Y → BN M (farS M n Y) ∧ BC M (farS M n Y) := by
  intro n
  induction n with
  | zero => intro Y b c; exact ⟨b, c⟩
  | succ n ih => intro Y b c; exact ih _ (b.hour hn) (c.hour hn)
theorem look_l {M : MT} {Y : YT} {u n : Nat} {h : AH} (hn : n < 2 ^ 31) (hu : u = 3 ∨ u = 20) (hr : hR h 0 1 = some u) (hM : MK h u M) (hb : BN M Y) (hc : BC M Y) : ∀ (m k fu : Nat) (h1 : AH), m + k = n → m < fu → Fr (scK 44) (plP 44) h h1 → YR (mN M) h1 44 (farS M k Y) → ∃ h2, f_H_lookAhead_l13 (nI n) fu (nI k) h1 = some h2 ∧ Fr (scK 44) (plP 44) h h2 ∧ YR (mN M) h2 44 (farS M n Y) := by
  have h6 := hM.1.2.1
  intro m
  induction m with
  | zero =>
    intro k fu h1 hk hf f1 y1
    obtain ⟨fu, rfl⟩ : ∃ q, fu = q + 1 := ⟨fu - 1, by omega⟩
    rw [f_H_lookAhead_l13, if_pos (nI_le (by omega) (by omega))]
    have : k = n := by omega
    subst this
    exact ⟨h1, rfl, f1, y1⟩
  | succ m ih =>
    intro k fu h1 hk hf f1 y1
    obtain ⟨fu, rfl⟩ : ∃ q, fu = q + 1 := ⟨fu - 1, by omega⟩
    have hM1 := hM.fr f1 (fun q hq => by simp only [scK, List.mem_cons, List.not_mem_nil, or_false] at hq; omega) (fun q hq => by
      simp only [plP, List.mem_cons, List.not_mem_nil, or_false] at hq
      rcases hq with rfl | rfl | rfl | rfl <;> simp only <;> omega)
    have hr1 : hR h1 0 1 = some u := by rw [f1.2.2.2]; exact hr
    obtain ⟨b1, c1⟩ := far_keep h6 k Y hb hc
    obtain ⟨h2, e2, f2, y2⟩ := K_hour_ok (t := 44) rfl (by omega) hM1 b1 c1 y1
    rw [f_H_lookAhead_l13, if_neg (nI_ge (show k < n by omega) (by omega)), gd_ok _ hr1 (kd_u hu), e2, bV_s, lt_e, nI_1]
    rw [← farS_s] at y2
    exact ih (k + 1) fu h2 (by omega) (by omega) (f1.t (f2.mn (by simp) (by simp))) y2
theorem look_ok {M : MT} {Y : YT} {u n : Nat} {h : AH} (hn : n < 999999) (s : HS h M Y u) (hb : BN M Y) (hc : BC M Y) : ∃ h2, f_H_lookAhead (nI n) h = some h2 ∧ Fr (scK 44) (plP 44) h h2 ∧ YR (mN M) h2 44 (farS M n Y) := by
  have h6 := s.2.2.1.1.2.1
  obtain ⟨hu, hr, hM, hY⟩ := s
  obtain ⟨h1, e1, f1, y1⟩ := copy_ok (t := 44) (s := 37) h6 (by omega) hY
  obtain ⟨h2, e2, f2, y2⟩ := look_l (n := n) (by omega) hu hr hM hb hc n 0 FU h1 (by omega) (by show n < 1000000; omega) f1 y1
  exact ⟨h2, by rw [f_H_lookAhead, e1, bV_s]; exact e2, f2, y2⟩
