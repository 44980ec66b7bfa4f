/-! ===== an hour of the class's yard ===== -/
theorem K_eat_ok {t u : Nat} {M : MT} {Y : YT} {h : AH} (htu : t + 6 < u ∨ u + 16 < t) (hM : MK h u M) (hb : BN M Y) (y : YR (mN M) h t Y) : ∃ h2, f_Yard_eat t u h = some h2 ∧ Fr (scY t) [] h h2 ∧ YR (mN M) h2 t (eatN M (mN M) Y) := by
  have h6 := hM.1.2.1
  have e5 : eatN M 0 Y = Y := by
    funext j
    unfold eatN
    rw [if_neg (by omega), if_neg (by omega), if_neg (by omega)]
  exact eat_l htu hM hb (mN M) 0 FU h (by omega) (by show mN M < 1000000; omega) (Fr.rf _ _ _) (by rw [e5]; exact y)
theorem YR.w {n : Nat} {h : AH} {t : Nat} {Y : YT} (m : YR n h t Y) (hn : n ≤ 6) (q : Nat) (hq : q < 4) (v : Int32) : YR n (sI h t (6 + q) v) t (upd Y (31 + q) v) := by
  have g : ∀ j k, 0 < j → hI (sI h t (6 + q) v) (t + j) k = hI h (t + j) k := fun j k hj => by rw [hI_sI, if_neg (by omega)]
  have y : ∀ k, k < 31 → upd Y (31 + q) v k = Y k := fun k hk => by rw [upd_a, if_neg (by omega)]
  have s : ∀ j, j < 4 → hI (sI h t (6 + q) v) t (6 + j) = (if j = q then v else hI h t (6 + j)) := fun j hj => by
    rw [hI_sI]
    by_cases e : j = q
    · rw [if_pos ⟨rfl, by omega⟩, if_pos e]
    · rw [if_neg (by omega), if_neg e]
  have z : ∀ j, j < 4 → upd Y (31 + q) v (31 + j) = (if j = q then v else Y (31 + j)) := fun j hj => by
    rw [upd_a]
    by_cases e : j = q
    · rw [if_pos (by omega), if_pos e]
    · rw [if_neg (by omega), if_neg e]
  have f : ∀ i, freeS (upd Y (31 + q) v) i = freeS Y i := fun i => by unfold freeS; rw [y 30 (by omega)]
  refine ⟨fun i hi => ?_, ?_, ?_, ?_, ?_⟩
  · rw [g 1 _ (by omega), g 2 _ (by omega), g 3 _ (by omega), g 4 _ (by omega), g 5 _ (by omega), g 6 _ (by omega), y _ (by omega), y _ (by omega), y _ (by omega), y _ (by omega), y _ (by omega), f]
    exact m.1 i hi
  · rw [s 0 (by omega), z 0 (by omega)]; split
    · rfl
    · exact m.2.1
  · rw [s 1 (by omega), z 1 (by omega)]; split
    · rfl
    · exact m.2.2.1
  · rw [s 2 (by omega), z 2 (by omega)]; split
    · rfl
    · exact m.2.2.2.1
  · rw [s 3 (by omega), z 3 (by omega)]; split
    · rfl
    · exact m.2.2.2.2
theorem YR.br {n : Nat} {h h1 : AH} {t : Nat} {Y : YT} (m : YR n h t Y) (hn : n ≤ 6) (f : Fr [t + 5] [] h h1) (a : ∀ j, j < 6 → hI h1 (t + 5) j = 0) : YR n h1 t (brN n Y) := by
  have g : ∀ j k, ¬ j = 5 → hI h1 (t + j) k = hI h (t + j) k := fun j k hj => f.i _ _ (by simp only [List.mem_cons, List.not_mem_nil, or_false]; omega) (by simp)
  have g0 : ∀ k, hI h1 t k = hI h t k := fun k => g 0 k (by omega)
  have y : ∀ k, k < 24 ∨ 30 ≤ k → brN n Y k = Y k := fun k hk => by unfold brN; rw [if_neg (by omega)]
  refine ⟨fun i hi => ?_, by rw [g0, y _ (by omega)]; exact m.2.1, by rw [g0, y _ (by omega)]; exact m.2.2.1, by rw [g0, y _ (by omega)]; exact m.2.2.2.1, by rw [g0, y _ (by omega)]; exact m.2.2.2.2⟩
  obtain ⟨m1, m2, m3, m4, m5, m6⟩ := m.1 i hi
  refine ⟨by rw [g 1 _ (by omega), y _ (by omega)]; exact m1, by rw [g 2 _ (by omega), y _ (by omega)]; exact m2, by rw [g 3 _ (by omega), y _ (by omega)]; exact m3, by rw [g 4 _ (by omega), y _ (by omega)]; exact m4, ?_, ?_⟩
  · rw [a i (by omega)]
    unfold brN
    rw [if_pos (by omega)]
  · rw [g 6 _ (by omega)]
    unfold freeS
    rw [y 30 (by omega)]
    exact m6
theorem BN.o {M : MT} {Y Z : YT} (b : BN M Y) (hn : mN M ≤ 6) (e : ∀ k, k < 24 → Z k = Y k) : BN M Z := fun i hi => by
  rw [e (6 + i) (by omega), e (18 + i) (by omega)]
  exact b i hi
/-- what the cold keeps -/
def BC (M : MT) (Y : YT) : Prop := (0 ≤ (Y 31).toInt ∧ (Y 31).toInt ≤ 40) ∧ 0 ≤ (mSn M).toInt ∧ (mSn M).toInt ≤ 1000
abbrev scP (t : Nat) : List Nat := [t + 2, t + 3, t + 4, t + 5]
abbrev plP (t : Nat) : List (Nat × Nat) := [(t, 6), (t, 7), (t, 8), (t, 9)]
theorem cold_a {c : Int32} (h0 : 0 ≤ c.toInt) (h1 : c.toInt ≤ 40) : mx 0 (c - 1) = (if c ≤ 0 then c else c - 1) := by
  have e : (c - 1).toInt = c.toInt - 1 := i_sub (by show _ ≤ _ - (1 : Int); omega) (by show _ - (1 : Int) ≤ _; omega)
  unfold mx
  by_cases hq : c ≤ 0
  · have hq2 : c.toInt ≤ 0 := i_le.mp hq
    rw [if_pos hq, if_neg (fun q => by have : (0 : Int) < (c - 1).toInt := i_lt.mp q; omega)]
    exact i_eq.mpr (by show (0 : Int) = _; omega)
  · have hq2 : ¬ c.toInt ≤ 0 := fun q => hq (i_le.mpr q)
    rw [if_neg hq]
    by_cases h2 : 0 < c - 1
    · rw [if_pos h2]
    · rw [if_neg h2]
      have h3 : ¬ (0 : Int) < (c - 1).toInt := fun q => h2 (i_lt.mpr q)
      exact i_eq.mpr (by show (0 : Int) = _; omega)
theorem cold_b {c s : Int32} (h0 : 0 ≤ c.toInt) (h1 : c.toInt ≤ 40) (h2 : 0 ≤ s.toInt) (h3 : s.toInt ≤ 1000) : mn 40 (c + s) = cl (c + s) 40 := by
  have e : (c + s).toInt = c.toInt + s.toInt := i_add (by omega) (by omega)
  unfold cl
  rw [if_pos (i_le.mpr (by rw [e]; show (0 : Int) ≤ _; omega))]
  by_cases hq : c + s ≤ 40
  · rw [if_pos hq, mn_ge hq]
  · rw [if_neg hq, mn_le (Int32.le_of_lt (Int32.not_le.mp hq))]
theorem K_pass_b {t u : Nat} {M : MT} {Y : YT} {h : AH} {az : Int32} (hk : kdF (t + 5) = .inl (0, 6)) (htu : t + 6 < u ∨ u + 16 < t) (hM : MK h u M) (hb : BN M Y) (y : YR (mN M) h t Y) : ∃ h2, f_Yard_pass2_b36 t u az h = some h2 ∧ Fr (scP t) (plP t) h h2 ∧ YR (mN M) h2 t (hrS M (brN (mN M) Y)) := by
  have h6 := hM.1.2.1
  have mP : ∀ q ∈ plP t, q.1 < u ∨ u + 16 < q.1 := fun q hq => by
    simp only [plP, List.mem_cons, List.not_mem_nil, or_false] at hq
    rcases hq with rfl | rfl | rfl | rfl <;> simp only <;> omega
  have mS : ∀ q ∈ scP t, q = u + 12 ∨ q = u + 16 ∨ q < u ∨ u + 16 < q := fun q hq => by
    simp only [scP, List.mem_cons, List.not_mem_nil, or_false] at hq; omega
  obtain ⟨h1, e1, f1, a1⟩ := fill_ok (h := h) (by omega) hk 0
  have y1 := y.br h6 f1 a1
  have F1 : Fr (scP t) (plP t) h h1 := f1.mn (by simp) (by simp)
  have b1 : BN M (brN (mN M) Y) := hb.o h6 (fun k hk => by unfold brN; rw [if_neg (by omega)])
  generalize brN (mN M) Y = Z at y1 b1 ⊢
  rw [f_Yard_pass2_b36, e1, bV_s, lt_e, y1.2.2.1, hI_sI_s]
  have y2 := y1.w h6 1 (by omega) (Z 32 + 1)
  have F2 : Fr (scP t) (plP t) h (sI h1 t 7 (Z 32 + 1)) := F1.p (by simp) _
  have y2' : YR (mN M) (sI h1 t 7 (Z 32 + 1)) t (upd Z 32 (Z 32 + 1)) := y2
  generalize sI h1 t 7 (Z 32 + 1) = h2 at y2' F2 ⊢
  unfold hrS
  by_cases hq : Z 32 + 1 ≤ 23
  · have hn : ¬ (24 : Int32) ≤ Z 32 + 1 := fun q => by
      have q1 := i_le.mp q
      have q2 := i_le.mp hq
      have q3 : (24 : Int) ≤ (Z 32 + 1).toInt := q1
      have q4 : (Z 32 + 1).toInt ≤ (23 : Int) := q2
      omega
    rw [if_pos hq, if_neg hn]
    exact ⟨h2, rfl, F2, y2'⟩
  · have hn : (24 : Int32) ≤ Z 32 + 1 := i_le.mpr (by
      have q4 : ¬ (Z 32 + 1).toInt ≤ (23 : Int) := fun q => hq (i_le.mpr q)
      show (24 : Int) ≤ _
      omega)
    rw [if_neg hq, if_pos hn, lt_e, lt_e]
    have y3 := y2'.w h6 1 (by omega) 0
    have y3' : YR (mN M) (sI h2 t 7 0) t (upd (upd Z 32 (Z 32 + 1)) 32 0) := y3
    have F3 : Fr (scP t) (plP t) h (sI h2 t 7 0) := F2.p (by simp) _
    generalize sI h2 t 7 0 = h3 at y3' F3 ⊢
    rw [y3'.2.2.2.1]
    have y4 := y3'.w h6 2 (by omega) (upd (upd Z 32 (Z 32 + 1)) 32 0 33 + 1)
    have e4 : upd (upd (upd Z 32 (Z 32 + 1)) 32 0) 33 (upd (upd Z 32 (Z 32 + 1)) 32 0 33 + 1) = upd (upd Z 32 0) 33 (Z 33 + 1) := by
      funext j
      by_cases h33 : j = 33
      · simp [upd, h33]
      · by_cases h32 : j = 32
        · simp [upd, h32]
        · simp [upd, h33, h32]
    have y4' : YR (mN M) (sI h3 t 8 (upd (upd Z 32 (Z 32 + 1)) 32 0 33 + 1)) t (upd (upd Z 32 0) 33 (Z 33 + 1)) := by rw [← e4]; exact y4
    have F4 : Fr (scP t) (plP t) h (sI h3 t 8 (upd (upd Z 32 (Z 32 + 1)) 32 0 33 + 1)) := F3.p (by simp) _
    generalize sI h3 t 8 (upd (upd Z 32 (Z 32 + 1)) 32 0 33 + 1) = h4 at y4' F4 ⊢
    have b4 : BN M (upd (upd Z 32 0) 33 (Z 33 + 1)) := b1.o h6 (fun k hk => by rw [upd_a, if_neg (by omega), upd_a, if_neg (by omega)])
    obtain ⟨h5, e5, f5, y5⟩ := K_eat_ok htu (hM.fr F4 mS mP) b4 y4'
    rw [e5, bV_s]
    exact ⟨h5, rfl, F4.t (f5.mn (by simp) (by simp)), y5⟩
theorem K_pass_ok {t u : Nat} {M : MT} {Y : YT} {h : AH} (hk : kdF (t + 5) = .inl (0, 6)) (htu : t + 6 < u ∨ u + 16 < t) (hM : MK h u M) (hb : BN M Y) (hc : BC M Y) (y : YR (mN M) h t Y) (sn : Bool) : ∃ h2, f_Yard_pass2 t u (if sn = true then 1 else 0) h = some h2 ∧ Fr (scP t) (plP t) h h2 ∧ YR (mN M) h2 t (passS M sn Y) := by
  have h6 := hM.1.2.1
  have mP : ∀ q ∈ plP t, q.1 < u ∨ u + 16 < q.1 := fun q hq => by
    simp only [plP, List.mem_cons, List.not_mem_nil, or_false] at hq
    rcases hq with rfl | rfl | rfl | rfl <;> simp only <;> omega
  have mS : ∀ q ∈ scP t, q = u + 12 ∨ q = u + 16 ∨ q < u ∨ u + 16 < q := fun q hq => by
    simp only [scP, List.mem_cons, List.not_mem_nil, or_false] at hq; omega
  obtain ⟨⟨c1, c2⟩, c3, c4⟩ := hc
  rw [f_Yard_pass2, lt_e, y.2.1, cold_a c1 c2]
  have hd0 : 0 ≤ (if Y 31 ≤ 0 then Y 31 else Y 31 - 1).toInt ∧ (if Y 31 ≤ 0 then Y 31 else Y 31 - 1).toInt ≤ 40 := by
    have e : (Y 31 - 1).toInt = (Y 31).toInt - 1 := i_sub (by show _ ≤ _ - (1 : Int); omega) (by show _ - (1 : Int) ≤ _; omega)
    split
    · exact ⟨c1, c2⟩
    · rename_i q
      have : ¬ (Y 31).toInt ≤ 0 := fun w => q (i_le.mpr w)
      omega
  have y1 : YR (mN M) (sI h t 6 (if Y 31 ≤ 0 then Y 31 else Y 31 - 1)) t (upd Y 31 (if Y 31 ≤ 0 then Y 31 else Y 31 - 1)) := y.w h6 0 (by omega) _
  have F1 : Fr (scP t) (plP t) h (sI h t 6 (if Y 31 ≤ 0 then Y 31 else Y 31 - 1)) := (Fr.rf _ _ _).p (by simp) _
  unfold passS coldS
  generalize hc0 : (if Y 31 ≤ 0 then Y 31 else Y 31 - 1) = c0 at *
  generalize sI h t 6 c0 = h1 at y1 F1 ⊢
  have hM1 := hM.fr F1 mS mP
  cases sn with
  | false =>
    rw [show (if false = true then (1 : Int32) else 0) = 0 from rfl, if_pos rfl, show (if false = true then cl (c0 + mSn M) 40 else c0) = c0 from rfl]
    obtain ⟨h2, e2, f2, y2⟩ := K_pass_b (az := 0) hk htu hM1 (hb.o h6 (fun k hk => by rw [upd_a, if_neg (by omega)]) : BN M (upd Y 31 c0)) y1
    exact ⟨h2, e2, F1.t f2, y2⟩
  | true =>
    rw [show (if true = true then (1 : Int32) else 0) = 1 from rfl, if_neg (by decide), show (if true = true then cl (c0 + mSn M) 40 else c0) = cl (c0 + mSn M) 40 from rfl, lt_e, y1.2.1, hM1.2.2.2.2.1]
    have e31 : upd Y 31 c0 31 = c0 := by rw [upd_a, if_pos rfl]
    rw [e31, cold_b hd0.1 hd0.2 c3 c4]
    have y2 := y1.w h6 0 (by omega) (cl (c0 + mSn M) 40)
    have e6 : upd (upd Y 31 c0) 31 (cl (c0 + mSn M) 40) = upd Y 31 (cl (c0 + mSn M) 40) := by
      funext j
      by_cases hj : j = 31
      · simp [upd, hj]
      · simp [upd, hj]
    have y2' : YR (mN M) (sI h1 t 6 (cl (c0 + mSn M) 40)) t (upd Y 31 (cl (c0 + mSn M) 40)) := by rw [← e6]; exact y2
    have F2 : Fr (scP t) (plP t) h (sI h1 t 6 (cl (c0 + mSn M) 40)) := F1.p (by simp) _
    obtain ⟨h3, e3, f3, y3⟩ := K_pass_b (az := 1) hk htu (hM.fr F2 mS mP) (hb.o h6 (fun k hk => by rw [upd_a, if_neg (by omega)]) : BN M (upd Y 31 (cl (c0 + mSn M) 40))) y2'
    exact ⟨h3, e3, F2.t f3, y3⟩
theorem K_hour_ok {t u : Nat} {M : MT} {Y : YT} {h : AH} (hk : kdF (t + 5) = .inl (0, 6)) (htu : t + 6 < u ∨ u + 16 < t) (hM : MK h u M) (hb : BN M Y) (hc : BC M Y) (y : YR (mN M) h t Y) : ∃ h2, f_Yard_pass1 t u h = some h2 ∧ Fr (scP t) (plP t) h h2 ∧ YR (mN M) h2 t (hourS M Y) := by
  have h6 := hM.1.2.1
  have mP : ∀ q ∈ plP t, q.1 < u ∨ u + 16 < q.1 := fun q hq => by
    simp only [plP, List.mem_cons, List.not_mem_nil, or_false] at hq
    rcases hq with rfl | rfl | rfl | rfl <;> simp only <;> omega
  have mS : ∀ q ∈ scP t, q = u + 12 ∨ q = u + 16 ∨ q < u ∨ u + 16 < q := fun q hq => by
    simp only [scP, List.mem_cons, List.not_mem_nil, or_false] at hq; omega
  have es : Y 34 * 137 + 71 - (Y 34 * 137 + 71) / 1000 * 1000 = seedS (Y 34) := rfl
  rw [f_Yard_pass1, lt_e, y.2.2.2.2, es, hI_sI_s]
  have y1 : YR (mN M) (sI h t 9 (seedS (Y 34))) t (upd Y 34 (seedS (Y 34))) := y.w h6 3 (by omega) _
  have F1 : Fr (scP t) (plP t) h (sI h t 9 (seedS (Y 34))) := (Fr.rf _ _ _).p (by simp) _
  generalize sI h t 9 (seedS (Y 34)) = h1 at y1 F1 ⊢
  have hM1 := hM.fr F1 mS mP
  have b1 : BN M (upd Y 34 (seedS (Y 34))) := hb.o h6 (fun k hk => by rw [upd_a, if_neg (by omega)])
  have c1 : BC M (upd Y 34 (seedS (Y 34))) := by
    unfold BC
    rw [upd_a, if_neg (by omega)]
    exact hc
  have go := K_pass_ok hk htu hM1 b1 c1 y1
  rw [hM1.2.2.2.1]
  unfold hourS
  by_cases hq : mCh M ≤ seedS (Y 34) - seedS (Y 34) / 100 * 100
  · have hs : snapS M (seedS (Y 34)) = false := by unfold snapS; simpa using Int32.not_lt.mpr hq
    obtain ⟨h2, e2, f2, y2⟩ := go false
    rw [if_pos hq, f_Yard_pass1_b40, hs]
    have e2' : f_Yard_pass2 t u 0 h1 = some h2 := by simpa using e2
    rw [e2', bV_s]
    exact ⟨h2, rfl, F1.t f2, y2⟩
  · have hs : snapS M (seedS (Y 34)) = true := by unfold snapS; simpa using Int32.not_le.mp hq
    obtain ⟨h2, e2, f2, y2⟩ := go true
    rw [if_neg hq, f_Yard_pass1_b40, hs]
    have e2' : f_Yard_pass2 t u 1 h1 = some h2 := by simpa using e2
    rw [e2', bV_s]
    exact ⟨h2, rfl, F1.t f2, y2⟩
