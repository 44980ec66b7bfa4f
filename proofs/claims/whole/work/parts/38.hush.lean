/-! ===== starve, hush ===== -/
def starveS (M : MT) (Y : YT) (n : Int32) : Int32 := if 0 ≤ n ∧ n ≤ 60 then smS (fun i => farS M (ix n) Y (12 + i)) (mN M) else -1
theorem M_starve_ok {M : MT} {Y : YT} {h : AH} (s : MS h M Y) (n : Int32) : ∃ h1, f_M_starve n h = some (starveS M Y n, h1) ∧ Fr sca [] h h1 := by
  have h6 := s.1.1.2.1
  rw [f_M_starve, isIn_e, bI_s]
  unfold starveS
  by_cases hn : 0 ≤ n ∧ n ≤ 60
  · rw [if_pos hn, if_pos (by decide), if_pos hn]
    obtain ⟨n, hk, rfl⟩ := inR_ix (n := 60) (by omega) hn
    obtain ⟨h1, e1, p1⟩ := PA.go s (show n < 999999 by omega)
    rw [e1, bV_s, ix_n (show n < 2 ^ 31 by omega)]
    refine lpc (fun fu k (s : Int32) => f_M_starve_l21 (nI n) fu s (nI k) h1) (fun k s => s = smS (fun i => farS M n Y (12 + i)) k) (fun r => r = (smS (fun i => farS M n Y (12 + i)) (mN M), h1)) (mN M) (by omega) 0 rfl (fun r e q => ?_) (fun k fu s hk p => Or.inl ⟨_, ?_, rfl⟩) (fun fu s p => ⟨_, ?_, rfl⟩)
    · have q1 := q
      exact ⟨h1, by rw [← q1]; exact e, p1.1⟩
    · subst p
      show f_M_starve_l21 (nI n) (fu + 1) (smS (fun i => farS M n Y (12 + i)) k) (nI k) h1 = f_M_starve_l21 (nI n) fu (smS (fun i => farS M n Y (12 + i)) (k + 1)) (nI (k + 1)) h1
      have e12 : (12 : Int32) + nI k = nI (12 + k) := n_add 12 k
      rw [f_M_starve_l21, p1.2.1.1.1, if_neg (nI_ge hk (by omega)), e12, gx_n _ (show 12 + k < 35 by omega) (by omega), ix_n (show 12 + k < 2 ^ 31 by omega), p1.2.2 (12 + k) (by omega), lt_e, lt_e, nI_1]
      rfl
    · subst p
      show f_M_starve_l21 (nI n) (fu + 1) _ (nI (mN M)) h1 = _
      rw [f_M_starve_l21, p1.2.1.1.1, if_pos (nI_le (by omega) (by omega))]
  · rw [if_neg hn, if_neg (by decide), if_neg hn]
    exact ⟨h, rfl, Fr.rf _ _ _⟩
theorem H_starve_ok {M : MT} {Y : YT} {u : Nat} {h : AH} (s : HS h M Y u) (b0 : BN M Y) (c0 : BC M Y) (n : Int32) : ∃ h1, f_H_starve n h = some (starveS M Y n, h1) ∧ Fr (scW u) plW h h1 := by
  have h6 := s.2.2.1.1.2.1
  rw [f_H_starve, within_e, bI_s]
  unfold starveS
  by_cases hn : 0 ≤ n ∧ n ≤ 60
  · rw [if_pos hn, if_pos (by decide), if_pos hn]
    obtain ⟨n, hk, rfl⟩ := inR_ix (n := 60) (by omega) hn
    obtain ⟨h1, e1, p1⟩ := PK.lk s b0 c0 (show n < 999999 by omega)
    rw [e1, bV_s, ix_n (show n < 2 ^ 31 by omega)]
    refine lpc (fun fu k (s : Int32) => f_H_starve_l21 (nI n) fu s (nI k) h1) (fun k s => s = smS (fun i => farS M n Y (12 + i)) k) (fun r => r = (smS (fun i => farS M n Y (12 + i)) (mN M), h1)) (mN M) (by omega) 0 rfl (fun r e q => ?_) (fun k fu s hk p => Or.inl ⟨_, ?_, rfl⟩) (fun fu s p => ⟨_, ?_, rfl⟩)
    · have q1 := q
      exact ⟨h1, by rw [← q1]; exact e, p1.1⟩
    · subst p
      show f_H_starve_l21 (nI n) (fu + 1) (smS (fun i => farS M n Y (12 + i)) k) (nI k) h1 = f_H_starve_l21 (nI n) fu (smS (fun i => farS M n Y (12 + i)) (k + 1)) (nI (k + 1)) h1
      rw [f_H_starve_l21, gd_ok _ p1.2.1.2 (kd_u p1.2.1.1), p1.2.2.1.1.1, if_neg (nI_ge hk (by omega)), gx_n _ (show k < 6 by omega) (by omega), ix_n (show k < 2 ^ 31 by omega), show hI h1 47 k = farS M n Y (12 + k) from (p1.2.2.2.1.1 k hk).2.2.1, lt_e, lt_e, nI_1]
      rfl
    · subst p
      show f_H_starve_l21 (nI n) (fu + 1) _ (nI (mN M)) h1 = _
      rw [f_H_starve_l21, gd_ok _ p1.2.1.2 (kd_u p1.2.1.1), p1.2.2.1.1.1, if_pos (nI_le (by omega) (by omega))]
  · rw [if_neg hn, if_neg (by decide), if_neg hn]
    exact ⟨h, rfl, Fr.rf _ _ _⟩
def huS (f : Nat → Int32) (c : Int32) : Nat → Nat → Int32
  | 0, _ => -1
  | m + 1, k => if c < f k then huS f c m (k + 1) else nI k
def hushS (M : MT) (Y : YT) (c : Int32) : Int32 := if 0 ≤ c ∧ c ≤ 594 then huS (fun k => smS (chirpS M (farS M k Y)) (mN M)) c 61 0 else -1
theorem M_hush_ok {M : MT} {Y : YT} {h : AH} (s : MS h M Y) (c : Int32) : ∃ h1, f_M_hush c h = some (hushS M Y c, h1) ∧ Fr sca [] h h1 := by
  have h6 := s.1.1.2.1
  rw [f_M_hush, isIn_e, bI_s]
  unfold hushS
  by_cases hn : 0 ≤ c ∧ c ≤ 594
  · rw [if_pos hn, if_pos (by decide), if_pos hn]
    obtain ⟨h1, e1, p1⟩ := PA.ld s
    rw [e1, bV_s]
    refine lpc (fun fu k (s : AH) => f_M_hush_l19 c fu (nI k) s) (fun k s => PA M (farS M k Y) h s ∧ huS (fun k => smS (chirpS M (farS M k Y)) (mN M)) c 61 0 = huS (fun k => smS (chirpS M (farS M k Y)) (mN M)) c (61 - k) k) (fun r => r.1 = huS (fun k => smS (chirpS M (farS M k Y)) (mN M)) c 61 0 ∧ Fr sca [] h r.2) 61 (by omega) h1 ⟨p1, rfl⟩ (fun r e q => ?_) (fun k fu s hk p => ?_) (fun fu s p => ?_)
    · obtain ⟨q1, q2⟩ := q
      exact ⟨r.2, by rw [← q1]; exact e, q2⟩
    · obtain ⟨p2, p3⟩ := p
      obtain ⟨h4, e4, p4⟩ := p2.cr
      have e0 : 61 - k = (60 - k) + 1 := by omega
      have p3 := p3.trans (show huS (fun k => smS (chirpS M (farS M k Y)) (mN M)) c (61 - k) k = if c < (fun k => smS (chirpS M (farS M k Y)) (mN M)) k then huS (fun k => smS (chirpS M (farS M k Y)) (mN M)) c (60 - k) (k + 1) else nI k by rw [e0]; rfl)
      have er : f_M_hush_l19 c (fu + 1) (nI k) s = if c < smS (chirpS M (farS M k Y)) (mN M) then bV (f_M_goHour h4) (fun hq3 => f_M_hush_l19 c fu (nI (k + 1)) hq3) else some (nI k, h4) := by
        rw [f_M_hush_l19, if_neg (show ¬ (60 : Int32) < nI k from n_nlt (a := 60) (b := k) (by omega) (by omega)), e4, bI_s]
        simp only [lt_e, nI_1]
      by_cases hc : c < smS (chirpS M (farS M k Y)) (mN M)
      · obtain ⟨h5, e5, p5⟩ := p4.hr
        refine Or.inl ⟨h5, ?_, by rw [farS_s]; exact p5, ?_⟩
        · show f_M_hush_l19 c (fu + 1) (nI k) s = f_M_hush_l19 c fu (nI (k + 1)) h5
          rw [er, if_pos hc, e5, bV_s]
        · rw [show 61 - (k + 1) = 60 - k by omega]; exact p3.trans (if_pos hc)
      · refine Or.inr ⟨(nI k, h4), ?_, ?_, p4.1⟩
        · show f_M_hush_l19 c (fu + 1) (nI k) s = _
          rw [er, if_neg hc]
        · exact (p3.trans (if_neg hc)).symm
    · obtain ⟨p2, p3⟩ := p
      refine ⟨(-1, s), ?_, p3.symm, p2.1⟩
      show f_M_hush_l19 c (fu + 1) (nI 61) s = _
      rw [f_M_hush_l19, if_pos (by decide)]
  · rw [if_neg hn, if_neg (by decide), if_neg hn]
    exact ⟨h, rfl, Fr.rf _ _ _⟩
theorem TU.tog {M : MT} {Y : YT} {h : AH} (t : TU M Y h) (h6 : mN M ≤ 6) : f_Choir_together h = some (smS (chirpS M Y) (mN M), h) := by
  rw [f_Choir_together]
  exact together_l h6 t.1 t.2 (mN M) 0 FU (by omega) (by show mN M < 1000000; omega)
theorem TU.all {M : MT} {Y : YT} {h : AH} (t : TU M Y h) (h6 : mN M ≤ 6) (a : Int32) : f_Choir_allPrices a h = some (triL (pF M Y a) (mN M) 0, h) := allP_ok h6 t.1 t.2 a
theorem H_hush_ok {M : MT} {Y : YT} {u : Nat} {h : AH} (s : HS h M Y u) (b0 : BN M Y) (c0 : BC M Y) (c : Int32) : ∃ h1, f_H_hush c h = some (hushS M Y c, h1) ∧ Fr (scW u) plW h h1 := by
  have h6 := s.2.2.1.1.2.1
  rw [f_H_hush, within_e, bI_s]
  unfold hushS
  by_cases hn : 0 ≤ c ∧ c ≤ 594
  · rw [if_pos hn, if_pos (by decide), if_pos hn]
    obtain ⟨h1, e1, p1⟩ := PK.cp (Fr.rf _ _ _) s b0 c0
    rw [e1, bV_s]
    refine lpc (fun fu k (s : AH) => f_H_hush_l26 c fu (nI k) s) (fun k s => PK M (farS M k Y) u h s ∧ huS (fun k => smS (chirpS M (farS M k Y)) (mN M)) c 61 0 = huS (fun k => smS (chirpS M (farS M k Y)) (mN M)) c (61 - k) k) (fun r => r.1 = huS (fun k => smS (chirpS M (farS M k Y)) (mN M)) c 61 0 ∧ Fr (scW u) plW h r.2) 61 (by omega) h1 ⟨p1, rfl⟩ (fun r e q => ?_) (fun k fu s hk p => ?_) (fun fu s p => ?_)
    · obtain ⟨q1, q2⟩ := q
      exact ⟨r.2, by rw [← q1]; exact e, q2⟩
    · obtain ⟨p2, p3⟩ := p
      obtain ⟨h4, e4, p4, t4⟩ := p2.tn
      have e0 : 61 - k = (60 - k) + 1 := by omega
      have p3 := p3.trans (show huS (fun k => smS (chirpS M (farS M k Y)) (mN M)) c (61 - k) k = if c < (fun k => smS (chirpS M (farS M k Y)) (mN M)) k then huS (fun k => smS (chirpS M (farS M k Y)) (mN M)) c (60 - k) (k + 1) else nI k by rw [e0]; rfl)
      have er : f_H_hush_l26 c (fu + 1) (nI k) s = if c < smS (chirpS M (farS M k Y)) (mN M) then bV (f_Yard_pass1 44 u h4) (fun hq3 => f_H_hush_l26 c fu (nI (k + 1)) hq3) else some (nI k, h4) := by
        rw [f_H_hush_l26, if_neg (show ¬ (60 : Int32) < nI k from n_nlt (a := 60) (b := k) (by omega) (by omega)), gd_ok _ p2.2.1.2 (kd_u p2.2.1.1), e4, bV_s, t4.tog h6, bI_s, gd_ok _ p4.2.1.2 (kd_u p4.2.1.1)]
        simp only [lt_e, nI_1]
      by_cases hc : c < smS (chirpS M (farS M k Y)) (mN M)
      · obtain ⟨h5, e5, p5⟩ := p4.hr
        refine Or.inl ⟨h5, ?_, by rw [farS_s]; exact p5, ?_⟩
        · show f_H_hush_l26 c (fu + 1) (nI k) s = f_H_hush_l26 c fu (nI (k + 1)) h5
          rw [er, if_pos hc, e5, bV_s]
        · rw [show 61 - (k + 1) = 60 - k by omega]; exact p3.trans (if_pos hc)
      · refine Or.inr ⟨(nI k, h4), ?_, ?_, p4.1⟩
        · show f_H_hush_l26 c (fu + 1) (nI k) s = _
          rw [er, if_neg hc]
        · exact (p3.trans (if_neg hc)).symm
    · obtain ⟨p2, p3⟩ := p
      refine ⟨(-1, s), ?_, p3.symm, p2.1⟩
      show f_H_hush_l26 c (fu + 1) (nI 61) s = _
      rw [f_H_hush_l26, if_pos (by decide)]
  · rw [if_neg hn, if_neg (by decide), if_neg hn]
    exact ⟨h, rfl, Fr.rf _ _ _⟩
