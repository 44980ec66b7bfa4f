def MC (h : AH) (w : Nat) (c : CT) : Prop := hI h 391 w = nI c.1 ∧ ∀ k, k < c.1 → hI h 389 (320 * w + k) = c.2.1 k ∧ hI h 390 (320 * w + k) = c.2.2 k
theorem MC.fr {S : List Nat} {P : List (Nat × Nat)} {h h1 : AH} {w : Nat} {c : CT} (m : MC h w c) (f : Fr S P h h1) (a : ∀ q ∈ S, q ≠ 389 ∧ q ≠ 390 ∧ q ≠ 391) (b : ∀ q ∈ P, q.1 ≠ 389 ∧ q.1 ≠ 390 ∧ q.1 ≠ 391) : MC h1 w c := by
  refine ⟨?_, fun k hk => ⟨?_, ?_⟩⟩
  · rw [f.i 391 w (fun q => (a _ q).2.2 rfl) (fun q => (b _ q).2.2 rfl)]; exact m.1
  · rw [f.i 389 _ (fun q => (a _ q).1 rfl) (fun q => (b _ q).1 rfl)]; exact (m.2 k hk).1
  · rw [f.i 390 _ (fun q => (a _ q).2.1 rfl) (fun q => (b _ q).2.1 rfl)]; exact (m.2 k hk).2
theorem n320 (w k : Nat) : (320 : Int32) * nI w + nI k = nI (320 * w + k) := by
  rw [show (320 : Int32) = nI 320 from rfl, pk_mul, nI_add]
theorem nI_m1 (k : Nat) : nI (k + 1) + (-1) = nI k := pk_m1 k
theorem nI_s1 (k : Nat) : nI (k + 1) - 1 = nI k := nI_pred k
set_option maxHeartbeats 1000000 in
theorem M_worked_l {w : Nat} {c : CT} {e : Nat → Int32} {other : Int32} (hw : w < 2) (wf : WFc c) : ∀ (m k fu : Nat) (h : AH), m + k = c.1 → m < fu → MC h w c → (∀ j, j < 6 → hI h 395 j = e j) → (∀ j, j < chg c k → hI h 393 j = (crun e c k).2 j) →
    ∃ h', f_M_worked_l16 (nI w) other fu (nI (chg c k)) (nI (320 * w + k)) h = some (hI h' 393 0, h') ∧ Fr [393] [] h h' ∧ ∀ j, j < chg c c.1 → hI h' 393 j = (crun e c c.1).2 j := by
  have hz := wf.1
  intro m
  induction m with
  | zero =>
    intro k fu h hk hf hM he hs
    obtain ⟨fu, rfl⟩ : ∃ q, fu = q + 1 := ⟨fu - 1, by omega⟩
    have hk1 : k = c.1 := by omega
    subst hk1
    refine ⟨h, ?_, Fr.rf _ _ _, hs⟩
    rw [f_M_worked_l16, gx_n _ hw (by omega), ix_n (show w < 2 ^ 31 by omega), hM.1, n320, if_pos (nI_le (Nat.le_refl _) (by omega))]
  | succ m ih =>
    intro k fu h hk hf hM he hs
    obtain ⟨fu, rfl⟩ : ∃ q, fu = q + 1 := ⟨fu - 1, by omega⟩
    have hkc : k < c.1 := by omega
    have hlt : 320 * w + k < 640 := by omega
    have h3 := hM.2 k hkc
    have hg := chg_le wf k (by omega)
    have hch := crun_h e c k
    rw [f_M_worked_l16, gx_n _ hw (by omega), ix_n (show w < 2 ^ 31 by omega), hM.1, n320, if_neg (nI_ge (show 320 * w + k < 320 * w + c.1 by omega) (by omega)), gx_n _ hlt (by omega), ix_n (show 320 * w + k < 2 ^ 31 by omega), h3.1]
    have hnext : nI (320 * w + k) + 1 = nI (320 * w + (k + 1)) := nI_1 _
    -- what a pushed number leaves
    have push : ∀ v : Int32, (∀ j, j < chg c (k + 1) → (upd (fun j => hI h 393 j) (chg c k) v) j = (crun e c (k + 1)).2 j) → chg c (k + 1) = chg c k + 1 → chg c k < 30 →
        ∃ h', f_M_worked_b91 (nI w) other (f_M_worked_l16 (nI w) other fu) (nI (chg c k)) (nI (320 * w + k)) (nI (chg c k)) v h = some (hI h' 393 0, h') ∧ Fr [393] [] h h' ∧ ∀ j, j < chg c c.1 → hI h' 393 j = (crun e c c.1).2 j := by
      intro v hv hc1 hc2
      rw [f_M_worked_b91, gx_n _ (show chg c k < 64 by omega) (by omega), ix_n (show chg c k < 2 ^ 31 by omega), lt_e, lt_e, lt_e, nI_1, hnext, ← hc1]
      obtain ⟨h', q1, q2, q3⟩ := ih (k + 1) fu (sI h 393 (chg c k) v) (by omega) (by omega) (hM.fr ((Fr.rf [393] [] h).s (by simp) _ _) (by simp) (by simp)) (fun j hj => by rw [hI_sI_c _ _ _ _ _ (by decide)]; exact he j hj) (fun j hj => by rw [hI_sI_u]; exact hv j hj)
      exact ⟨h', q1, ((Fr.rf [393] [] h).s (by simp) _ _).t q2, q3⟩
    rcases wf.2.1 k hkc with ⟨h5, h6⟩ | ⟨h5, h6, j0, hj0, h7⟩ | ⟨h5, h6⟩ | ⟨h5, h6, h7⟩
    · have hc1 : chg c (k + 1) = chg c k + 1 := by simp [chg, h5]
      rw [h5, if_pos rfl, f_M_worked_b54, gx_n _ hlt (by omega), ix_n (show 320 * w + k < 2 ^ 31 by omega), h3.1, h5, if_neg (by simp), gx_n _ hlt (by omega), h3.2]
      exact push _ (fun j hj => by
        simp only [crun, cst, h5, if_pos, hch]
        simp only [upd]
        by_cases e1 : j = chg c k
        · simp [e1]
        · simp only [e1, if_false]; exact hs j (by omega)) hc1 h6
    · have hc1 : chg c (k + 1) = chg c k + 1 := by simp [chg, h5]
      rw [h5, if_neg (by decide), gx_n _ hlt (by omega), if_neg (by simp), f_M_worked_b54, gx_n _ hlt (by omega), ix_n (show 320 * w + k < 2 ^ 31 by omega), h3.1, h5, if_pos (by decide), gx_n _ hlt (by omega), h3.2, h7, gx_n _ hj0 (by omega), ix_n (show j0 < 2 ^ 31 by omega), he j0 hj0]
      exact push _ (fun j hj => by
        simp only [crun, cst, h5, h7, hch, ix_n (show j0 < 2 ^ 31 by omega)]
        simp only [upd, show ¬ (1 : Int32) = 0 by decide, if_false, if_true]
        by_cases e1 : j = chg c k
        · simp [e1]
        · simp only [e1, if_false]; exact hs j (by omega)) hc1 h6
    · have hc1 : chg c (k + 1) = chg c k := by simp [chg, h5]
      obtain ⟨g, hg1⟩ : ∃ g, chg c k = g + 1 := ⟨chg c k - 1, by omega⟩
      rw [h5, if_neg (by decide), gx_n _ hlt (by omega), if_pos (by decide), gx_n _ hlt (by omega), if_neg (by simp), hg1, nI_s1, gx_n _ (show g < 64 by omega) (by omega), ix_n (show g < 2 ^ 31 by omega)]
      have fin : ∀ v : Int32, v = (if hI h 393 g = 0 then 1 else 0) → ∃ h', f_M_worked_b132 (nI w) other (f_M_worked_l16 (nI w) other fu) (nI (g + 1)) (nI (320 * w + k)) (nI g) v h = some (hI h' 393 0, h') ∧ Fr [393] [] h h' ∧ ∀ j, j < chg c c.1 → hI h' 393 j = (crun e c c.1).2 j := by
        intro v hv
        have hv1 : (if v = 0 then (0 : Int32) else 1) = v := by rw [hv]; split <;> simp
        rw [f_M_worked_b132, M_truth_b, bI_s, gx_n _ (show g < 64 by omega) (by omega), ix_n (show g < 2 ^ 31 by omega), lt_e, lt_e, hnext, hv1, ← hg1, ← hc1]
        obtain ⟨h', q1, q2, q3⟩ := ih (k + 1) fu (sI h 393 g v) (by omega) (by omega) (hM.fr ((Fr.rf [393] [] h).s (by simp) _ _) (by simp) (by simp)) (fun j hj => by rw [hI_sI_c _ _ _ _ _ (by decide)]; exact he j hj) (fun j hj => by
          rw [hI_sI_u]
          simp only [crun, cst, h5, hch, hg1, Nat.add_sub_cancel]
          simp only [upd, show ¬ (2 : Int32) = 0 by decide, show ¬ (2 : Int32) = 1 by decide, if_false, if_true]
          by_cases e1 : j = g
          · simp only [e1, if_true]; rw [hv, hs g (by omega)]
          · simp only [e1, if_false]; exact hs j (by omega))
        exact ⟨h', q1, ((Fr.rf [393] [] h).s (by simp) _ _).t q2, q3⟩
      by_cases hq : hI h 393 g = 0
      · rw [if_neg (by simp [hq])]; exact fin 1 (by simp [hq])
      · rw [if_pos hq]; exact fin 0 (by simp [hq])
    · have hc1 : chg c (k + 1) = chg c k - 1 := by simp [chg, h5]
      obtain ⟨g, hg1⟩ : ∃ g, chg c k = g + 2 := ⟨chg c k - 2, by omega⟩
      rw [h5, if_neg (by decide), gx_n _ hlt (by omega), if_pos (by decide), gx_n _ hlt (by omega), if_pos (by decide), hg1, lt_e, nI_m1, nI_s1, gx_n _ hlt (by omega), gx_n _ (show g < 64 by omega) (by omega), gx_n _ (show g + 1 < 64 by omega) (by omega), ix_n (show g < 2 ^ 31 by omega), ix_n (show g + 1 < 2 ^ 31 by omega), h3.2, M_done_ok h7, bI_s, gx_n _ (show g < 64 by omega) (by omega), lt_e, lt_e, hnext]
      have hc2 : chg c (k + 1) = g + 1 := by omega
      obtain ⟨h', q1, q2, q3⟩ := ih (k + 1) fu (sI h 393 g (dn (c.2.2 k) (hI h 393 g) (hI h 393 (g + 1)))) (by omega) (by omega) (hM.fr ((Fr.rf [393] [] h).s (by simp) _ _) (by simp) (by simp)) (fun j hj => by rw [hI_sI_c _ _ _ _ _ (by decide)]; exact he j hj) (fun j hj => by
          rw [hI_sI_u]
          simp only [crun, cst, h5, hch, hg1, show g + 2 - 2 = g by omega, show g + 2 - 1 = g + 1 by omega]
          simp only [upd, show ¬ (3 : Int32) = 0 by decide, show ¬ (3 : Int32) = 1 by decide, show ¬ (3 : Int32) = 2 by decide, if_false]
          by_cases e1 : j = g
          · simp only [e1, if_true]; rw [hs g (by omega), hs (g + 1) (by omega)]
          · simp only [e1, if_false]; exact hs j (by omega))
      rw [hc2] at q1
      exact ⟨h', q1, ((Fr.rf [393] [] h).s (by simp) _ _).t q2, q3⟩
theorem M_worked_ok {w : Nat} {c : CT} {e : Nat → Int32} {other : Int32} {h : AH} (hw : w < 2) (wf : WFc c) (hM : MC h w c) (he : ∀ j, j < 6 → hI h 395 j = e j) : ∃ h', f_M_worked (nI w) other h = some (evC e c other, h') ∧ Fr [393] [] h h' := by
  have hz := wf.1
  have f0 : Fr [393] [] h (sI h 393 0 other) := (Fr.rf [393] [] h).s (by simp) _ _
  obtain ⟨h', q1, q2, q3⟩ := M_worked_l (e := e) (other := other) hw wf c.1 0 FU (sI h 393 0 other) (by omega) (by show c.1 < 1000000; omega) (hM.fr f0 (by simp) (by simp)) (fun j hj => by rw [hI_sI_c _ _ _ _ _ (by decide)]; exact he j hj) (fun j hj => by simp [chg] at hj)
  refine ⟨h', ?_, f0.t q2⟩
  rw [f_M_worked, lt_e, lt_e]
  have e1 : (320 : Int32) * nI w = nI (320 * w + 0) := by rw [show (320 : Int32) = nI 320 from rfl, pk_mul]; rfl
  rw [e1, show (0 : Int32) = nI (chg c 0) from rfl, q1]
  unfold evC
  by_cases h0 : c.1 = 0
  · rw [if_pos h0]
    -- nothing was done
    have : f_M_worked_l16 (nI w) other FU (nI (chg c 0)) (nI (320 * w + 0)) (sI h 393 0 other) = some (other, sI h 393 0 other) := by
      obtain ⟨q, hq, -⟩ := FU_pos 0 (by omega)
      have hM1 := hM.fr f0 (by simp) (by simp)
      rw [hq, f_M_worked_l16, gx_n _ hw (by omega), ix_n (show w < 2 ^ 31 by omega), hM1.1, n320, h0, if_pos (nI_le (Nat.le_refl _) (by omega)), hI_sI_s]
    rw [this] at q1
    exact congrArg (fun v => some (v, h')) (Prod.mk.inj (Option.some.inj q1)).1.symm
  · rw [if_neg h0, q3 0 (wf.2.2 (by omega))]
