/-! ===== the class's formula ===== -/
def enc (s a : Int32) : Int32 := if s = 0 then 1 else if s = 1 then (if a = 0 then 265 else if a = 1 then 259 else if a = 2 then 260 else if a = 3 then 272 else if a = 4 then 273 else 274) else if s = 2 then 271 else if a = 124 then 269 else if a = 38 then 270 else a
/-- the formula at t holds the code -/
def FC (h : AH) (t : Nat) (c : CT) : Prop := hI h t 3 = nI c.1 ∧ ∀ k, k < c.1 → hI h (t + 1) k = enc (c.2.1 k) (c.2.2 k) ∧ (c.2.1 k = 0 → hI h (t + 2) k = c.2.2 k)
theorem FC.fr {S : List Nat} {P : List (Nat × Nat)} {h h1 : AH} {t : Nat} {c : CT} (m : FC h t c) (f : Fr S P h h1) (a : ∀ q ∈ S, q ≠ t ∧ q ≠ t + 1 ∧ q ≠ t + 2) (b : ∀ q ∈ P, q.1 ≠ t ∧ q.1 ≠ t + 1 ∧ q.1 ≠ t + 2) : FC h1 t c := by
  refine ⟨?_, fun k hk => ⟨?_, fun h0 => ?_⟩⟩
  · rw [f.i t 3 (fun q => (a _ q).1 rfl) (fun q => (b _ q).1 rfl)]; exact m.1
  · rw [f.i (t + 1) _ (fun q => (a _ q).2.1 rfl) (fun q => (b _ q).2.1 rfl)]; exact (m.2 k hk).1
  · rw [f.i (t + 2) _ (fun q => (a _ q).2.2 rfl) (fun q => (b _ q).2.2 rfl)]; exact (m.2 k hk).2 h0
theorem F_two_ok {s a : Int32} (ha : isOp a) (hs : s = 3) (h : AH) : f_Formula_takesTwo (enc s a) h = some (1, h) := by
  subst hs
  rcases ha with rfl | rfl | rfl | rfl | rfl | rfl | rfl | rfl | rfl | rfl <;> rfl
theorem F_one_ok {s : Int32} {j : Nat} (hj : j < 6) (hs : s = 1) (h : AH) : f_Formula_takesTwo (enc s (nI j)) h = some (0, h) := by
  subst hs
  rcases (show j = 0 ∨ j = 1 ∨ j = 2 ∨ j = 3 ∨ j = 4 ∨ j = 5 by omega) with rfl | rfl | rfl | rfl | rfl | rfl <;> rfl
theorem F_join_ok {a : Int32} (ha : isOp a) (x y : Int32) (h : AH) : f_Formula_join (enc 3 a) x y h = some (dn a x y, h) := by
  have hg : ∀ (z : Int32) (K : Option (Int32 × AH)), ¬ z = 0 → gz z K = K := fun z K hz => gz_ok K hz
  rcases ha with rfl | rfl | rfl | rfl | rfl | rfl | rfl | rfl | rfl | rfl <;>
    simp +decide only [f_Formula_join, enc, dn, if_true, if_false, ite_true, ite_false, reduceIte]
  all_goals by_cases hx : x = 0 <;> by_cases hy : y = 0 <;> by_cases hq : x = y <;> by_cases ha : x < y <;> by_cases hb : y < x
  all_goals simp_all [← Int32.not_lt]
theorem enc_ne {a : Int32} (ha : isOp a) : ¬ enc 3 a = 271 := by
  rcases ha with rfl | rfl | rfl | rfl | rfl | rfl | rfl | rfl | rfl | rfl <;> decide
set_option maxHeartbeats 2000000 in
theorem F_value_l {t : Nat} {c : CT} {a1 a2 a3 a4 a5 a6 : Int32} (wf : WFc c) (hz0 : 0 < c.1) : ∀ (m k fu : Nat) (h : AH), m + k = c.1 → m < fu → FC h t c → (∀ j, j < chg c k → hI h (t + 3) j = (crun (ev6 a1 a2 a3 a4 a5 a6) c k).2 j) →
    ∃ h', f_Formula_value_l6 t a1 a2 a3 a4 a5 a6 fu (nI (chg c k)) (nI k) h = some ((crun (ev6 a1 a2 a3 a4 a5 a6) c c.1).2 0, h') ∧ Fr [t + 3] [] h h' := by
  have hz := wf.1
  intro m
  induction m with
  | zero =>
    intro k fu h hk hf hM hs
    obtain ⟨fu, rfl⟩ : ∃ q, fu = q + 1 := ⟨fu - 1, by omega⟩
    have hk1 : k = c.1 := by omega
    subst hk1
    have h1 := wf.2.2 hz0
    have h2 := chg_le wf c.1 (Nat.le_refl _)
    refine ⟨h, ?_, Fr.rf _ _ _⟩
    rw [f_Formula_value_l6, hM.1, if_pos (nI_le (Nat.le_refl _) (by omega)), if_neg (nI_nle (by omega) (by omega)), hs 0 (by omega)]
  | succ m ih =>
    intro k fu h hk hf hM hs
    obtain ⟨fu, rfl⟩ : ∃ q, fu = q + 1 := ⟨fu - 1, by omega⟩
    have hkc : k < c.1 := by omega
    have hg := chg_le wf k (by omega)
    have hch := crun_h (ev6 a1 a2 a3 a4 a5 a6) c k
    have h3 := hM.2 k hkc
    have xk : ix (nI k) = k := ix_n (by omega)
    have gk270 : ∀ K : Option (Int32 × AH), gx (nI k) 270 K = K := fun K => gx_n K (by omega) (by omega)
    rw [f_Formula_value_l6, hM.1, if_neg (nI_ge hkc (by omega)), gk270, xk, lt_e, h3.1]
    -- what a pushed number leaves
    have push : ∀ v : Int32, (∀ j, j < chg c (k + 1) → (upd (fun j => hI h (t + 3) j) (chg c k) v) j = (crun (ev6 a1 a2 a3 a4 a5 a6) c (k + 1)).2 j) → chg c (k + 1) = chg c k + 1 → chg c k < 30 →
        ∃ h', f_Formula_value_l6 t a1 a2 a3 a4 a5 a6 fu (nI (chg c k) + 1) (nI k + 1) (sI h (t + 3) (ix (nI (chg c k))) v) = some ((crun (ev6 a1 a2 a3 a4 a5 a6) c c.1).2 0, h') ∧ Fr [t + 3] [] h h' := by
      intro v hv hc1 hc2
      rw [ix_n (show chg c k < 2 ^ 31 by omega), nI_1, nI_1, ← hc1]
      have f1 : Fr [t + 3] [] h (sI h (t + 3) (chg c k) v) := (Fr.rf _ _ _).s (by simp) _ _
      obtain ⟨h', q1, q2⟩ := ih (k + 1) fu (sI h (t + 3) (chg c k) v) (by omega) (by omega) (hM.fr f1 (by simp) (by simp)) (fun j hj => by rw [hI_sI_u]; exact hv j hj)
      exact ⟨h', q1, f1.t q2⟩
    have g30 : ∀ (hc : chg c k < 30) (K : Option (Int32 × AH)), gx (nI (chg c k)) 30 K = K := fun hc K => gx_n K hc (by omega)
    have n30 : ∀ (hc : chg c k < 30), ¬ nI 30 ≤ nI (chg c k) := fun hc => nI_ge hc (by omega)
    rcases wf.2.1 k hkc with ⟨h5, h6⟩ | ⟨h5, h6, j0, hj0, h7⟩ | ⟨h5, h6⟩ | ⟨h5, h6, h7⟩
    · have hc1 : chg c (k + 1) = chg c k + 1 := by simp [chg, h5]
      have fin := push (c.2.2 k) (fun j hj => by
        simp only [crun, cst, h5, if_pos, hch]
        simp only [upd]
        by_cases e1 : j = chg c k
        · simp [e1]
        · simp only [e1, if_false]; exact hs j (by omega)) hc1 h6
      have e0 : enc (c.2.1 k) (c.2.2 k) = 1 := by rw [h5]; rfl
      rw [e0, if_pos (by decide), show f_Formula_takesTwo 1 h = some (0, h) from rfl, bI_s, if_pos rfl, if_neg (n30 h6), if_neg (by decide), if_neg (by decide), if_neg (by decide), if_neg (by decide), if_neg (by decide), if_neg (by decide), gk270, g30 h6, lt_e, lt_e, lt_e, h3.2 h5]
      exact fin
    · have hc1 : chg c (k + 1) = chg c k + 1 := by simp [chg, h5]
      have fin := push (ev6 a1 a2 a3 a4 a5 a6 j0) (fun j hj => by
        simp only [crun, cst, h5, h7, hch, ix_n (show j0 < 2 ^ 31 by omega)]
        simp only [upd, show ¬ (1 : Int32) = 0 by decide, if_false, if_true]
        by_cases e1 : j = chg c k
        · simp [e1]
        · simp only [e1, if_false]; exact hs j (by omega)) hc1 h6
      rw [h5, h7, if_pos (by rcases (show j0 = 0 ∨ j0 = 1 ∨ j0 = 2 ∨ j0 = 3 ∨ j0 = 4 ∨ j0 = 5 by omega) with rfl | rfl | rfl | rfl | rfl | rfl <;> decide), F_one_ok hj0 rfl, bI_s, if_pos rfl, if_neg (n30 h6)]
      rcases (show j0 = 0 ∨ j0 = 1 ∨ j0 = 2 ∨ j0 = 3 ∨ j0 = 4 ∨ j0 = 5 by omega) with rfl | rfl | rfl | rfl | rfl | rfl
      · rw [show enc 1 (nI 0) = 265 from rfl, if_neg (by decide), if_neg (by decide), if_pos rfl, g30 h6, lt_e, lt_e, lt_e]; exact fin
      · rw [show enc 1 (nI 1) = 259 from rfl, if_pos rfl, g30 h6, lt_e, lt_e, lt_e]; exact fin
      · rw [show enc 1 (nI 2) = 260 from rfl, if_neg (by decide), if_pos rfl, g30 h6, lt_e, lt_e, lt_e]; exact fin
      · rw [show enc 1 (nI 3) = 272 from rfl, if_neg (by decide), if_neg (by decide), if_neg (by decide), if_pos rfl, g30 h6, lt_e, lt_e, lt_e]; exact fin
      · rw [show enc 1 (nI 4) = 273 from rfl, if_neg (by decide), if_neg (by decide), if_neg (by decide), if_neg (by decide), if_pos rfl, g30 h6, lt_e, lt_e, lt_e]; exact fin
      · rw [show enc 1 (nI 5) = 274 from rfl, if_neg (by decide), if_neg (by decide), if_neg (by decide), if_neg (by decide), if_neg (by decide), if_pos rfl, g30 h6, lt_e, lt_e, lt_e]; exact fin
    · have hc1 : chg c (k + 1) = chg c k := by simp [chg, h5]
      obtain ⟨g, hg1⟩ : ∃ g, chg c k = g + 1 := ⟨chg c k - 1, by omega⟩
      have g30' : ∀ K : Option (Int32 × AH), gx (nI g) 30 K = K := fun K => gx_n K (by omega) (by omega)
      have xg : ix (nI g) = g := ix_n (by omega)
      have fin : ∀ v : Int32, v = (if hI h (t + 3) g = 0 then 1 else 0) → ∃ h', f_Formula_value_l6 t a1 a2 a3 a4 a5 a6 fu (nI (g + 1)) (nI (k + 1)) (sI h (t + 3) g v) = some ((crun (ev6 a1 a2 a3 a4 a5 a6) c c.1).2 0, h') ∧ Fr [t + 3] [] h h' := by
        intro v hv
        have f1 : Fr [t + 3] [] h (sI h (t + 3) g v) := (Fr.rf _ _ _).s (by simp) _ _
        rw [← hg1, ← hc1]
        obtain ⟨h', q1, q2⟩ := ih (k + 1) fu (sI h (t + 3) g v) (by omega) (by omega) (hM.fr f1 (by simp) (by simp)) (fun j hj => by
          rw [hI_sI_u]
          simp only [crun, cst, h5, hch, hg1, Nat.add_sub_cancel]
          simp only [upd, show ¬ (2 : Int32) = 0 by decide, show ¬ (2 : Int32) = 1 by decide, if_false, if_true]
          by_cases e1 : j = g
          · simp only [e1, if_true]; rw [hv, hs g (by omega)]
          · simp only [e1, if_false]; exact hs j (by omega))
        exact ⟨h', q1, f1.t q2⟩
      have n1 : ¬ nI (g + 1) < 1 := by rw [show (1 : Int32) = nI 1 from rfl]; exact nI_nlt (by omega) (by omega)
      rw [h5, show enc 2 (c.2.2 k) = 271 from rfl, if_neg (by simp), hg1, if_neg n1, nI_s1, g30', xg]
      by_cases hq : hI h (t + 3) g = 0
      · rw [if_neg (by simp [hq]), g30', lt_e, lt_e, nI_1]; exact fin 1 (by simp [hq])
      · rw [if_pos hq, g30', lt_e, lt_e, nI_1]; exact fin 0 (by simp [hq])
    · have hc1 : chg c (k + 1) = chg c k - 1 := by simp [chg, h5]
      obtain ⟨g, hg1⟩ : ∃ g, chg c k = g + 2 := ⟨chg c k - 2, by omega⟩
      have g30a : ∀ K : Option (Int32 × AH), gx (nI g) 30 K = K := fun K => gx_n K (by omega) (by omega)
      have g30b : ∀ K : Option (Int32 × AH), gx (nI (g + 1)) 30 K = K := fun K => gx_n K (by omega) (by omega)
      have n2 : ¬ nI (g + 2) < 2 := by rw [show (2 : Int32) = nI 2 from rfl]; exact nI_nlt (by omega) (by omega)
      rw [h5, if_pos (enc_ne h7), F_two_ok h7 rfl, bI_s, if_neg (by decide), hg1, if_neg n2, lt_e, nI_m1, nI_s1, g30a, g30b, ix_n (show g < 2 ^ 31 by omega), ix_n (show g + 1 < 2 ^ 31 by omega), F_join_ok h7, bI_s, g30a, lt_e, lt_e, nI_1]
      have hc2 : chg c (k + 1) = g + 1 := by omega
      have f1 : Fr [t + 3] [] h (sI h (t + 3) g (dn (c.2.2 k) (hI h (t + 3) g) (hI h (t + 3) (g + 1)))) := (Fr.rf _ _ _).s (by simp) _ _
      obtain ⟨h', q1, q2⟩ := ih (k + 1) fu _ (by omega) (by omega) (hM.fr f1 (by simp) (by simp)) (fun j hj => by
          rw [hI_sI_u]
          simp only [crun, cst, h5, hch, hg1, show g + 2 - 2 = g by omega, show g + 2 - 1 = g + 1 by omega]
          simp only [upd, show ¬ (3 : Int32) = 0 by decide, show ¬ (3 : Int32) = 1 by decide, show ¬ (3 : Int32) = 2 by decide, if_false]
          by_cases e1 : j = g
          · simp only [e1, if_true]; rw [hs g (by omega), hs (g + 1) (by omega)]
          · simp only [e1, if_false]; exact hs j (by omega))
      rw [hc2] at q1
      exact ⟨h', q1, f1.t q2⟩
theorem F_value_ok {t : Nat} {c : CT} {a1 a2 a3 a4 a5 a6 : Int32} {h : AH} (wf : WFc c) (hz0 : 0 < c.1) (hM : FC h t c) (other : Int32) : ∃ h', f_Formula_value t a1 a2 a3 a4 a5 a6 h = some (evC (ev6 a1 a2 a3 a4 a5 a6) c other, h') ∧ Fr [t + 3] [] h h' := by
  have hz := wf.1
  unfold evC
  rw [if_neg (by omega)]
  exact F_value_l (a1 := a1) (a2 := a2) (a3 := a3) (a4 := a4) (a5 := a5) (a6 := a6) wf hz0 c.1 0 FU h (by omega) (by show c.1 < 1000000; omega) hM (fun j hj => by simp [chg] at hj)
theorem F_told_ok {t : Nat} {c : CT} {h : AH} (wf : WFc c) (hM : FC h t c) : f_Formula_isTold t h = some (if c.1 = 0 then 0 else 1, h) := by
  have hz := wf.1
  unfold f_Formula_isTold
  rw [hM.1]
  by_cases h0 : c.1 = 0
  · rw [h0, if_pos (by decide)]; rfl
  · rw [if_neg (nI_nle (by omega) (by omega)), if_neg h0]
