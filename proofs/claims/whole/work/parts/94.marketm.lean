/-! ===== a market told, the reference's ===== -/
theorem n320m {a : Nat} (ha : a < 1000) (k : Nat) : (320 : Int32) * nI a + nI k = nI (320 * a + k) := by
  rw [show (320 : Int32) = nI 320 from rfl, n_ml (by omega) (by omega) (by omega), n_add]
theorem n320q {a : Nat} (ha : a < 1000) : (320 : Int32) * nI a = nI (320 * a) := by
  rw [show (320 : Int32) = nI 320 from rfl, n_ml (by omega) (by omega) (by omega)]
abbrev cpC : Nat → Nat → Prop := fun c _ => c = 389 ∨ c = 390 ∨ c = 391
theorem copyM {w n : Nat} (hw : w < 2) (hn : n ≤ 270) (k63 : Int32 → AH → Option (Int32 × AH)) (h : AH) : ∃ h1, f_M_market_b92 k63 (nI w) (nI w) (nI n) h = k63 (nI (w + 1)) h1 ∧ FrL cpC (fun _ _ => False) nxR h h1 ∧ hI h1 391 w = nI n ∧ (∀ j, ¬ j = w → hI h1 391 j = hI h 391 j) ∧ (∀ k, k < n → hI h1 389 (320 * w + k) = hI h 386 (320 * w + k) ∧ hI h1 390 (320 * w + k) = hI h 387 (320 * w + k)) ∧ ∀ j, (j < 320 * w ∨ 320 * w + n ≤ j) → hI h1 389 j = hI h 389 j ∧ hI h1 390 j = hI h 390 j := by
  rw [f_M_market_b92, gx_n _ hw (by omega), ix_n (by omega), lt_e, n320q (by omega), lt_e]
  have f0 : FrL cpC (fun _ _ => False) nxR h (sI h 391 w (nI n)) := (FrL.rf _ _ _ h).s (c := 391) (k := w) (Or.inr (Or.inr rfl)) _
  have a0 : hI (sI h 391 w (nI n)) 391 w = nI n := hI_sI_s _ _ _ _
  have b0 : ∀ j, ¬ j = w → hI (sI h 391 w (nI n)) 391 j = hI h 391 j := fun j hj => by rw [hI_sI, if_neg (fun z => hj z.2)]
  have c0 : ∀ c j, ¬ c = 391 → hI (sI h 391 w (nI n)) c j = hI h c j := fun c j hc => by rw [hI_sI, if_neg (fun z => hc z.1)]
  generalize sI h 391 w (nI n) = h0 at f0 a0 b0 c0 ⊢
  refine lqc (fun fu k (z : AH) => f_M_market_l99 k63 fu (nI w) (nI (320 * w + k)) z) (fun k z => FrL (fun c _ => c = 389 ∨ c = 390) (fun _ _ => False) nxR h0 z ∧ (∀ i, i < k → hI z 389 (320 * w + i) = hI h 386 (320 * w + i) ∧ hI z 390 (320 * w + i) = hI h 387 (320 * w + i)) ∧ ∀ j, (j < 320 * w ∨ 320 * w + k ≤ j) → hI z 389 j = hI h 389 j ∧ hI z 390 j = hI h 390 j) (fun z => k63 (nI (w + 1)) z) n (by omega) h0 ⟨FrL.rf _ _ _ h0, fun i hi => absurd hi (Nat.not_lt_zero _), fun j _ => ⟨c0 _ _ (by omega), c0 _ _ (by omega)⟩⟩ (fun z e q => ⟨z, e, f0.t (q.1.mn (fun c k z => by show c = 389 ∨ c = 390 ∨ c = 391; have z' : c = 389 ∨ c = 390 := z; omega) (fun _ _ z => z) (fun _ z => z)), by rw [q.1.2.1 _ _ (by omega)]; exact a0, fun j hj => by rw [q.1.2.1 _ _ (by omega)]; exact b0 j hj, q.2.1, q.2.2⟩) (fun k fu z hk q => ?_) (fun fu z q => ?_)
  · obtain ⟨f1, g1, o1⟩ := q
    have e91 : hI z 391 w = nI n := by rw [f1.2.1 _ _ (by omega)]; exact a0
    have e86 : ∀ j, hI z 386 j = hI h 386 j := fun j => by rw [f1.2.1 _ _ (by omega)]; exact c0 _ _ (by omega)
    have e87 : ∀ j, hI z 387 j = hI h 387 j := fun j => by rw [f1.2.1 _ _ (by omega)]; exact c0 _ _ (by omega)
    refine ⟨sI (sI z 389 (320 * w + k) (hI h 386 (320 * w + k))) 390 (320 * w + k) (hI h 387 (320 * w + k)), ?_, (f1.s (c := 389) (Or.inl rfl) _).s (c := 390) (Or.inr rfl) _, fun i hi => ?_, fun j hj => ?_⟩
    · show f_M_market_l99 k63 (fu + 1) (nI w) (nI (320 * w + k)) z = f_M_market_l99 k63 fu (nI w) (nI (320 * w + (k + 1))) _
      rw [f_M_market_l99, gx_n _ hw (by omega), ix_n (show w < 2 ^ 31 by omega), e91, n320q (by omega), n_add, if_neg (nI_ge (by omega) (by omega)), gx_n _ (show 320 * w + k < 640 by omega) (by omega), gx_n _ (show 320 * w + k < 640 by omega) (by omega), ix_n (show 320 * w + k < 2 ^ 31 by omega), lt_e, gx_n _ (show 320 * w + k < 640 by omega) (by omega), gx_n _ (show 320 * w + k < 640 by omega) (by omega), lt_e, lt_e, nI_1, e86, hI_sI, if_neg (by omega), e87]
      rfl
    · by_cases e : i = k
      · subst e
        simp [hI_sI]
      · obtain ⟨a1, a2⟩ := g1 i (by omega)
        rw [hI_sI, if_neg (by omega), hI_sI, if_neg (by omega), hI_sI, if_neg (by omega), hI_sI, if_neg (by omega)]
        exact ⟨a1, a2⟩
    · rw [hI_sI, if_neg (by omega), hI_sI, if_neg (by omega), hI_sI, if_neg (by omega), hI_sI, if_neg (by omega)]
      exact o1 j (by omega)
  · obtain ⟨f1, -, -⟩ := q
    have e91 : hI z 391 w = nI n := by rw [f1.2.1 _ _ (by omega)]; exact a0
    show f_M_market_l99 k63 (fu + 1) (nI w) (nI (320 * w + n)) z = k63 (nI (w + 1)) z
    rw [f_M_market_l99, gx_n _ hw (by omega), ix_n (show w < 2 ^ 31 by omega), e91, n320q (by omega), n_add, if_pos (Int32.le_refl _), lt_e, nI_1]
def acc (h : AH) (n k : Nat) : Nat → Int32 := fun j => if j < k ∧ j < n then hI h 399 j else if 6 ≤ j ∧ j - 6 < k ∧ j - 6 < n then hI h 400 (j - 6) else if 18 ≤ j ∧ j - 18 < k ∧ j - 18 < n then hI h 398 (j - 18) else 0
theorem acc_s (h : AH) {n k : Nat} (hk : k < 6) (hn : k < n) (j : Nat) : acc h n (k + 1) j = if j = 18 + k then hI h 398 k else if j = 6 + k then hI h 400 k else if j = k then hI h 399 k else acc h n k j := by
  unfold acc
  by_cases e1 : j = 18 + k
  · subst e1
    rw [if_neg (by omega), if_neg (by omega), if_pos (by omega), if_pos rfl, show 18 + k - 18 = k by omega]
  · rw [if_neg e1]
    by_cases e2 : j = 6 + k
    · subst e2
      rw [if_neg (by omega), if_pos (by omega), if_pos rfl, show 6 + k - 6 = k by omega]
    · rw [if_neg e2]
      by_cases e3 : j = k
      · subst e3
        rw [if_pos (by omega), if_pos rfl]
      · rw [if_neg e3]
        by_cases c1 : j < k ∧ j < n
        · rw [if_pos (by omega), if_pos c1]
        · rw [if_neg (by omega), if_neg c1]
          by_cases c2 : 6 ≤ j ∧ j - 6 < k ∧ j - 6 < n
          · rw [if_pos (by omega), if_pos c2]
          · rw [if_neg (by omega), if_neg c2]
            by_cases c3 : 18 ≤ j ∧ j - 18 < k ∧ j - 18 < n
            · rw [if_pos (by omega), if_pos c3]
            · rw [if_neg (by omega), if_neg c3]
theorem acc_n (h : AH) {n k : Nat} (hn : ¬ k < n) (j : Nat) : acc h n (k + 1) j = acc h n k j := by
  unfold acc
  by_cases c1 : j < k ∧ j < n
  · rw [if_pos (by omega), if_pos c1]
  · rw [if_neg (by omega), if_neg c1]
    by_cases c2 : 6 ≤ j ∧ j - 6 < k ∧ j - 6 < n
    · rw [if_pos (by omega), if_pos c2]
    · rw [if_neg (by omega), if_neg c2]
      by_cases c3 : 18 ≤ j ∧ j - 18 < k ∧ j - 18 < n
      · rw [if_pos (by omega), if_pos c3]
      · rw [if_neg (by omega), if_neg c3]
theorem l308_ok (h : AH) : ∃ h1, f_M_market_l308 FU 0 h = some (hI h 383 43, h1) ∧ FrL (fun c _ => c = 419) (fun _ _ => False) nxR h h1 ∧ ∀ i, i < 3 → hI h1 419 i = 0 := by
  refine lpc (fun fu k (z : AH) => f_M_market_l308 fu (nI k) z) (fun k z => FrL (fun c _ => c = 419) (fun _ _ => False) nxR h z ∧ ∀ i, i < k → hI z 419 i = 0) (fun r => r.1 = hI h 383 43 ∧ FrL (fun c _ => c = 419) (fun _ _ => False) nxR h r.2 ∧ ∀ i, i < 3 → hI r.2 419 i = 0) 3 (by omega) h ⟨FrL.rf _ _ _ h, fun i hi => absurd hi (Nat.not_lt_zero _)⟩ (fun r e q => ⟨r.2, by rw [← q.1]; exact e, q.2⟩) (fun k fu z hk q => Or.inl ?_) (fun fu z q => ?_)
  · obtain ⟨f1, g1⟩ := q
    refine ⟨sI z 419 k 0, ?_, f1.s (c := 419) rfl _, fun i hi => ?_⟩
    · show f_M_market_l308 (fu + 1) (nI k) z = f_M_market_l308 fu (nI (k + 1)) _
      rw [f_M_market_l308, if_neg (show ¬ (3 : Int32) ≤ nI k from nI_ge (a := k) (b := 3) hk (by omega)), gx_n _ hk (by omega), ix_n (by omega), lt_e, lt_e, nI_1]
      rfl
    · rw [hI_sI]
      by_cases e : i = k
      · rw [if_pos ⟨rfl, e⟩]
      · rw [if_neg (fun q => e q.2)]; exact g1 i (by omega)
  · refine ⟨(hI h 383 43, z), ?_, rfl, q⟩
    show f_M_market_l308 (fu + 1) (nI 3) z = _
    rw [f_M_market_l308, if_pos (by decide), q.1.2.1 383 43 (by omega)]
abbrev kmC : Nat → Nat → Prop := fun c k => (402 ≤ c ∧ c ≤ 405) ∨ c = 419 ∨ (c = 383 ∧ (k = 53 ∨ k = 54 ∨ k = 57 ∨ k = 68))
theorem l153_ok {n : Nat} (hn : n ≤ 6) (h : AH) (e43 : hI h 383 43 = nI n) : ∃ h1, f_M_market_l153 FU 0 h = some (nI n, h1) ∧ FrL kmC (fun _ _ => False) nxR h h1 ∧ (∀ i, i < 6 → hI h1 402 i = hI h 396 i ∧ hI h1 403 i = hI h 397 i ∧ hI h1 404 i = hI h 401 i) ∧ (∀ j, j < 34 → hI h1 405 j = acc h n 6 j) ∧ hI h1 405 34 = hI h 383 41 ∧ hI h1 383 53 = 0 ∧ hI h1 383 54 = 0 ∧ hI h1 383 57 = 0 ∧ hI h1 383 68 = 0 ∧ ∀ i, i < 3 → hI h1 419 i = 0 := by
  refine lqc (fun fu k (z : AH) => f_M_market_l153 fu (nI k) z) (fun k z => FrL (fun c _ => c = 405) (fun _ _ => False) nxR h z ∧ ∀ i, i < k → hI z 405 i = 0) (fun z => f_M_market_l174 FU 0 z) 35 (by omega) h ⟨FrL.rf _ _ _ h, fun i hi => absurd hi (Nat.not_lt_zero _)⟩ (fun z e q => ?_) (fun k fu z hk q => ?_) (fun fu z q => ?_)
  · obtain ⟨f1, g1⟩ := q
    rw [show f_M_market_l153 FU 0 h = f_M_market_l174 FU 0 z from e]
    have o1 : ∀ c j, ¬ c = 405 → hI z c j = hI h c j := fun c j hc => f1.2.1 _ _ hc
    refine lpc (fun fu k (y : AH) => f_M_market_l174 fu (nI k) y) (fun k y => FrL (fun c _ => 402 ≤ c ∧ c ≤ 405) (fun _ _ => False) nxR h y ∧ (∀ i, i < k → hI y 402 i = hI h 396 i ∧ hI y 403 i = hI h 397 i ∧ hI y 404 i = hI h 401 i) ∧ ∀ j, j < 35 → hI y 405 j = acc h n k j) (fun r => r.1 = nI n ∧ FrL kmC (fun _ _ => False) nxR h r.2 ∧ (∀ i, i < 6 → hI r.2 402 i = hI h 396 i ∧ hI r.2 403 i = hI h 397 i ∧ hI r.2 404 i = hI h 401 i) ∧ (∀ j, j < 34 → hI r.2 405 j = acc h n 6 j) ∧ hI r.2 405 34 = hI h 383 41 ∧ hI r.2 383 53 = 0 ∧ hI r.2 383 54 = 0 ∧ hI r.2 383 57 = 0 ∧ hI r.2 383 68 = 0 ∧ ∀ i, i < 3 → hI r.2 419 i = 0) 6 (by omega) z ⟨f1.mn (fun c k z => by have z' : c = 405 := z; show 402 ≤ c ∧ c ≤ 405; omega) (fun _ _ z => z) (fun _ z => z), fun i hi => absurd hi (Nat.not_lt_zero _), fun j hj => by rw [g1 j hj]; unfold acc; rw [if_neg (by omega), if_neg (by omega), if_neg (by omega)]⟩ (fun r e q => ⟨r.2, by rw [← q.1]; exact e, q.2⟩) (fun k fu y hk q => Or.inl ?_) (fun fu y q => ?_)
    · obtain ⟨f2, g2, a2⟩ := q
      have o2 : ∀ c j, ¬ (402 ≤ c ∧ c ≤ 405) → hI y c j = hI h c j := fun c j hc => f2.2.1 _ _ hc
      have r : ∀ (y : AH) (c j : Nat) (c' j' : Nat) (v : Int32), ¬ c' = c → hI (sI y c j v) c' j' = hI y c' j' := fun y c j c' j' v hc => by rw [hI_sI, if_neg (fun q => hc q.1)]
      have hd : f_M_market_l174 (fu + 1) (nI k) y = (if nI k < nI n then f_M_market_l174 fu (nI (k + 1)) (sI (sI (sI (sI (sI (sI y 402 k (hI h 396 k)) 403 k (hI h 397 k)) 404 k (hI h 401 k)) 405 k (hI h 399 k)) 405 (6 + k) (hI h 400 k)) 405 (18 + k) (hI h 398 k)) else f_M_market_l174 fu (nI (k + 1)) (sI (sI (sI y 402 k (hI h 396 k)) 403 k (hI h 397 k)) 404 k (hI h 401 k))) := by
        rw [f_M_market_l174, if_neg (show ¬ (6 : Int32) ≤ nI k from nI_ge (a := k) (b := 6) hk (by omega))]
        simp only [gx_n _ (show k < 6 from hk) (by omega), gx_n _ (show k < 35 by omega) (by omega), ix_n (show k < 2 ^ 31 by omega), lt_e, show (6 : Int32) + nI k = nI (6 + k) from n_add 6 k, show (18 : Int32) + nI k = nI (18 + k) from n_add 18 k, gx_n _ (show 6 + k < 35 by omega) (by omega), gx_n _ (show 18 + k < 35 by omega) (by omega), ix_n (show 6 + k < 2 ^ 31 by omega), ix_n (show 18 + k < 2 ^ 31 by omega), nI_1]
        simp only [hI_sI]
        simp [o2, e43]
      have gg : ∀ (x : AH), (∀ j, hI x 402 j = hI (sI (sI (sI y 402 k (hI h 396 k)) 403 k (hI h 397 k)) 404 k (hI h 401 k)) 402 j) → (∀ j, hI x 403 j = hI (sI (sI (sI y 402 k (hI h 396 k)) 403 k (hI h 397 k)) 404 k (hI h 401 k)) 403 j) → (∀ j, hI x 404 j = hI (sI (sI (sI y 402 k (hI h 396 k)) 403 k (hI h 397 k)) 404 k (hI h 401 k)) 404 j) → ∀ i, i < k + 1 → hI x 402 i = hI h 396 i ∧ hI x 403 i = hI h 397 i ∧ hI x 404 i = hI h 401 i := fun x x2 x3 x4 i hi => by
        rw [x2, x3, x4]
        by_cases ei : i = k
        · subst ei; simp [hI_sI]
        · obtain ⟨b1, b2, b3⟩ := g2 i (by omega)
          simp [hI_sI, ei, b1, b2, b3]
      have F3 : FrL (fun c _ => 402 ≤ c ∧ c ≤ 405) (fun _ _ => False) nxR h (sI (sI (sI y 402 k (hI h 396 k)) 403 k (hI h 397 k)) 404 k (hI h 401 k)) := ((f2.s (c := 402) (by omega) _).s (c := 403) (by omega) _).s (c := 404) (by omega) _
      by_cases c : k < n
      · refine ⟨sI (sI (sI (sI (sI (sI y 402 k (hI h 396 k)) 403 k (hI h 397 k)) 404 k (hI h 401 k)) 405 k (hI h 399 k)) 405 (6 + k) (hI h 400 k)) 405 (18 + k) (hI h 398 k), ?_, ((F3.s (c := 405) (by omega) _).s (c := 405) (by omega) _).s (c := 405) (by omega) _, gg _ (fun j => by rw [r _ _ _ _ _ _ (by omega), r _ _ _ _ _ _ (by omega), r _ _ _ _ _ _ (by omega)]) (fun j => by rw [r _ _ _ _ _ _ (by omega), r _ _ _ _ _ _ (by omega), r _ _ _ _ _ _ (by omega)]) (fun j => by rw [r _ _ _ _ _ _ (by omega), r _ _ _ _ _ _ (by omega), r _ _ _ _ _ _ (by omega)]), fun j hj => ?_⟩
        · show f_M_market_l174 (fu + 1) (nI k) y = f_M_market_l174 fu (nI (k + 1)) _
          rw [hd, if_pos (n_lt c (by omega))]
        · rw [acc_s h hk c, ← a2 j hj]
          simp only [hI_sI, true_and]
          by_cases e1 : j = 18 + k
          · rw [if_pos e1, if_pos e1]
          · rw [if_neg e1, if_neg e1]
            by_cases e2 : j = 6 + k
            · rw [if_pos e2, if_pos e2]
            · rw [if_neg e2, if_neg e2]
              by_cases e3 : j = k
              · rw [if_pos e3, if_pos e3]
              · rw [if_neg e3, if_neg e3, if_neg (by omega), if_neg (by omega), if_neg (by omega)]
      · refine ⟨sI (sI (sI y 402 k (hI h 396 k)) 403 k (hI h 397 k)) 404 k (hI h 401 k), ?_, F3, gg _ (fun _ => rfl) (fun _ => rfl) (fun _ => rfl), fun j hj => ?_⟩
        · show f_M_market_l174 (fu + 1) (nI k) y = f_M_market_l174 fu (nI (k + 1)) _
          rw [hd, if_neg (n_nlt (by omega) (by omega))]
        · rw [acc_n h c, ← a2 j hj, r _ _ _ _ _ _ (by omega), r _ _ _ _ _ _ (by omega), r _ _ _ _ _ _ (by omega)]
    · obtain ⟨f2, g2, a2⟩ := q
      have o2 : ∀ c j, ¬ (402 ≤ c ∧ c ≤ 405) → hI y c j = hI h c j := fun c j hc => f2.2.1 _ _ hc
      obtain ⟨h5, e5, f5, b5⟩ := l308_ok (sI (sI (sI (sI (sI y 405 34 (hI h 383 41)) 383 53 0) 383 54 0) 383 68 0) 383 57 0)
      have kb : ∀ {c k}, 402 ≤ c ∧ c ≤ 405 → kmC c k := fun z => Or.inl z
      have f3 : FrL kmC (fun _ _ => False) nxR h (sI (sI (sI (sI (sI y 405 34 (hI h 383 41)) 383 53 0) 383 54 0) 383 68 0) 383 57 0) := (((((f2.mn (fun c k z => kb z) (fun _ _ z => z) (fun _ z => z)).s (c := 405) (kb (by omega)) _).s (c := 383) (k := 53) (Or.inr (Or.inr (by omega))) _).s (c := 383) (k := 54) (Or.inr (Or.inr (by omega))) _).s (c := 383) (k := 68) (Or.inr (Or.inr (by omega))) _).s (c := 383) (k := 57) (Or.inr (Or.inr (by omega))) _
      have t43 : hI (sI (sI (sI (sI (sI y 405 34 (hI h 383 41)) 383 53 0) 383 54 0) 383 68 0) 383 57 0) 383 43 = nI n := by
        rw [hI_sI, if_neg (by decide), hI_sI, if_neg (by decide), hI_sI, if_neg (by decide), hI_sI, if_neg (by decide), hI_sI, if_neg (by decide), o2 _ _ (by omega)]; exact e43
      have n5 : ∀ c j, ¬ c = 419 → hI h5 c j = hI (sI (sI (sI (sI (sI y 405 34 (hI h 383 41)) 383 53 0) 383 54 0) 383 68 0) 383 57 0) c j := fun c j hc => f5.2.1 _ _ hc
      rw [t43] at e5
      refine ⟨(nI n, h5), ?_, rfl, f3.t (f5.mn (fun c k z => Or.inr (Or.inl z)) (fun _ _ z => z) (fun _ z => z)), fun i hi => ?_, fun j hj => ?_, ?_, ?_, ?_, ?_, ?_, b5⟩
      · show f_M_market_l174 (fu + 1) (nI 6) y = _
        rw [f_M_market_l174, if_pos (by decide), lt_e, lt_e, lt_e, lt_e, lt_e, o2 383 41 (by omega)]
        exact e5
      · simp only [n5 402 _ (by omega), n5 403 _ (by omega), n5 404 _ (by omega)]
        simp [hI_sI, g2 i hi]
      · simp only [n5 405 _ (by omega)]
        rw [← a2 j (by omega)]
        simp [hI_sI, show ¬ j = 34 by omega]
      · rw [n5 _ _ (by omega)]; simp [hI_sI]
      · rw [n5 _ _ (by omega)]; simp [hI_sI]
      · rw [n5 _ _ (by omega)]; simp [hI_sI]
      · rw [n5 _ _ (by omega)]; simp [hI_sI]
      · rw [n5 _ _ (by omega)]; simp [hI_sI]
  · obtain ⟨f1, g1⟩ := q
    refine ⟨sI z 405 k 0, ?_, f1.s (c := 405) rfl _, fun i hi => ?_⟩
    · show f_M_market_l153 (fu + 1) (nI k) z = f_M_market_l153 fu (nI (k + 1)) _
      rw [f_M_market_l153, if_neg (show ¬ (35 : Int32) ≤ nI k from nI_ge (a := k) (b := 35) hk (by omega)), gx_n _ hk (by omega), ix_n (by omega), lt_e, lt_e, nI_1]
    · rw [hI_sI]
      by_cases e : i = k
      · rw [if_pos ⟨rfl, e⟩]
      · rw [if_neg (fun q => e q.2)]; exact g1 i (by omega)
  · show f_M_market_l153 (fu + 1) (nI 35) z = _
    rw [f_M_market_l153, if_pos (by decide)]
abbrev mmC : Nat → Nat → Prop := fun c k => lwC c k ∨ kmC c k ∨ cpC c k ∨ (c = 383 ∧ (k = 23 ∨ (42 ≤ k ∧ k ≤ 46)))
def MkM (h h1 : AH) (r : Int32) (x : Except (Nat × Nat) DR) : Prop := match x with
  | .ok D => r = nI D.dn.length ∧ MS h1 (mkS D) (nowS D) ∧ (hI h1 383 42 = nI D.kn.length ∧ hI h1 383 23 = nI (D.ch.1 + D.he.1)) ∧ (hI h1 383 53 = 0 ∧ hI h1 383 54 = 0) ∧ hI h1 383 57 = 0 ∧ hI h1 383 68 = 0 ∧ (∀ b, b < 3 → hI h1 419 b = 0) ∧ hI h1 383 1 = 0 ∧ (hI h1 383 2 = 0 ∧ hI h1 383 3 = -1) ∧ FrL mmC lvD nxR h h1
  | .error e => r = -1 ∧ hI h1 383 1 = 0 ∧ (hI h1 383 2 = nI e.1 ∧ hI h1 383 3 = nI e.2) ∧ FrL lwC lvD nxR h h1
theorem marketM {b : Nat → Nat} {L : Nat} {h : AH} (L16 : L ≤ 1600) (e1 : hI h 383 1 = nI L) (hb : ∀ k, k < L → hI h 384 k = nI (b k)) (h256 : ∀ k, k < L → b k < 256) : ∃ r h1, f_M_market h = some (r, h1) ∧ MkM h h1 r (readR b L (L + 1) D0 (lx b L 0)) := by
  obtain ⟨h1, q1, f1, t1, x1⟩ := readM L16 e1 hb h256
  have G := readR_G (b := b) (L := L) (L + 1) D0 (lx b L 0) DG0 (lx_TG (Nat.zero_le _)).1
  rw [f_M_market, q1, bV_s]
  cases q : readR b L (L + 1) D0 (lx b L 0) with
  | error e =>
    rw [q] at x1
    have j : DJ b L h1 e := x1
    rw [if_neg j.v.2]
    exact ⟨-1, h1, rfl, rfl, t1, ⟨j.2.1, j.2.2.2.2⟩, f1⟩
  | ok D =>
    rw [q] at x1
    have g := G D q
    have g6 := g.2.1
    obtain ⟨⟨d1, d2, d3, d4, d5, d6, d7, d8⟩, z2, z3⟩ := x1
    rw [z2, if_pos (Int32.le_refl _), lt_e, lt_e, lt_e, lt_e, lt_e, lt_e, d1.2]
    have F2 : FrL mmC lvD nxR h (sI (sI (sI (sI (sI (sI h1 383 42 (nI D.kn.length)) 383 43 (nI D.dn.length)) 383 44 (nI D.n1)) 383 45 (nI D.n2)) 383 46 (nI D.n3)) 383 23 (nI (D.ch.1 + D.he.1))) := by
      refine ((((((f1.mn (fun c k z => Or.inl z) (fun _ _ z => z) (fun _ z => z)).s (c := 383) (k := 42) ?_ _).s (c := 383) (k := 43) ?_ _).s (c := 383) (k := 44) ?_ _).s (c := 383) (k := 45) ?_ _).s (c := 383) (k := 46) ?_ _).s (c := 383) (k := 23) ?_ _
      all_goals exact Or.inr (Or.inr (Or.inr (by omega)))
    have eq : (sI (sI (sI (sI (sI (sI h1 383 42 (nI D.kn.length)) 383 43 (hI (sI h1 383 42 (nI D.kn.length)) 383 37)) 383 44 (hI (sI (sI h1 383 42 (nI D.kn.length)) 383 43 (hI (sI h1 383 42 (nI D.kn.length)) 383 37)) 383 38)) 383 45 (hI (sI (sI (sI h1 383 42 (nI D.kn.length)) 383 43 (hI (sI h1 383 42 (nI D.kn.length)) 383 37)) 383 44 (hI (sI (sI h1 383 42 (nI D.kn.length)) 383 43 (hI (sI h1 383 42 (nI D.kn.length)) 383 37)) 383 38)) 383 39)) 383 46 (hI (sI (sI (sI (sI h1 383 42 (nI D.kn.length)) 383 43 (hI (sI h1 383 42 (nI D.kn.length)) 383 37)) 383 44 (hI (sI (sI h1 383 42 (nI D.kn.length)) 383 43 (hI (sI h1 383 42 (nI D.kn.length)) 383 37)) 383 38)) 383 45 (hI (sI (sI (sI h1 383 42 (nI D.kn.length)) 383 43 (hI (sI h1 383 42 (nI D.kn.length)) 383 37)) 383 44 (hI (sI (sI h1 383 42 (nI D.kn.length)) 383 43 (hI (sI h1 383 42 (nI D.kn.length)) 383 37)) 383 38)) 383 39)) 383 40)) 383 23 (hI (sI (sI (sI (sI (sI h1 383 42 (nI D.kn.length)) 383 43 (hI (sI h1 383 42 (nI D.kn.length)) 383 37)) 383 44 (hI (sI (sI h1 383 42 (nI D.kn.length)) 383 43 (hI (sI h1 383 42 (nI D.kn.length)) 383 37)) 383 38)) 383 45 (hI (sI (sI (sI h1 383 42 (nI D.kn.length)) 383 43 (hI (sI h1 383 42 (nI D.kn.length)) 383 37)) 383 44 (hI (sI (sI h1 383 42 (nI D.kn.length)) 383 43 (hI (sI h1 383 42 (nI D.kn.length)) 383 37)) 383 38)) 383 39)) 383 46 (hI (sI (sI (sI (sI h1 383 42 (nI D.kn.length)) 383 43 (hI (sI h1 383 42 (nI D.kn.length)) 383 37)) 383 44 (hI (sI (sI h1 383 42 (nI D.kn.length)) 383 43 (hI (sI h1 383 42 (nI D.kn.length)) 383 37)) 383 38)) 383 45 (hI (sI (sI (sI h1 383 42 (nI D.kn.length)) 383 43 (hI (sI h1 383 42 (nI D.kn.length)) 383 37)) 383 44 (hI (sI (sI h1 383 42 (nI D.kn.length)) 383 43 (hI (sI h1 383 42 (nI D.kn.length)) 383 37)) 383 38)) 383 39)) 383 40)) 383 22)) = sI (sI (sI (sI (sI (sI h1 383 42 (nI D.kn.length)) 383 43 (nI D.dn.length)) 383 44 (nI D.n1)) 383 45 (nI D.n2)) 383 46 (nI D.n3)) 383 23 (nI (D.ch.1 + D.he.1)) := by
      simp only [hI_sI]
      simp [d2.2, d7.1, d7.2.1, d7.2.2.1, show hI h1 383 22 = nI (D.ch.1 + D.he.1) from d6]
    rw [eq]
    have v : ∀ k, hI (sI (sI (sI (sI (sI (sI h1 383 42 (nI D.kn.length)) 383 43 (nI D.dn.length)) 383 44 (nI D.n1)) 383 45 (nI D.n2)) 383 46 (nI D.n3)) 383 23 (nI (D.ch.1 + D.he.1))) 383 k = if k = 23 then nI (D.ch.1 + D.he.1) else if k = 46 then nI D.n3 else if k = 45 then nI D.n2 else if k = 44 then nI D.n1 else if k = 43 then nI D.dn.length else if k = 42 then nI D.kn.length else hI h1 383 k := fun k => by
      simp only [hI_sI, true_and]
    have o : ∀ c k, ¬ c = 383 → hI (sI (sI (sI (sI (sI (sI h1 383 42 (nI D.kn.length)) 383 43 (nI D.dn.length)) 383 44 (nI D.n1)) 383 45 (nI D.n2)) 383 46 (nI D.n3)) 383 23 (nI (D.ch.1 + D.he.1))) c k = hI h1 c k := fun c k hc => by
      simp only [hI_sI, if_neg (show ¬ (c = 383 ∧ k = 23) from fun z => hc z.1), if_neg (show ¬ (c = 383 ∧ k = 46) from fun z => hc z.1), if_neg (show ¬ (c = 383 ∧ k = 45) from fun z => hc z.1), if_neg (show ¬ (c = 383 ∧ k = 44) from fun z => hc z.1), if_neg (show ¬ (c = 383 ∧ k = 43) from fun z => hc z.1), if_neg (show ¬ (c = 383 ∧ k = 42) from fun z => hc z.1)]
    generalize sI (sI (sI (sI (sI (sI h1 383 42 (nI D.kn.length)) 383 43 (nI D.dn.length)) 383 44 (nI D.n1)) 383 45 (nI D.n2)) 383 46 (nI D.n3)) 383 23 (nI (D.ch.1 + D.he.1)) = h2 at F2 v o ⊢
    have l0 : D.ch.2.length ≤ 270 := g.2.2.2.2.2.1.2.1
    have l1 : D.he.2.length ≤ 270 := g.2.2.2.2.2.2.1.2.1
    have sel : ∀ (h : AH) (w : Nat) (bt : Bool) (c : List (Nat × Nat)) (u : Nat) (k63 : Int32 → AH → Option (Int32 × AH)), w < 2 → hI h 394 w = fB bt → (bt = false → (u, c) = (0, [])) → (bt = true → NF h w c) → (gx (nI w) 2 <| if hI h 394 (ix (nI w)) = 0 then f_M_market_b92 k63 (nI w) (nI w) 0 h else gx (nI w) 2 <| f_M_market_b92 k63 (nI w) (nI w) (hI h 388 (ix (nI w))) h) = f_M_market_b92 k63 (nI w) (nI w) (nI c.length) h := fun h w bt c u k63 hw e1 e2 e3 => by
      rw [gx_n _ hw (by omega), ix_n (by omega), e1]
      cases bt with
      | false =>
        have e2' := e2 rfl
        injection e2' with _ e2'
        rw [e2', if_pos (by decide)]; rfl
      | true => rw [if_neg (by decide), gx_n _ hw (by omega), (e3 rfl).1]
    have d4' : D.se.testBit 0 = true → NF h2 0 D.ch.2 := fun z => ⟨by rw [o _ _ (by omega)]; exact (d4 z).1, fun k hk => by rw [o _ _ (by omega), o _ _ (by omega)]; exact (d4 z).2 k hk⟩
    have n94 : hI h2 394 0 = fB (D.se.testBit 0) := by rw [o _ _ (by omega)]; exact d8.1
    rw [show FU = 999997 + 1 + 1 + 1 from rfl, f_M_market_l63, if_neg (show ¬ (2 : Int32) ≤ 0 by decide)]
    obtain ⟨h3, e3, f3, w3, -, c3, -⟩ := copyM (w := 0) (n := D.ch.2.length) (by omega) l0 (f_M_market_l63 (999997 + 1 + 1)) h2
    have s0 := sel h2 0 _ D.ch.2 D.ch.1 (f_M_market_l63 (999997 + 1 + 1)) (by omega) n94 g.2.2.2.1 d4'
    rw [show (gx (0 : Int32) 2 <| if hI h2 394 (ix (0 : Int32)) = 0 then f_M_market_b92 (f_M_market_l63 (999997 + 1 + 1)) 0 0 0 h2 else gx (0 : Int32) 2 <| f_M_market_b92 (f_M_market_l63 (999997 + 1 + 1)) 0 0 (hI h2 388 (ix (0 : Int32))) h2) = f_M_market_b92 (f_M_market_l63 (999997 + 1 + 1)) (nI 0) (nI 0) (nI D.ch.2.length) h2 from s0, e3]
    have o3 : ∀ c k, ¬ (c = 389 ∨ c = 390 ∨ c = 391) → hI h3 c k = hI h2 c k := fun c k hc => f3.2.1 _ _ hc
    have d5' : D.se.testBit 1 = true → NF h3 1 D.he.2 := fun z => ⟨by rw [o3 _ _ (by omega), o _ _ (by omega)]; exact (d5 z).1, fun k hk => by rw [o3 _ _ (by omega), o3 _ _ (by omega), o _ _ (by omega), o _ _ (by omega)]; exact (d5 z).2 k hk⟩
    have n941 : hI h3 394 1 = fB (D.se.testBit 1) := by rw [o3 _ _ (by omega), o _ _ (by omega)]; exact d8.2.1
    obtain ⟨h4, e4, f4, w4, k4, c4, p4⟩ := copyM (w := 1) (n := D.he.2.length) (by omega) l1 (f_M_market_l63 (999997 + 1)) h3
    have s1 := sel h3 1 _ D.he.2 D.he.1 (f_M_market_l63 (999997 + 1)) (by omega) n941 g.2.2.2.2.1 d5'
    rw [f_M_market_l63, if_neg (show ¬ (2 : Int32) ≤ nI (0 + 1) by decide)]
    rw [show (gx (nI (0 + 1)) 2 <| if hI h3 394 (ix (nI (0 + 1))) = 0 then f_M_market_b92 (f_M_market_l63 (999997 + 1)) (nI (0 + 1)) (nI (0 + 1)) 0 h3 else gx (nI (0 + 1)) 2 <| f_M_market_b92 (f_M_market_l63 (999997 + 1)) (nI (0 + 1)) (nI (0 + 1)) (hI h3 388 (ix (nI (0 + 1)))) h3) = f_M_market_b92 (f_M_market_l63 (999997 + 1)) (nI 1) (nI 1) (nI D.he.2.length) h3 from s1, e4]
    rw [f_M_market_l63, if_pos (show (2 : Int32) ≤ nI (1 + 1) by decide)]
    have o4 : ∀ c k, ¬ (c = 389 ∨ c = 390 ∨ c = 391) → hI h4 c k = hI h2 c k := fun c k hc => (f4.2.1 _ _ hc).trans (o3 _ _ hc)
    have v4 : ∀ k, hI h4 383 k = hI h2 383 k := fun k => o4 _ _ (by omega)
    obtain ⟨h5, e5, f5, g5, a5, w34, w53, w54, w57, w68, b5⟩ := l153_ok g6 h4 (by rw [v4, v]; simp)
    have i4 : ∀ c k, 396 ≤ c ∧ c ≤ 401 → hI h4 c k = hI h1 c k := fun c k hc => by rw [o4 _ _ (by omega), o _ _ (by omega)]
    have v5 : ∀ k, ¬ (k = 53 ∨ k = 54 ∨ k = 57 ∨ k = 68) → hI h5 383 k = hI h2 383 k := fun k hk => by rw [f5.2.1 _ _ (fun z => by (try dsimp only [kmC] at z); omega), v4]
    have c5 : ∀ c k, c = 389 ∨ c = 390 ∨ c = 391 → hI h5 c k = hI h4 c k := fun c k hc => f5.2.1 _ _ (fun z => by (try dsimp only [kmC] at z); omega)
    have c83 : ∀ c k, 386 ≤ c ∧ c ≤ 388 → hI h3 c k = hI h1 c k := fun c k hc => by rw [o3 _ _ (by omega), o _ _ (by omega)]
    refine ⟨nI D.dn.length, h5, e5, rfl, ⟨⟨⟨?_, g6, fun i hi => ?_⟩, ⟨⟨?_, fun k hk => ?_⟩, g.2.2.2.2.2.1.2⟩, ⟨⟨?_, fun k hk => ?_⟩, g.2.2.2.2.2.2.1.2⟩, ?_, ?_, ?_⟩, fun k hk => ?_⟩, ⟨?_, ?_⟩, ⟨w53, w54⟩, w57, w68, b5, ?_, ⟨?_, ?_⟩, ?_⟩
    · rw [v5 _ (by omega), v]; simp; rfl
    · have hi' : i < D.dn.length := hi
      obtain ⟨k1, k2, k3⟩ := g5 i (by omega)
      refine ⟨?_, ?_, ?_⟩
      · rw [k1, i4 _ _ (by omega)]; exact d3 i 0 hi' (by omega)
      · rw [k2, i4 _ _ (by omega)]; exact d3 i 1 hi' (by omega)
      · rw [k3, i4 _ _ (by omega)]; exact d3 i 5 hi' (by omega)
    · rw [c5 _ _ (by omega), k4 0 (by omega)]; exact w3
    · have hk' : k < D.ch.2.length := hk
      have bt : D.se.testBit 0 = true := by
        cases q0 : D.se.testBit 0 with
        | true => rfl
        | false => have := g.2.2.2.1 q0; rw [this] at hk'; exact absurd hk' (Nat.not_lt_zero _)
      obtain ⟨m1, m2⟩ := p4 (320 * 0 + k) (by omega)
      obtain ⟨m3, m4⟩ := c3 k hk'
      obtain ⟨m5, m6⟩ := (d4' bt).2 k hk'
      rw [c5 _ _ (by omega), c5 _ _ (by omega), m1, m2, m3, m4]
      exact ⟨m5, m6⟩
    · rw [c5 _ _ (by omega)]; exact w4
    · have hk' : k < D.he.2.length := hk
      have bt : D.se.testBit 1 = true := by
        cases q0 : D.se.testBit 1 with
        | true => rfl
        | false => have := g.2.2.2.2.1 q0; rw [this] at hk'; exact absurd hk' (Nat.not_lt_zero _)
      obtain ⟨m3, m4⟩ := c4 k hk'
      obtain ⟨m5, m6⟩ := (d5' bt).2 k hk'
      rw [c5 _ _ (by omega), c5 _ _ (by omega), m3, m4]
      exact ⟨m5, m6⟩
    · rw [v5 _ (by omega), v]; simp; rfl
    · rw [v5 _ (by omega), v]; simp; rfl
    · rw [v5 _ (by omega), v]; simp; rfl
    · by_cases e34 : k = 34
      · rw [e34, w34, now_34 g6, v4, v]; simp; exact d7.2.2.2
      · rw [a5 k (by omega)]
        unfold acc nowS
        by_cases c1 : k < D.dn.length
        · rw [if_pos (by omega), if_pos c1, i4 _ _ (by omega)]; exact d3 k 3 c1 (by omega)
        · rw [if_neg (by omega), if_neg c1]
          by_cases c2 : 6 ≤ k ∧ k - 6 < D.dn.length
          · rw [if_pos (by omega), if_pos c2, i4 _ _ (by omega)]; exact d3 _ 4 c2.2 (by omega)
          · rw [if_neg (by omega), if_neg c2]
            by_cases c3' : 18 ≤ k ∧ k - 18 < D.dn.length
            · rw [if_pos (by omega), if_pos c3', i4 _ _ (by omega)]; exact d3 _ 2 c3'.2 (by omega)
            · rw [if_neg (by omega), if_neg c3', if_neg e34]
    · rw [v5 _ (by omega), v]; simp
    · rw [v5 _ (by omega), v]; simp
    · rw [v5 _ (by omega), v]; simp; exact t1
    · rw [v5 _ (by omega), v]; simp; exact z2
    · rw [v5 _ (by omega), v]; simp; exact z3
    · exact ((F2.t (f3.mn (fun c k z => Or.inr (Or.inr (Or.inl z))) (fun _ _ z => absurd z id) (fun _ z => z))).t (f4.mn (fun c k z => Or.inr (Or.inr (Or.inl z))) (fun _ _ z => absurd z id) (fun _ z => z))).t (f5.mn (fun c k z => Or.inr (Or.inl z)) (fun _ _ z => absurd z id) (fun _ z => z))
