/-! ===== cheapest, gain ===== -/
def byB (M : MT) (Y : YT) (a o : Nat) : Bool := !decide (o = a) && !decide (Y (6 + o) = 0) && decide (priceS M Y a o ≤ Y a)
def oI : Option Nat → Int32
  | none => -1
  | some j => nI j
theorem oI_s {j : Nat} (h : j < 2 ^ 31) : ¬ nI j = -1 := fun q => by
  have := i_eq.mp q
  rw [nI_toInt h] at this
  have e : (-1 : Int32).toInt = -1 := by decide
  omega
theorem oI_p {j : Nat} (h : j < 2 ^ 31) : ¬ nI j < 0 := n_nlt (b := 0) (by omega) h
def chL (M : MT) (Y : YT) (a : Nat) : Nat → Option Nat
  | 0 => none
  | k + 1 => if byB M Y a k = true then (match chL M Y a k with | none => some k | some b => if priceS M Y a k < priceS M Y a b then some k else some b) else chL M Y a k
theorem chL_lt (M : MT) (Y : YT) (a : Nat) : ∀ k b, chL M Y a k = some b → b < k := by
  intro k
  induction k with
  | zero => intro b h; cases h
  | succ k ih =>
    intro b h
    rw [chL] at h
    cases hc : chL M Y a k with
    | none =>
      rw [hc] at h
      by_cases hb : byB M Y a k = true
      · rw [if_pos hb] at h; cases h; omega
      · rw [if_neg hb] at h; cases h
    | some c =>
      have := ih c hc
      rw [hc] at h
      by_cases hb : byB M Y a k = true
      · rw [if_pos hb] at h
        by_cases hp : priceS M Y a k < priceS M Y a c
        · simp only [hp, if_true] at h; cases h; omega
        · simp only [hp, if_false] at h; cases h; omega
      · rw [if_neg hb] at h; cases h; omega
def cheapS (M : MT) (Y : YT) (a : Int32) : Int32 := if hasS (mN M) a = true then oI (chL M Y (ix a) (mN M)) else -1
theorem n_eqv {a b : Nat} (ha : a < 1000) (hb : b < 1000) : (nI a = nI b) ↔ a = b := n_inj (by omega) (by omega)
theorem ld_z {M : MT} {Y : YT} (b : BN M Y) {i : Nat} (hi : i < mN M) : Y (6 + i) ≤ 0 ↔ Y (6 + i) = 0 := by
  have := (b i hi).2.1.1
  rw [i_le, i_eq]
  have e : (0 : Int32).toInt = 0 := by decide
  omega
theorem canBuy_ok {M : MT} {Y : YT} {u : Nat} {h : AH} (s : HS h M Y u) (t : TU M Y h) (b0 : BN M Y) {a o : Nat} (ha : a < mN M) (ho : o < mN M) : f_H_canBuyOne (nI a) (nI o) h = some (if byB M Y a o = true then 1 else 0, h) := by
  have h6 := s.2.2.1.1.2.1
  have ya : hI h 38 a = Y a := (s.2.2.2.1 a ha).1
  have yo : hI h 39 o = Y (6 + o) := (s.2.2.2.1 o ho).2.1
  rw [f_H_canBuyOne]
  unfold byB
  by_cases h1 : o = a
  · subst h1
    rw [if_pos rfl, if_neg (by simp)]
  · rw [if_neg (fun q => h1 ((n_eqv (by omega) (by omega)).mp q)), gx_n _ (show o < 6 by omega) (by omega), ix_n (show o < 2 ^ 31 by omega), yo]
    by_cases h2 : Y (6 + o) = 0
    · rw [if_pos ((ld_z b0 ho).mpr h2), if_neg (by simp [h2])]
    · rw [if_neg (fun q => h2 ((ld_z b0 ho).mp q)), t.half h6 ha ho, bI_s, gx_n _ (show a < 6 by omega) (by omega), ix_n (show a < 2 ^ 31 by omega), ya]
      by_cases h3 : priceS M Y a o ≤ Y a
      · rw [if_neg (Int32.not_lt.mpr h3), if_pos (by simp [h1, h2, h3])]
      · rw [if_pos (Int32.not_le.mp h3), if_neg (by simp [h3])]
theorem H_cheapest_ok {M : MT} {Y : YT} {u : Nat} {h : AH} (s : HS h M Y u) (b0 : BN M Y) (a : Int32) : ∃ h1, f_H_cheapest a h = some (cheapS M Y a, h1) ∧ Fr (scU u) [(51, 1)] h h1 := by
  have h6 := s.2.2.1.1.2.1
  rw [f_H_cheapest, gd_ok _ s.2.1 (kd_u s.1), K_has_ok s.2.2.1, bI_s]
  unfold cheapS
  by_cases hq : hasS (mN M) a = true
  · rw [if_pos hq, if_pos (by decide), if_pos hq, gd_ok _ s.2.1 (kd_u s.1)]
    obtain ⟨a, hi, rfl⟩ := has_ix h6 hq
    obtain ⟨h1, e1, f1, s1, t1⟩ := HT.tn s
    rw [e1, bV_s, ix_n (show a < 2 ^ 31 by omega)]
    refine ⟨h1, ?_, f1⟩
    refine lqc (fun fu k (s : Int32) => f_H_cheapest_l32 (nI a) fu s (nI k) h1) (fun k s => s = oI (chL M Y a k)) (fun s => some (s, h1)) (mN M) (by omega) (-1) rfl (fun r e q => ?_) (fun k fu s hk p => ⟨_, ?_, rfl⟩) (fun fu s p => ?_)
    · have q := q
      rw [← q]; exact e
    · subst p
      show f_H_cheapest_l32 (nI a) (fu + 1) (oI (chL M Y a k)) (nI k) h1 = f_H_cheapest_l32 (nI a) fu (oI (chL M Y a (k + 1))) (nI (k + 1)) h1
      rw [f_H_cheapest_l32, gd_ok _ s1.2.1 (kd_u s1.1), s1.2.2.1.1.1, if_neg (nI_ge hk (by omega)), canBuy_ok s1 t1 b0 hi hk, bI_s]
      simp only [lt_e, nI_1]
      rw [chL]
      by_cases hb : byB M Y a k = true
      · rw [if_pos hb, if_neg (by decide), if_pos hb]
        cases hc : chL M Y a k with
        | none =>
          rw [if_pos (show oI none = -1 from rfl)]
          rfl
        | some c =>
          have hcl := chL_lt M Y a k c hc
          rw [if_neg (show ¬ oI (some c) = -1 from oI_s (by omega))]
          show bI (f_Choir_half (nI a) (nI k) h1) _ = _
          rw [t1.half h6 hi hk, bI_s]
          show bI (f_Choir_half (nI a) (nI c) h1) _ = _
          rw [t1.half h6 hi (by omega), bI_s]
          by_cases hp : priceS M Y a k < priceS M Y a c
          · rw [if_neg (Int32.not_le.mpr hp)]
            simp only [hp, if_true]
            rfl
          · rw [if_pos (Int32.not_lt.mp hp)]
            simp only [hp, if_false]
      · rw [if_neg hb, if_pos rfl, if_neg hb]
    · subst p
      show f_H_cheapest_l32 (nI a) (fu + 1) (oI (chL M Y a (mN M))) (nI (mN M)) h1 = _
      rw [f_H_cheapest_l32, gd_ok _ s1.2.1 (kd_u s1.1), s1.2.2.1.1.1, if_pos (nI_le (by omega) (by omega))]
  · rw [if_neg hq, if_neg (by decide), if_neg hq]
    exact ⟨h, rfl, Fr.rf _ _ _⟩
theorem M_cheapest_ok {M : MT} {Y : YT} {h : AH} (s : MS h M Y) (a : Int32) : ∃ h1, f_M_cheapest a h = some (cheapS M Y a, h1) ∧ Fr sca [] h h1 := by
  have h6 := s.1.1.2.1
  rw [f_M_cheapest, M_isDealer_ok s.1, bI_s]
  unfold cheapS
  by_cases hq : hasS (mN M) a = true
  · rw [if_pos hq, if_pos (by decide), if_pos hq]
    obtain ⟨a, hi, rfl⟩ := has_ix h6 hq
    obtain ⟨h1, e1, p1⟩ := PA.ld s
    rw [e1, bV_s, ix_n (show a < 2 ^ 31 by omega)]
    refine lqc (fun fu k (s : Int32 × AH) => f_M_cheapest_l18 (nI a) fu s.1 (nI k) s.2) (fun k s => s.1 = oI (chL M Y a k) ∧ PA M Y h s.2) (fun s => some s) (mN M) (by omega) (-1, h1) ⟨rfl, p1⟩ (fun r e q => ?_) (fun k fu s hk p => ?_) (fun fu s p => ?_)
    · obtain ⟨q1, q2⟩ := q
      exact ⟨r.2, by rw [← q1]; exact e, q2.1⟩
    · obtain ⟨x, z⟩ := s
      obtain ⟨rfl, p2⟩ := p
      have e6 : (6 : Int32) + nI k = nI (6 + k) := n_add 6 k
      obtain ⟨h2, e2, p3⟩ := p2.pr hi hk
      obtain ⟨h3, e3, p4⟩ := p3.pr hi hk
      have ga : ∀ K : Option (Int32 × AH), gx (nI a) 35 K = K := fun K => gx_n K (by omega) (by omega)
      have er : ∀ x, f_M_cheapest_l18 (nI a) (fu + 1) x (nI k) z = if byB M Y a k = true then (if x < 0 then f_M_cheapest_l18 (nI a) fu (nI k) (nI (k + 1)) h2 else bI (f_M_priceOf (nI a) x h3) fun rq10 hq11 => if rq10 ≤ priceS M Y a k then f_M_cheapest_l18 (nI a) fu x (nI (k + 1)) hq11 else f_M_cheapest_l18 (nI a) fu (nI k) (nI (k + 1)) hq11) else (if k = a ∨ Y (6 + k) = 0 then f_M_cheapest_l18 (nI a) fu x (nI (k + 1)) z else f_M_cheapest_l18 (nI a) fu x (nI (k + 1)) h2) := by
        intro x
        rw [f_M_cheapest_l18, p2.2.1.1.1, if_neg (nI_ge hk (by omega)), e6, gx_n _ (show 6 + k < 35 by omega) (by omega), ix_n (show 6 + k < 2 ^ 31 by omega), ix_n (show a < 2 ^ 31 by omega), p2.2.2 (6 + k) (by omega), e2, bI_s, ga, p3.2.2 a (by omega), e3, bI_s]
        simp only [lt_e, nI_1]
        unfold byB
        by_cases h1 : k = a
        · subst h1
          rw [if_pos rfl, if_neg (by simp), if_pos (Or.inl rfl)]
        · rw [if_neg (fun q => h1 ((n_eqv (by omega) (by omega)).mp q))]
          by_cases h2 : Y (6 + k) = 0
          · rw [if_pos h2, if_neg (by simp [h2]), if_pos (Or.inr h2)]
          · rw [if_neg h2]
            by_cases h3 : priceS M Y a k ≤ Y a
            · rw [if_pos h3, if_pos (show (!decide (k = a) && !decide (Y (6 + k) = 0) && decide (priceS M Y a k ≤ Y a)) = true by simp [h1, h2, h3])]
            · rw [if_neg h3, if_neg (show ¬ (!decide (k = a) && !decide (Y (6 + k) = 0) && decide (priceS M Y a k ≤ Y a)) = true by simp [h3]), if_neg (fun q => q.elim h1 h2)]
      show ∃ s' : Int32 × AH, f_M_cheapest_l18 (nI a) (fu + 1) (oI (chL M Y a k)) (nI k) z = f_M_cheapest_l18 (nI a) fu s'.1 (nI (k + 1)) s'.2 ∧ s'.1 = oI (chL M Y a (k + 1)) ∧ PA M Y h s'.2
      rw [er, chL]
      by_cases hb : byB M Y a k = true
      · rw [if_pos hb, if_pos hb]
        cases hc : chL M Y a k with
        | none =>
          rw [if_pos (show oI none < 0 by decide)]
          exact ⟨(nI k, h2), rfl, rfl, p3⟩
        | some c =>
          have hcl := chL_lt M Y a k c hc
          rw [if_neg (show ¬ oI (some c) < 0 from oI_p (by omega))]
          obtain ⟨h4, e4, p5⟩ := p4.pr hi (show c < mN M by omega)
          show ∃ s' : Int32 × AH, (bI (f_M_priceOf (nI a) (nI c) h3) fun rq10 hq11 => if rq10 ≤ priceS M Y a k then f_M_cheapest_l18 (nI a) fu (nI c) (nI (k + 1)) hq11 else f_M_cheapest_l18 (nI a) fu (nI k) (nI (k + 1)) hq11) = f_M_cheapest_l18 (nI a) fu s'.1 (nI (k + 1)) s'.2 ∧ s'.1 = oI (if priceS M Y a k < priceS M Y a c then some k else some c) ∧ PA M Y h s'.2
          rw [e4, bI_s]
          by_cases hp : priceS M Y a k < priceS M Y a c
          · rw [if_neg (Int32.not_le.mpr hp), if_pos hp]
            exact ⟨(nI k, h4), rfl, rfl, p5⟩
          · rw [if_pos (Int32.not_lt.mp hp), if_neg hp]
            exact ⟨(nI c, h4), rfl, rfl, p5⟩
      · rw [if_neg hb, if_neg hb]
        by_cases hk2 : k = a ∨ Y (6 + k) = 0
        · rw [if_pos hk2]
          exact ⟨(_, z), rfl, rfl, p2⟩
        · rw [if_neg hk2]
          exact ⟨(_, h2), rfl, rfl, p3⟩
    · obtain ⟨x, z⟩ := s
      obtain ⟨rfl, p2⟩ := p
      show f_M_cheapest_l18 (nI a) (fu + 1) (oI (chL M Y a (mN M))) (nI (mN M)) z = _
      rw [f_M_cheapest_l18, p2.2.1.1.1, if_pos (nI_le (by omega) (by omega))]
  · rw [if_neg hq, if_neg (by decide), if_neg hq]
    exact ⟨h, rfl, Fr.rf _ _ _⟩
