/-! ===== acts, the reference's ===== -/
abbrev MX (h : AH) (M : MT) (Y : YT) (W : Nat → YT) (A U : Nat) : Prop := MS h M Y ∧ AMs h W A U ∧ A + U ≤ 40
theorem AMs.fr {S : List Nat} {P : List (Nat × Nat)} {h h1 : AH} {W : Nat → YT} {A U : Nat} (a : AMs h W A U) (f : Fr S P h h1) (b : 383 ∉ S ∧ 407 ∉ S) (c : (383, 53) ∉ P ∧ (383, 54) ∉ P ∧ ∀ q ∈ P, q.1 ≠ 407) : AMs h1 W A U := ⟨by rw [f.i _ _ b.1 c.1]; exact a.1, by rw [f.i _ _ b.1 c.2.1]; exact a.2.1, fun i k hi hk => by rw [f.i _ _ b.2 (fun q => c.2.2 _ q rfl)]; exact a.2.2 i k hi hk⟩
theorem MX.q {h h1 : AH} {M : MT} {Y : YT} {W : Nat → YT} {A U : Nat} (x : MX h M Y W A U) (f : Fr sca [] h h1) : MX h1 M Y W A U := ⟨x.1.fr f, x.2.1.fr f (by simp) (by simp), x.2.2⟩
theorem n35 {a : Nat} (ha : a < 1000) (k : Nat) : (35 : Int32) * nI a + nI k = nI (35 * a + k) := by
  rw [show (35 : Int32) = nI 35 from rfl, n_ml (by omega) (by omega) (by omega), n_add]
theorem M_act49 {h : AH} {Y : YT} {W : Nat → YT} {A U : Nat} (hA : A < 40) (a : AMs h W A U) (y : ∀ k, k < 35 → hI h 405 k = Y k) : ∃ h1, f_M_act_b49 h = some h1 ∧ Fr [407] [(383, 53), (383, 54)] h h1 ∧ AMs h1 (fun i => if i = A then Y else W i) (A + 1) 0 := by
  obtain ⟨a1, a2, a3⟩ := a
  rw [f_M_act_b49]
  refine lpc (fun fu k (z : AH) => f_M_act_l51 fu (nI k) z) (fun k z => Fr [407] [] h z ∧ (∀ x, x < k → hI z 407 (35 * A + x) = Y x) ∧ ∀ p, (p < 35 * A ∨ 35 * A + 35 ≤ p) → hI z 407 p = hI h 407 p) (fun z => Fr [407] [(383, 53), (383, 54)] h z ∧ AMs z (fun i => if i = A then Y else W i) (A + 1) 0) 35 (by omega) h ⟨Fr.rf _ _ _, fun x hx => by omega, fun p hp => rfl⟩ (fun z e q => ⟨z, e, q⟩) (fun k fu z hk q => Or.inl ?_) (fun fu z q => ?_)
  · obtain ⟨f1, g1, o1⟩ := q
    refine ⟨sI z 407 (35 * A + k) (Y k), ?_, f1.s (by simp) _ _, fun x hx => ?_, fun p hp => ?_⟩
    · show f_M_act_l51 (fu + 1) (nI k) z = f_M_act_l51 fu (nI (k + 1)) (sI z 407 (35 * A + k) (Y k))
      rw [f_M_act_l51, if_neg (show ¬ (35 : Int32) ≤ nI k from nI_ge (a := k) (b := 35) hk (by omega)), f1.i 383 53 (by simp) (by simp), a1, n35 (by omega), gx_n _ (show k < 35 by omega) (by omega), gx_n _ (show 35 * A + k < 1400 by omega) (by omega), ix_n (show 35 * A + k < 2 ^ 31 by omega), ix_n (show k < 2 ^ 31 by omega), f1.i 405 k (by simp) (by simp), y k hk, lt_e, lt_e, nI_1]
    · rw [hI_sI]
      by_cases e : x = k
      · rw [if_pos ⟨rfl, by rw [e]⟩, e]
      · rw [if_neg (fun q => e (by have := q.2; omega))]; exact g1 x (by omega)
    · rw [hI_sI, if_neg (fun q => by have := q.2; omega)]; exact o1 p hp
  · obtain ⟨f1, g1, o1⟩ := q
    refine ⟨sI (sI z 383 53 (nI (A + 1))) 383 54 0, ?_, ((f1.mn (by simp) (by simp)).p (by simp) _).p (by simp) _, ?_, hI_sI_s _ _ _ _, fun i k hi hk => ?_⟩
    · show f_M_act_l51 (fu + 1) (nI 35) z = _
      rw [f_M_act_l51, if_pos (by decide), f1.i 383 53 (by simp) (by simp), a1, nI_1, lt_e, lt_e]
    · rw [hI_sI, if_neg (by decide), hI_sI_s]
    · rw [hI_sI_c _ _ _ _ _ (by decide), hI_sI_c _ _ _ _ _ (by decide)]
      show _ = (if i = A then Y else W i) k
      by_cases e : i = A
      · rw [if_pos e, e]; exact g1 k hk
      · rw [if_neg e, o1 _ (by omega)]; exact a3 i k (by omega) hk
theorem M_act_ok {h : AH} {Y : YT} {W : Nat → YT} {A U : Nat} (hA : A + U ≤ 40) (a : AMs h W A U) (y : ∀ k, k < 35 → hI h 405 k = Y k) : ∃ h1, f_M_act h = some h1 ∧ Fr [407] [(383, 53), (383, 54)] h h1 ∧ AMs h1 (kpW W A Y) (kpA A) 0 := by
  rw [f_M_act, a.1]
  unfold kpW kpA
  by_cases e : A = 40
  · subst e
    rw [if_neg (fun q => q rfl), if_pos rfl, if_pos rfl]
    obtain ⟨a1, a2, a3⟩ := a
    refine lqc (fun fu k (z : AH) => f_M_act_l11 fu (nI k) z) (fun k z => Fr [407] [] h z ∧ (∀ x, x < k → hI z 407 x = hI h 407 (35 + x)) ∧ ∀ x, k ≤ x → hI z 407 x = hI h 407 x) (fun z => f_M_act_b49 (sI z 383 53 (nI 39))) 1365 (by omega) h ⟨Fr.rf _ _ _, fun x hx => by omega, fun x hx => rfl⟩ (fun z e q => ?_) (fun k fu z hk q => ?_) (fun fu z q => ?_)
    · obtain ⟨f1, g1, o1⟩ := q
      have hU : U = 0 := by omega
      have m2 : AMs (sI z 383 53 (nI 39)) (fun i => W (i + 1)) 39 0 := ⟨hI_sI_s _ _ _ _, by rw [hI_sI, if_neg (by decide), f1.i _ _ (by simp) (by simp), a2, hU], fun i k hi hk => by
        rw [hI_sI_c _ _ _ _ _ (by decide), g1 _ (by omega), show 35 + (35 * i + k) = 35 * (i + 1) + k by omega]
        exact a3 (i + 1) k (by omega) hk⟩
      obtain ⟨h2, e2, f2, a2'⟩ := M_act49 (Y := Y) (by omega) m2 (fun k hk => by rw [hI_sI_c _ _ _ _ _ (by decide), f1.i _ _ (by simp) (by simp)]; exact y k hk)
      refine ⟨h2, e.trans e2, ((f1.mn (by simp) (by simp)).p (by simp) _).t f2, a2'⟩
    · obtain ⟨f1, g1, o1⟩ := q
      refine ⟨sI z 407 k (hI h 407 (35 + k)), ?_, f1.s (by simp) _ _, fun x hx => ?_, fun x hx => ?_⟩
      · show f_M_act_l11 (fu + 1) (nI k) z = f_M_act_l11 fu (nI (k + 1)) (sI z 407 k (hI h 407 (35 + k)))
        rw [f_M_act_l11, if_neg (show ¬ (1365 : Int32) ≤ nI k from nI_ge (a := k) (b := 1365) hk (by omega)), show (35 : Int32) + nI k = nI (35 + k) from n_add 35 k, gx_n _ (show 35 + k < 1400 by omega) (by omega), gx_n _ (show k < 1400 by omega) (by omega), ix_n (show 35 + k < 2 ^ 31 by omega), ix_n (show k < 2 ^ 31 by omega), o1 _ (by omega), lt_e, lt_e, nI_1]
      · rw [hI_sI]
        by_cases e : x = k
        · rw [if_pos ⟨rfl, e⟩, e]
        · rw [if_neg (fun q => e q.2)]; exact g1 x (by omega)
      · rw [hI_sI, if_neg (fun q => by have := q.2; omega)]; exact o1 x (by omega)
    · obtain ⟨f1, g1, o1⟩ := q
      show f_M_act_l11 (fu + 1) (nI 1365) z = _
      rw [f_M_act_l11, if_pos (by decide), f1.i 383 53 (by simp) (by simp), a1, lt_e]
      rfl
  · rw [if_pos (show ¬ nI A = 40 from fun q => e ((n_eqv (b := 40) (by omega) (by omega)).mp q)), if_neg e, if_neg e]
    exact M_act49 (by omega) a y
theorem exch_ok {h : AH} {i : Nat} (hi : i < 40) : ∃ h1, f_M_exchange (nI (35 * i)) h = some h1 ∧ Fr [405, 407] [] h h1 ∧ (∀ k, k < 35 → hI h1 405 k = hI h 407 (35 * i + k) ∧ hI h1 407 (35 * i + k) = hI h 405 k) ∧ ∀ p, (p < 35 * i ∨ 35 * i + 35 ≤ p) → hI h1 407 p = hI h 407 p := by
  rw [f_M_exchange]
  refine lqc (fun fu k (z : AH) => f_M_exchange_l2 (nI (35 * i)) fu (nI k) z) (fun k z => Fr [405, 407] [] h z ∧ (∀ x, x < k → hI z 405 x = hI h 407 (35 * i + x) ∧ hI z 407 (35 * i + x) = hI h 405 x) ∧ (∀ x, k ≤ x → x < 35 → hI z 405 x = hI h 405 x ∧ hI z 407 (35 * i + x) = hI h 407 (35 * i + x)) ∧ ∀ p, (p < 35 * i ∨ 35 * i + 35 ≤ p) → hI z 407 p = hI h 407 p) (fun z => some z) 35 (by omega) h ⟨Fr.rf _ _ _, fun x hx => by omega, fun x hx _ => ⟨rfl, rfl⟩, fun p hp => rfl⟩ (fun z e q => ⟨z, e, q.1, q.2.1, q.2.2.2⟩) (fun k fu z hk q => ?_) (fun fu z q => ?_)
  · obtain ⟨f1, g1, o1, p1⟩ := q
    obtain ⟨ok1, ok2⟩ := o1 k (Nat.le_refl _) hk
    have ea : nI (35 * i) + nI k = nI (35 * i + k) := n_add _ _
    have w5 : ∀ x, hI (sI (sI z 407 (35 * i + k) (hI h 405 k)) 405 k (hI h 407 (35 * i + k))) 405 x = if x = k then hI h 407 (35 * i + k) else hI z 405 x := fun x => by
      rw [hI_sI, hI_sI_c _ _ _ _ 405 (by decide)]
      by_cases e : x = k
      · rw [if_pos ⟨rfl, e⟩, if_pos e]
      · rw [if_neg (fun q => e q.2), if_neg e]
    have w7 : ∀ p, hI (sI (sI z 407 (35 * i + k) (hI h 405 k)) 405 k (hI h 407 (35 * i + k))) 407 p = if p = 35 * i + k then hI h 405 k else hI z 407 p := fun p => by
      rw [hI_sI_c _ _ _ _ 407 (by decide), hI_sI]
      by_cases e : p = 35 * i + k
      · rw [if_pos ⟨rfl, e⟩, if_pos e]
      · rw [if_neg (fun q => e q.2), if_neg e]
    refine ⟨sI (sI z 407 (35 * i + k) (hI h 405 k)) 405 k (hI h 407 (35 * i + k)), ?_, (f1.s (by simp) _ _).s (by simp) _ _, fun x hx => ?_, fun x hx hx' => ?_, fun p hp => ?_⟩
    · show f_M_exchange_l2 (nI (35 * i)) (fu + 1) (nI k) z = f_M_exchange_l2 (nI (35 * i)) fu (nI (k + 1)) _
      rw [f_M_exchange_l2, if_neg (show ¬ (35 : Int32) ≤ nI k from nI_ge (a := k) (b := 35) hk (by omega)), ea, gx_n _ (show 35 * i + k < 1400 by omega) (by omega), lt_e, gx_n _ (show k < 35 by omega) (by omega), gx_n _ (show 35 * i + k < 1400 by omega) (by omega), ix_n (show 35 * i + k < 2 ^ 31 by omega), ix_n (show k < 2 ^ 31 by omega), ok1, ok2, lt_e, gx_n _ (show k < 35 by omega) (by omega), lt_e, lt_e, nI_1]
    · rw [w5, w7]
      by_cases e : x = k
      · rw [if_pos e, if_pos (by rw [e]), e]; exact ⟨rfl, rfl⟩
      · rw [if_neg e, if_neg (by omega)]; exact g1 x (by omega)
    · rw [w5, w7, if_neg (by omega), if_neg (by omega)]
      exact o1 x (by omega) hx'
    · rw [w7, if_neg (by omega)]; exact p1 p hp
  · show f_M_exchange_l2 (nI (35 * i)) (fu + 1) (nI 35) z = _
    rw [f_M_exchange_l2, if_pos (by decide)]
abbrev scB : List Nat := [393, 395, 405, 406, 407]
abbrev plB : List (Nat × Nat) := [(383, 53), (383, 54)]
theorem M_undo_ok {h : AH} {M : MT} {Y : YT} {W : Nat → YT} {A U : Nat} (x : MX h M Y W A U) : ∃ h1 r, f_M_undo h = some (r, h1) ∧ Fr scB plB h h1 ∧ ((A = 0 ∧ r = 0 ∧ MX h1 M Y W A U) ∨ (0 < A ∧ r = 1 ∧ MX h1 M (W (A - 1)) (fun i => if i = A - 1 then Y else W i) (A - 1) (U + 1))) := by
  have xx := x
  obtain ⟨s, ⟨a1, a2, a3⟩, a4⟩ := x
  rw [f_M_undo, a1]
  by_cases h0 : A = 0
  · subst h0
    rw [if_neg (fun q => q rfl)]
    exact ⟨h, 0, rfl, Fr.rf _ _ _, Or.inl ⟨rfl, rfl, xx⟩⟩
  · obtain ⟨B, rfl⟩ : ∃ B, A = B + 1 := ⟨A - 1, by omega⟩
    rw [if_pos (fun q => by have := (n_z (by omega)).mp q; omega), nI_s1, lt_e, show hI (sI h 383 53 (nI B)) 383 54 = nI U by rw [hI_sI, if_neg (by decide), a2], nI_1, lt_e]
    have u1 : hI (sI (sI h 383 53 (nI B)) 383 54 (nI (U + 1))) 383 53 = nI B := by rw [hI_sI, if_neg (by decide), hI_sI_s]
    have u2 : hI (sI (sI h 383 53 (nI B)) 383 54 (nI (U + 1))) 383 54 = nI (U + 1) := hI_sI_s _ _ _ _
    have f1 : Fr [] plB h (sI (sI h 383 53 (nI B)) 383 54 (nI (U + 1))) := ((Fr.rf _ _ _).p (by simp) _).p (by simp) _
    generalize sI (sI h 383 53 (nI B)) 383 54 (nI (U + 1)) = h2 at u1 u2 f1 ⊢
    obtain ⟨h3, e3, f3, g3, o3⟩ := exch_ok (h := h2) (show B < 40 by omega)
    rw [u1, show (35 : Int32) * nI B = nI (35 * B) from n_ml (a := 35) (by omega) (by omega) (by omega), e3, bV_s]
    have v4 : ∀ k, hI h2 407 k = hI h 407 k := fun k => f1.i _ _ (by simp) (by simp)
    have v5 : ∀ k, hI h2 405 k = hI h 405 k := fun k => f1.i _ _ (by simp) (by simp)
    refine ⟨h3, 1, rfl, (f1.mn (by simp) (by simp)).t (f3.mn (by simp) (by simp)), Or.inr ⟨by omega, rfl, ⟨(s.1.fr f1 (by simp) (by simp)).fr f3 (by simp) (by simp), fun k hk => ?_⟩, ⟨by rw [f3.i _ _ (by simp) (by simp)]; exact u1, by rw [f3.i _ _ (by simp) (by simp)]; exact u2, fun i k hi hk => ?_⟩, by omega⟩⟩
    · rw [(g3 k hk).1, v4]; exact a3 B k (by omega) hk
    · show _ = (if i = B then Y else W i) k
      by_cases e : i = B
      · rw [if_pos e, e, (g3 k hk).2, v5]; exact s.2 k hk
      · rw [if_neg e, o3 _ (by omega), v4]; exact a3 i k (by omega) hk
theorem M_redo_ok {h : AH} {M : MT} {Y : YT} {W : Nat → YT} {A U : Nat} (x : MX h M Y W A U) : ∃ h1 r, f_M_redo h = some (r, h1) ∧ Fr scB plB h h1 ∧ ((U = 0 ∧ r = 0 ∧ MX h1 M Y W A U) ∨ (0 < U ∧ r = 1 ∧ MX h1 M (W A) (fun i => if i = A then Y else W i) (A + 1) (U - 1))) := by
  have xx := x
  obtain ⟨s, ⟨a1, a2, a3⟩, a4⟩ := x
  rw [f_M_redo, a2, a1]
  by_cases h0 : U = 0
  · subst h0
    rw [if_neg (fun q => q rfl)]
    exact ⟨h, 0, rfl, Fr.rf _ _ _, Or.inl ⟨rfl, rfl, xx⟩⟩
  · obtain ⟨B, rfl⟩ : ∃ B, U = B + 1 := ⟨U - 1, by omega⟩
    obtain ⟨h3, e3, f3, g3, o3⟩ := exch_ok (h := h) (show A < 40 by omega)
    rw [if_pos (fun q => by have := (n_z (by omega)).mp q; omega), show (35 : Int32) * nI A = nI (35 * A) from n_ml (a := 35) (by omega) (by omega) (by omega), e3, bV_s, f3.i 383 53 (by simp) (by simp), a1, nI_1, lt_e, show hI (sI h3 383 53 (nI (A + 1))) 383 54 = nI (B + 1) by rw [hI_sI, if_neg (by decide), f3.i _ _ (by simp) (by simp), a2], nI_s1, lt_e]
    have f4 : Fr [] plB h3 (sI (sI h3 383 53 (nI (A + 1))) 383 54 (nI B)) := ((Fr.rf _ _ _).p (by simp) _).p (by simp) _
    refine ⟨_, 1, rfl, (f3.mn (by simp) (by simp)).t (f4.mn (by simp) (by simp)), Or.inr ⟨by omega, rfl, ⟨(s.1.fr f3 (by simp) (by simp)).fr f4 (by simp) (by simp), fun k hk => ?_⟩, ⟨by rw [hI_sI, if_neg (by decide), hI_sI_s], by rw [hI_sI_s]; rfl, fun i k hi hk => ?_⟩, by omega⟩⟩
    · rw [f4.i _ _ (by simp) (by simp), (g3 k hk).1]; exact a3 A k (by omega) hk
    · rw [f4.i _ _ (by simp) (by simp)]
      show _ = (if i = A then Y else W i) k
      by_cases e : i = A
      · rw [if_pos e, e, (g3 k hk).2]; exact s.2 k hk
      · rw [if_neg e, o3 _ (by omega)]; exact a3 i k (by omega) hk
theorem MX.act {h : AH} {M : MT} {Y : YT} {W : Nat → YT} {A U : Nat} (x : MX h M Y W A U) : ∃ h1, f_M_act h = some h1 ∧ Fr scB plB h h1 ∧ MS h1 M Y ∧ AMs h1 (kpW W A Y) (kpA A) 0 ∧ kpA A + 0 ≤ 40 := by
  obtain ⟨h1, e1, f1, a1⟩ := M_act_ok x.2.2 x.2.1 x.1.2
  have := x.2.2
  exact ⟨h1, e1, f1.mn (by simp) (by simp), ⟨x.1.1.fr f1 (by simp) (by simp), fun k hk => by rw [f1.i _ _ (by simp) (by simp)]; exact x.1.2 k hk⟩, a1, by unfold kpA; split <;> omega⟩
theorem MS.now {h : AH} {M : MT} {Y : YT} (s : MS h M Y) (k : Nat) (v : Int32) : MS (sI h 405 k v) M (upd Y k v) := ⟨s.1.fr ((Fr.rf [405] [] h).s (by simp) _ _) (by simp) (by simp), fun j hj => by
  rw [hI_sI, upd_a]
  by_cases e : j = k
  · rw [if_pos ⟨rfl, e⟩, if_pos e]
  · rw [if_neg (fun q => e q.2), if_neg e]; exact s.2 j hj⟩
theorem AMs.now {h : AH} {W : Nat → YT} {A U : Nat} (a : AMs h W A U) (k : Nat) (v : Int32) : AMs (sI h 405 k v) W A U := a.fr ((Fr.rf [405] [] h).s (by simp) _ _) (by simp) (by simp)
theorem M_hour_ok {h : AH} {M : MT} {Y : YT} {W : Nat → YT} {A U : Nat} (x : MX h M Y W A U) : ∃ h1 r, f_M_hour h = some (r, h1) ∧ Fr scB plB h h1 ∧ ((hrP Y ∧ r = heatS M (hourS M Y) ∧ MX h1 M (hourS M Y) (kpW W A Y) (kpA A) 0) ∨ (¬ hrP Y ∧ r = -1 ∧ MX h1 M Y W A U)) := by
  have go : ∃ h1, f_M_hour_b27 h = some (heatS M (hourS M Y), h1) ∧ Fr scB plB h h1 ∧ MX h1 M (hourS M Y) (kpW W A Y) (kpA A) 0 := by
    obtain ⟨h1, e1, f1, s1, a1, a1'⟩ := x.act
    obtain ⟨h2, e2, p2⟩ := PA.ld s1
    obtain ⟨h3, e3, p3⟩ := p2.hr
    rw [f_M_hour_b27, e1, bV_s, e2, bV_s, e3, bV_s]
    have a3 := a1.fr p3.1 (by simp) (by simp)
    refine lqc (fun fu k (z : AH) => f_M_hour_l41 fu (nI k) z) (fun k z => Fr [405] [] h3 z ∧ ∀ x, x < k → hI z 405 x = hourS M Y x) (fun z => bI (f_M_heatHere z) fun rq1 hq2 => some (rq1, hq2)) 35 (by omega) h3 ⟨Fr.rf _ _ _, fun x hx => by omega⟩ (fun z e q => ?_) (fun k fu z hk q => ?_) (fun fu z q => ?_)
    · obtain ⟨f4, g4⟩ := q
      obtain ⟨h5, e5, f5⟩ := M_heatHere_ok (p3.2.1.fr f4 (by simp) (by simp)) (p3.2.2.fr f4 (by simp) (by simp))
      refine ⟨h5, ?_, ((f1.t (p3.1.mn (by simp) (by simp))).t (f4.mn (by simp) (by simp))).t (f5.mn (by simp) (by simp)), ⟨(p3.2.1.fr f4 (by simp) (by simp)).fr f5 (by simp) (by simp), fun k hk => by rw [f5.i _ _ (by simp) (by simp)]; exact g4 k hk⟩, (a3.fr f4 (by simp) (by simp)).fr f5 (by simp) (by simp), a1'⟩
      refine Eq.trans e ?_
      rw [e5, bI_s]
    · obtain ⟨f4, g4⟩ := q
      refine ⟨sI z 405 k (hourS M Y k), ?_, f4.s (by simp) _ _, fun x hx => ?_⟩
      · show f_M_hour_l41 (fu + 1) (nI k) z = f_M_hour_l41 fu (nI (k + 1)) (sI z 405 k (hourS M Y k))
        rw [f_M_hour_l41, if_neg (show ¬ (35 : Int32) ≤ nI k from nI_ge (a := k) (b := 35) hk (by omega)), gx_n _ (show k < 35 by omega) (by omega), gx_n _ (show k < 35 by omega) (by omega), ix_n (show k < 2 ^ 31 by omega), f4.i 406 k (by simp) (by simp), p3.2.2 k hk, lt_e, lt_e, nI_1]
      · rw [hI_sI]
        by_cases e : x = k
        · rw [if_pos ⟨rfl, e⟩, e]
        · rw [if_neg (fun q => e q.2)]; exact g4 x (by omega)
    · show f_M_hour_l41 (fu + 1) (nI 35) z = _
      rw [f_M_hour_l41, if_pos (by decide)]
  rw [f_M_hour, x.1.2 32 (by omega), x.1.2 33 (by omega)]
  by_cases h1 : Y 32 = 23
  · rw [if_neg (fun q => q h1)]
    by_cases h2 : Y 33 = 999
    · rw [if_neg (fun q => q h2)]
      exact ⟨h, _, rfl, Fr.rf _ _ _, Or.inr ⟨fun q => q ⟨h1, h2⟩, rfl, x⟩⟩
    · rw [if_pos h2]
      obtain ⟨h2', e2, f2, x2⟩ := go
      exact ⟨h2', _, e2, f2, Or.inl ⟨fun q => h2 q.2, rfl, x2⟩⟩
  · rw [if_pos h1]
    obtain ⟨h2', e2, f2, x2⟩ := go
    exact ⟨h2', _, e2, f2, Or.inl ⟨fun q => h1 q.1, rfl, x2⟩⟩
theorem M_breathe_ok {h : AH} {M : MT} {Y : YT} {W : Nat → YT} {A U : Nat} (x : MX h M Y W A U) (a b : Int32) : ∃ h1 r, f_M_breathe a b h = some (r, h1) ∧ Fr scB plB h h1 ∧ ((brP M Y a b ∧ r = Y (24 + ix a) ∧ MX h1 M (upd Y (24 + ix a) b) (kpW W A Y) (kpA A) 0) ∨ (¬ brP M Y a b ∧ r = -100 ∧ MX h1 M Y W A U)) := by
  have s := x.1
  have h6 := s.1.1.2.1
  have no : ∀ q : ¬ brP M Y a b, ∃ h1 r, some ((-100 : Int32), h) = some (r, h1) ∧ Fr scB plB h h1 ∧ ((brP M Y a b ∧ r = Y (24 + ix a) ∧ MX h1 M (upd Y (24 + ix a) b) (kpW W A Y) (kpA A) 0) ∨ (¬ brP M Y a b ∧ r = -100 ∧ MX h1 M Y W A U)) := fun q => ⟨h, _, rfl, Fr.rf _ _ _, Or.inr ⟨q, rfl, x⟩⟩
  rw [f_M_breathe, M_isThere_ok s, bI_s]
  by_cases ht : thereS M Y a = true
  · rw [if_pos ht, if_neg (by decide), isIn_e, bI_s]
    by_cases hb : -5 ≤ b ∧ b ≤ 5
    · rw [if_pos hb, if_neg (by decide)]
      obtain ⟨i, hi, rfl⟩ := has_ix h6 (show hasS (mN M) a = true by unfold thereS at ht; simp only [Bool.and_eq_true] at ht; exact ht.1)
      have e24 : (24 : Int32) + nI i = nI (24 + i) := n_add 24 i
      have g : ∀ K : Option (Int32 × AH), gx (nI (24 + i)) 35 K = K := fun K => gx_n K (by omega) (by omega)
      have xi : ix (nI i) = i := ix_n (by omega)
      simp only [e24, g]
      rw [ix_n (show 24 + i < 2 ^ 31 by omega), s.2 (24 + i) (by omega)]
      rw [xi] at no ⊢
      by_cases h3 : Y (24 + i) = b
      · rw [if_neg (fun q => q h3)]
        exact no (fun q => q.2.2 (by rw [xi]; exact h3))
      · rw [if_pos h3]
        obtain ⟨h1, e1, f1, s1, a1, a1'⟩ := x.act
        rw [e1, bV_s, s1.2 (24 + i) (by omega), lt_e, lt_e]
        exact ⟨_, _, rfl, f1.s (by simp) _ _, Or.inl ⟨⟨ht, hb, by rw [xi]; exact h3⟩, rfl, s1.now _ _, a1.now _ _, a1'⟩⟩
    · rw [if_neg hb, if_pos rfl]
      exact no (fun q => hb q.2.1)
  · rw [if_neg ht, if_pos rfl]
    exact no (fun q => ht q.1)
theorem M_free_ok {h : AH} {M : MT} {Y : YT} {W : Nat → YT} {A U : Nat} (x : MX h M Y W A U) (a : Int32) : ∃ h1 r, f_M_free a h = some (r, h1) ∧ Fr scB plB h h1 ∧ ((thereS M Y a = true ∧ r = chirpS M Y (ix a) ∧ MX h1 M (freN (ix a) Y) (kpW W A Y) (kpA A) 0) ∨ (¬ thereS M Y a = true ∧ r = -1 ∧ MX h1 M Y W A U)) := by
  have s := x.1
  have h6 := s.1.1.2.1
  rw [f_M_free, M_isThere_ok s, bI_s]
  by_cases ht : thereS M Y a = true
  · rw [if_pos ht, if_pos (by decide)]
    obtain ⟨i, hi, rfl⟩ := has_ix h6 (show hasS (mN M) a = true by unfold thereS at ht; simp only [Bool.and_eq_true] at ht; exact ht.1)
    obtain ⟨h1, e1, p1⟩ := PA.ld s
    obtain ⟨h2, e2, p2⟩ := p1.ch hi
    obtain ⟨h3, e3, f3, s3, a3, a3'⟩ := (x.q p2.1).act
    rw [e1, bV_s, e2, bI_s, e3, bV_s, s3.2 30 (by omega), lt_e, ix_n (show i < 2 ^ 31 by omega)]
    exact ⟨_, _, rfl, ((p2.1.mn (by simp) (by simp)).t f3).s (by simp) _ _, Or.inl ⟨ht, rfl, s3.now _ _, a3.now _ _, a3'⟩⟩
  · rw [if_neg ht, if_neg (by decide)]
    exact ⟨h, _, rfl, Fr.rf _ _ _, Or.inr ⟨ht, rfl, x⟩⟩
theorem M_buy_ok {h : AH} {M : MT} {Y : YT} {W : Nat → YT} {A U : Nat} (x : MX h M Y W A U) (a b L : Int32) : ∃ h1 r, f_M_buy a b L h = some (r, h1) ∧ Fr scB plB h h1 ∧ ((buP M Y a b L ∧ r = L * priceS M Y (ix a) (ix b) ∧ MX h1 M (buyY Y (ix a) (ix b) (L * priceS M Y (ix a) (ix b)) L) (kpW W A Y) (kpA A) 0) ∨ (¬ buP M Y a b L ∧ r = -1 ∧ MX h1 M Y W A U)) := by
  have s := x.1
  have h6 := s.1.1.2.1
  have no : ∀ (hh : AH) (ff : Fr scB plB h hh) (xx : MX hh M Y W A U) (q : ¬ buP M Y a b L), ∃ h1 r, some ((-1 : Int32), hh) = some (r, h1) ∧ Fr scB plB h h1 ∧ ((buP M Y a b L ∧ r = L * priceS M Y (ix a) (ix b) ∧ MX h1 M (buyY Y (ix a) (ix b) (L * priceS M Y (ix a) (ix b)) L) (kpW W A Y) (kpA A) 0) ∨ (¬ buP M Y a b L ∧ r = -1 ∧ MX h1 M Y W A U)) := fun hh ff xx q => ⟨hh, _, rfl, ff, Or.inr ⟨q, rfl, xx⟩⟩
  have no0 := no h (Fr.rf _ _ _) x
  rw [f_M_buy, M_areTwo_ok s.1, bI_s]
  by_cases hq : twoS (mN M) a b = true
  · obtain ⟨i, j, hi, hj, rfl, rfl⟩ := two_ix h6 hq
    have hij := two_ne (by omega) (by omega) hq
    have e6 : ∀ k : Nat, (6 : Int32) + nI k = nI (6 + k) := fun k => n_add 6 k
    have xi : ix (nI i) = i := ix_n (by omega)
    have xj : ix (nI j) = j := ix_n (by omega)
    have x6i : ix (nI (6 + i)) = 6 + i := ix_n (by omega)
    have x6j : ix (nI (6 + j)) = 6 + j := ix_n (by omega)
    have g : ∀ (k : Nat) (K : Option (Int32 × AH)), k < 35 → gx (nI k) 35 K = K := fun k K hk => gx_n K hk (by omega)
    have gi : ∀ K : Option (Int32 × AH), gx (nI i) 35 K = K := fun K => g _ K (by omega)
    have gj : ∀ K : Option (Int32 × AH), gx (nI j) 35 K = K := fun K => g _ K (by omega)
    have g6i : ∀ K : Option (Int32 × AH), gx (nI (6 + i)) 35 K = K := fun K => g _ K (by omega)
    have g6j : ∀ K : Option (Int32 × AH), gx (nI (6 + j)) 35 K = K := fun K => g _ K (by omega)
    rw [if_pos hq, if_neg (by decide), isIn_e, bI_s, s.1.2.2.2.2.2]
    simp only [e6, gi, gj, g6i, g6j, lt_e]
    rw [xi, xj] at no0 no ⊢
    rw [x6i, x6j]
    by_cases hL : 1 ≤ L ∧ L ≤ mCt M
    · rw [if_pos hL, if_neg (by decide), s.2 (6 + j) (by omega)]
      by_cases h3 : L ≤ Y (6 + j)
      · obtain ⟨h1, e1, p1⟩ := PA.ld s
        obtain ⟨h2, e2, p2⟩ := p1.pr hi hj
        have x2 := x.q p2.1
        rw [if_pos h3, e1, bV_s, e2, bI_s, x2.1.2 i (by omega)]
        by_cases h5 : L * priceS M Y i j ≤ Y i
        · obtain ⟨h4, e4, f4, s4, a4, a4'⟩ := x2.act
          rw [if_pos h5, e4, bV_s, s4.2 i (by omega)]
          have s5 := s4.now i (Y i - L * priceS M Y i j)
          have a5 := a4.now i (Y i - L * priceS M Y i j)
          have f5 : Fr scB plB h4 (sI h4 405 i (Y i - L * priceS M Y i j)) := (Fr.rf _ _ _).s (by simp) _ _
          have v2 : upd Y i (Y i - L * priceS M Y i j) j = Y j := by rw [upd_a, if_neg (fun q => hij q.symm)]
          rw [s5.2 j (by omega), v2]
          generalize sI h4 405 i (Y i - L * priceS M Y i j) = h5' at s5 a5 f5 ⊢
          have s6 := s5.now j (Y j + L * priceS M Y i j)
          have a6 := a5.now j (Y j + L * priceS M Y i j)
          have f6 := f5.s (c := 405) (by simp) j (Y j + L * priceS M Y i j)
          have v3 : upd (upd Y i (Y i - L * priceS M Y i j)) j (Y j + L * priceS M Y i j) (6 + i) = Y (6 + i) := by rw [upd_a, if_neg (by omega), upd_a, if_neg (by omega)]
          rw [s6.2 (6 + i) (by omega), v3]
          generalize sI h5' 405 j (Y j + L * priceS M Y i j) = h6' at s6 a6 f6 ⊢
          have s7 := s6.now (6 + i) (Y (6 + i) + L)
          have a7 := a6.now (6 + i) (Y (6 + i) + L)
          have f7 := f6.s (c := 405) (by simp) (6 + i) (Y (6 + i) + L)
          have v4 : upd (upd (upd Y i (Y i - L * priceS M Y i j)) j (Y j + L * priceS M Y i j)) (6 + i) (Y (6 + i) + L) (6 + j) = Y (6 + j) := by rw [upd_a, if_neg (by omega), upd_a, if_neg (by omega), upd_a, if_neg (by omega)]
          rw [s7.2 (6 + j) (by omega), v4]
          generalize sI h6' 405 (6 + i) (Y (6 + i) + L) = h7' at s7 a7 f7 ⊢
          exact ⟨_, _, rfl, (p2.1.mn (by simp) (by simp)).t (f4.t (f7.s (by simp) _ _)), Or.inl ⟨⟨hq, hL, by rw [xj]; exact h3, by rw [xi, xj]; exact h5⟩, rfl, s7.now _ _, a7.now _ _, a4'⟩⟩
        · rw [if_neg h5]
          exact no h2 (p2.1.mn (by simp) (by simp)) x2 (fun q => h5 (by have := q.2.2.2; rw [xi, xj] at this; exact this))
      · rw [if_neg h3]
        exact no0 (fun q => h3 (by have := q.2.2.1; rw [xj] at this; exact this))
    · rw [if_neg hL, if_pos rfl]
      exact no0 (fun q => hL q.2.1)
  · rw [if_neg hq, if_pos rfl]
    exact no0 (fun q => hq q.1)
