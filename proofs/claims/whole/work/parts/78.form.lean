/-! ===== whole formulas, on both sides ===== -/
/-- what a formula read leaves -/
theorem ei_t {b : Nat → Nat} {L : Nat} {t : LT} (tg : TG L t) {s' : FS} (e : eiR (nxl b L) 10 0 (t, 0, []) = .ok s') : TG L s'.1 ∧ tP t ≤ tP s'.1 ∧ s'.2.1 ≤ 30 ∧ WFc (lcT s'.2.2) ∧ 0 < s'.2.2.length := by
  have q := ei_ok (nxl_k b L) 10 0 (by omega) (by omega) (by omega) (t, 0, []) [] tg (by show 0 ≤ 30; omega) trivial trivial
  rw [e] at q
  obtain ⟨P, cR, m, -, -, -, k4, k5, k6, k7, -⟩ := q
  have k4' : m + tP t ≤ tP s'.1 := k4
  have p := ei_q (nx := nxl b L) 10 0 (by omega) (t, 0, []) 0 rfl (Nat.le_refl _)
  rw [e] at p
  obtain ⟨p1, p2, p3⟩ := p
  have p3' : s'.2.2.length + (1 + 0) + 9 * 0 ≤ 0 + 9 * s'.2.1 := p3
  refine ⟨k5, by omega, k7, WF_l p1 (by omega), ?_⟩
  cases h : s'.2.2 with
  | nil => rw [h] at p1; exact absurd p1 (by decide)
  | cons x r => simp
theorem Hform_ok {b : Nat → Nat} {L q : Nat} {h : AH} {t : LT} (hq : 3 ≤ q) (kq : kdF q = .inr 5) (r : RC b L h t) (v : TKW t) (e4 : hI h q 4 = 0) (e3 : hI h q 3 = 0) : ∃ h1, f_Reader_readEither 10 0 (sR h 1 2 (some q)) = some h1 ∧ FrQ q (sR h 1 2 (some q)) h1 ∧ match eiR (nxl b L) 10 0 (t, 0, []) with
    | .error e => DC b L q h1 e
    | .ok s' => XC b L q h1 s' := by
  have x : XC b L q (sR h 1 2 (some q)) (t, 0, []) := ⟨r, v, ⟨hq, by rw [hR_sR, if_pos ⟨rfl, rfl⟩], kq⟩, e4, by show 0 ≤ 30; omega, e3, fun k hk => absurd hk (Nat.not_lt_zero _)⟩
  obtain ⟨h1, e1, f1, x1⟩ := (ei_c (b := b) (L := L) (q := q) 10 0 (by omega) (by omega) (by omega)).1 _ _ x ⟨⟨0, rfl, Nat.le_refl _⟩, Nat.le_refl _⟩
  have e1' : f_Reader_readEither 10 0 (sR h 1 2 (some q)) = some h1 := e1
  exact ⟨h1, e1', f1, x1⟩
abbrev frG (w : Nat) : Nat → Nat → Prop := fun c k => frC w c k ∨ (c = 394 ∧ k = w) ∨ (c = 383 ∧ k = 20)
theorem Mform_ok {b : Nat → Nat} {L w u0 : Nat} {h : AH} {t : LT} (hw : w < 2) (hu0 : u0 ≤ 30) (r : RM b L h t) (h3 : ¬ tC t = 3) (tg : TG L t) (f0 : hI h 383 2 = 0) (e22 : hI h 383 22 = nI u0) (e33 : hI h 383 3 = -1) : ∃ h1, f_M_formula (nI w) h = some h1 ∧ FrL (frG w) tkD nxR h h1 ∧ hI h1 394 w = vp_nar .boolean 1 ∧ match eiR (nxl b L) 10 0 (nxl b L t, 0, []) with
    | .error e => DJ b L h1 e
    | .ok s' => RM b L h1 s'.1 ∧ (TKV s'.1 ∧ tC s'.1 < 300) ∧ hI h1 383 2 = 0 ∧ CD h1 w s'.2.2 ∧ hI h1 383 22 = nI (u0 + s'.2.1) ∧ hI h1 383 3 = -1 := by
  obtain ⟨r4, r5, -⟩ := r.2.2.2.2 h3
  have L16 := r.1.1
  obtain ⟨h1, q1, q2, q3⟩ := token_ok r.1 r5 r4
  have kk := lx_kw b L (tX t)
  have nk := nxl_k b L t tg
  have o1 : ∀ k, ¬ (k = 4 ∨ k = 6 ∨ k = 7 ∨ k = 8) → hI h1 383 k = hI h 383 k := fun k hk => q2.2.1 _ _ (fun z => hk z.2)
  have f1 : FrL (frG w) tkD nxR h h1 := q2.mn (fun _ _ z => Or.inl (Or.inl z)) (fun _ _ z => z) (fun _ z => z)
  rw [f_M_formula, q1, bV_s, lt_e, hI_sI_s, gx_n _ hw (by omega), ix_n (by omega), lt_e]
  rw [hI_sI, if_neg (show ¬ (383 = 394 ∧ _) by omega), hI_sI_s, gx_n _ hw (by omega), ix_n (by omega), lt_e, lt_e, lt_e, lt_e]
  have f2 : FrL (frG w) tkD nxR h (sI (sI (sI (sI (sI (sI h1 383 20 (nI w)) 394 w (vp_nar .boolean 1)) 388 w 0) 383 21 0) 383 25 0) 383 24 0) := (((((f1.s (c := 383) (k := 20) (Or.inr (Or.inr ⟨rfl, rfl⟩)) _).s (c := 394) (k := w) (Or.inr (Or.inl ⟨rfl, rfl⟩)) _).s (c := 388) (k := w) (Or.inl (Or.inr (Or.inr (Or.inr (Or.inr ⟨rfl, rfl⟩))))) _).s (c := 383) (k := 21) (Or.inl (Or.inr (Or.inl ⟨rfl, by omega⟩))) _).s (c := 383) (k := 25) (Or.inl (Or.inr (Or.inl ⟨rfl, by omega⟩))) _).s (c := 383) (k := 24) (Or.inl (Or.inr (Or.inl ⟨rfl, by omega⟩))) _
  have o2 : ∀ c k, ¬ (c = 394 ∨ c = 388 ∨ (c = 383 ∧ (k = 20 ∨ k = 21 ∨ k = 25 ∨ k = 24))) → hI (sI (sI (sI (sI (sI (sI h1 383 20 (nI w)) 394 w (vp_nar .boolean 1)) 388 w 0) 383 21 0) 383 25 0) 383 24 0) c k = hI h1 c k := fun c k hk => by
    rw [hI_sI, if_neg (by omega), hI_sI, if_neg (by omega), hI_sI, if_neg (by omega), hI_sI, if_neg (by omega), hI_sI, if_neg (by omega), hI_sI, if_neg (by omega)]
  have v24 : hI (sI (sI (sI (sI (sI (sI h1 383 20 (nI w)) 394 w (vp_nar .boolean 1)) 388 w 0) 383 21 0) 383 25 0) 383 24 0) 383 24 = 0 := hI_sI_s _ _ _ _
  have v25 : hI (sI (sI (sI (sI (sI (sI h1 383 20 (nI w)) 394 w (vp_nar .boolean 1)) 388 w 0) 383 21 0) 383 25 0) 383 24 0) 383 25 = 0 := by rw [hI_sI, if_neg (by omega), hI_sI_s]
  have v21 : hI (sI (sI (sI (sI (sI (sI h1 383 20 (nI w)) 394 w (vp_nar .boolean 1)) 388 w 0) 383 21 0) 383 25 0) 383 24 0) 383 21 = 0 := by rw [hI_sI, if_neg (by omega), hI_sI, if_neg (by omega), hI_sI_s]
  have v88 : hI (sI (sI (sI (sI (sI (sI h1 383 20 (nI w)) 394 w (vp_nar .boolean 1)) 388 w 0) 383 21 0) 383 25 0) 383 24 0) 388 w = 0 := by rw [hI_sI, if_neg (by omega), hI_sI, if_neg (by omega), hI_sI, if_neg (by omega), hI_sI_s]
  have v94 : hI (sI (sI (sI (sI (sI (sI h1 383 20 (nI w)) 394 w (vp_nar .boolean 1)) 388 w 0) 383 21 0) 383 25 0) 383 24 0) 394 w = vp_nar .boolean 1 := by rw [hI_sI, if_neg (by omega), hI_sI, if_neg (by omega), hI_sI, if_neg (by omega), hI_sI, if_neg (by omega), hI_sI_s]
  have v20 : hI (sI (sI (sI (sI (sI (sI h1 383 20 (nI w)) 394 w (vp_nar .boolean 1)) 388 w 0) 383 21 0) 383 25 0) 383 24 0) 383 20 = nI w := by rw [hI_sI, if_neg (by omega), hI_sI, if_neg (by omega), hI_sI, if_neg (by omega), hI_sI, if_neg (by omega), hI_sI, if_neg (by omega), hI_sI_s]
  have vL : hL (sI (sI (sI (sI (sI (sI h1 383 20 (nI w)) 394 w (vp_nar .boolean 1)) 388 w 0) 383 21 0) 383 25 0) 383 24 0) 383 9 = hL h1 383 9 := rfl
  generalize sI (sI (sI (sI (sI (sI h1 383 20 (nI w)) 394 w (vp_nar .boolean 1)) 388 w 0) 383 21 0) 383 25 0) 383 24 0 = h2 at f2 o2 v24 v25 v21 v88 v94 v20 vL ⊢
  have mb : MBs b L h2 := ⟨L16, (o2 _ _ (by omega)).trans q3.1.2.1, fun k hk => (o2 _ _ (by omega)).trans (q3.1.2.2.1 k hk), q3.1.2.2.2⟩
  have x : XM b L w u0 h2 (nxl b L t, 0, []) [] 0 := ⟨q3.o mb (fun k hk => o2 _ _ (by omega)) vL, kk, (o2 _ _ (by omega)).trans ((o1 2 (by omega)).trans f0), ⟨v21, fun k hk => absurd hk (Nat.not_lt_zero _), fun x hx => (by cases hx)⟩, ⟨hw, v20, v88, fun k hk => absurd hk (Nat.not_lt_zero _)⟩, v25, v24, (o2 _ _ (by omega)).trans ((o1 22 (by omega)).trans e22), (o2 _ _ (by omega)).trans ((o1 3 (by omega)).trans e33)⟩
  have fe : ∀ {n}, L + 3 ≤ n → MR (nxl b L) n false (nxl b L t, 0, []) [] 0 = eiR (nxl b L) 10 0 (nxl b L t, 0, []) := fun hn => form_eq (nxl_k b L) (s := (nxl b L t, 0, [])) nk.1 (by show 0 ≤ 30; omega) hn
  obtain ⟨h5, e5, f5, q5⟩ := unit_run hu0 (L + 1) _ _ _ FU h2 (by show L < tP (nxl b L t) + (L + 1); omega) (by show L + 1 + 1 < 1000000; omega) x ⟨rfl, by omega, by show 0 ≤ 0 + 0; omega, by show 0 ≤ 9 * 0 + 0; omega, by show 0 ≤ 30; omega⟩ nk.1
  have fg : ∀ {a b : AH}, FrF w a b → FrL (frG w) tkD nxR a b := fun f => f.mn (fun _ _ z => Or.inl z) (fun _ _ z => z) (fun _ z => z)
  have n94 : ∀ {a b : AH}, FrF w a b → hI b 394 w = hI a 394 w := fun f => f.2.1 _ _ (by show ¬ ((394 = 383 ∧ _) ∨ (394 = 383 ∧ _) ∨ _); omega)
  rw [f_M_unit, e5, bV_s]
  rcases q5 with ⟨s', st', dp', j, a1, a2, a3, a4, a5, a6⟩ | ⟨e', j, a1, a2, a3⟩
  · obtain ⟨h6, e6, f6, q6⟩ := form_run hu0 (nI w) (L + 1) s' st' dp' FU h5 (by omega) (by show L + 1 + 1 < 1000000; omega) a1 a2 a3
    refine ⟨h6, e6, (f2.t (fg f5)).t (fg f6), (n94 f6).trans ((n94 f5).trans v94), ?_⟩
    rcases q6 with ⟨s2, d2, j2, c1, c2, c3⟩ | ⟨e2, j2, c1, c2, c3⟩
    · rw [← fe (n := (L + 3) + j2 + 1 + j) (by omega), a6, c3]
      exact ⟨c1.1, c1.2.1, c1.2.2.1, c1.2.2.2.2.1, c1.2.2.2.2.2.2.2⟩
    · rw [← fe (n := (L + 3) + j2 + 1 + j) (by omega), a6, c3]
      exact c1
  · rw [← fe (n := (L + 3) + j + 1) (by omega), a3]
    exact ⟨h5, a1.l50 _ 999999 1, f2.t (fg f5), (n94 f5).trans v94, a1⟩
