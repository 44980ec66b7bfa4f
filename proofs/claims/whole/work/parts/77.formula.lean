/-! ===== the reference's formula ===== -/
theorem MR_t (nx : LT → LT) (n : Nat) (s : FS) (st : List Nat) (dp : Nat) : MR nx (n + 1) true s st dp = if tC s.1 = 41 ∧ has20 st = true then MR nx n true (nx s.1, s.2.1, (clP 0 st s.2.2 dp).2.1) ((clP 0 st s.2.2 dp).1.tail) ((clP 0 st s.2.2 dp).2.2 - 1)
    else if ¬ sgn (tC s.1) = 0 ∧ ¬ (tig (sgn (tC s.1)) = 4 ∧ hasRel st = true) then MR nx n false (nx s.1, s.2.1, (clP (tig (sgn (tC s.1))) st s.2.2 dp).2.1) (sgn (tC s.1) :: (clP (tig (sgn (tC s.1))) st s.2.2 dp).1) (clP (tig (sgn (tC s.1))) st s.2.2 dp).2.2
    else if has20 st = true then .error (er 2 s.1)
    else .ok (s.1, s.2.1, (clP 0 st s.2.2 dp).2.1) := rfl
theorem clP_inv (k : Nat) : ∀ (st : List Nat) (c : List (Nat × Nat)) (d : Nat), cnt st = d → cnt (clP k st c d).1 = (clP k st c d).2.2 ∧ (clP k st c d).2.1.length + (clP k st c d).1.length = c.length + st.length ∧ (clP k st c d).1.length + d ≤ st.length + (clP k st c d).2.2 ∧ (clP k st c d).2.2 ≤ d := by
  intro st
  induction st with
  | nil => intro c d h; exact ⟨h, rfl, Nat.le_refl _, Nat.le_refl _⟩
  | cons x r ih =>
    intro c d h
    rw [clP]
    by_cases h1 : x = 20 ∨ tig x < k
    · rw [if_pos h1]; exact ⟨h, rfl, Nat.le_refl _, Nat.le_refl _⟩
    · rw [if_neg h1]
      have ex : (c ++ [emi x]).length = c.length + 1 := by rw [List.length_append]; rfl
      have er : (x :: r).length = r.length + 1 := rfl
      by_cases h2 : x = 21
      · rw [cnt_1 (Or.inr h2)] at h
        rw [if_pos h2]
        obtain ⟨a1, a2, a3, a4⟩ := ih (c ++ [emi x]) (d - 1) (by omega)
        exact ⟨a1, by omega, by omega, by omega⟩
      · rw [cnt_0 (by omega)] at h
        rw [if_neg h2]
        obtain ⟨a1, a2, a3, a4⟩ := ih (c ++ [emi x]) d h
        exact ⟨a1, by omega, by omega, by omega⟩
theorem c21_cnt : ∀ st : List Nat, c21 st ≤ cnt st := by
  intro st
  induction st with
  | nil => exact Nat.le_refl _
  | cons x r ih =>
    by_cases h : x = 21
    · have : c21 (x :: r) = c21 r + 1 := by unfold c21; simp [h]
      rw [this, cnt_1 (Or.inr h)]; omega
    · have : c21 (x :: r) = c21 r := by unfold c21; simp [h]
      by_cases h2 : x = 20
      · rw [this, cnt_1 (Or.inl h2)]; omega
      · rw [this, cnt_0 (by omega)]; exact ih
theorem clP_20 : ∀ (st : List Nat) (c : List (Nat × Nat)) (d : Nat), has20 st = true → ∃ r, (clP 0 st c d).1 = 20 :: r := by
  intro st
  induction st with
  | nil => intro c d h; exact absurd h (by decide)
  | cons x r ih =>
    intro c d h
    rw [clP]
    by_cases h1 : x = 20
    · rw [if_pos (Or.inl h1), h1]; exact ⟨r, rfl⟩
    · rw [if_neg (by omega)]
      refine ih _ _ ?_
      unfold has20 at h ⊢
      rw [decide_eq_true_iff] at h ⊢
      rcases List.mem_cons.mp h with e | e
      · exact absurd e.symm h1
      · exact e
theorem clP_no : ∀ (st : List Nat) (c : List (Nat × Nat)) (d : Nat), ¬ has20 st = true → (clP 0 st c d).1 = [] := by
  intro st
  induction st with
  | nil => intro c d _; rfl
  | cons x r ih =>
    intro c d h
    have h1 : ¬ x = 20 := fun z => h (by unfold has20; rw [decide_eq_true_iff, z]; exact List.mem_cons_self)
    have h2 : ¬ has20 r = true := fun z => h (by
      unfold has20 at z ⊢
      rw [decide_eq_true_iff] at z ⊢
      exact List.mem_cons_of_mem _ z)
    rw [clP, if_neg (by omega)]
    exact ih _ _ h2
theorem XM.close {b : Nat → Nat} {L w u0 : Nat} {h : AH} {s : FS} {st : List Nat} {dp k : Nat} (x : XM b L w u0 h s st dp) (hk : k < 200) (g : gT s st dp) : ∃ h1, f_M_close (nI k) h = some h1 ∧ FrF w h h1 ∧ XM b L w u0 h1 (s.1, s.2.1, (clP k st s.2.2 dp).2.1) (clP k st s.2.2 dp).1 (clP k st s.2.2 dp).2.2 := by
  obtain ⟨g1, g2, g3, g4, g5⟩ := g
  obtain ⟨r, v, f0, s0, d, e1, e2, e3, e33⟩ := x
  obtain ⟨h1, q1, q2, q3, q4, q5⟩ := close_ok hk st s.2.2 dp FU h (by show st.length < 1000000; omega) (by omega) (by omega) (by rw [← g1]; exact c21_cnt st) (by omega) s0 d e1
  have f := FrA.f q2
  have o : ∀ k, ¬ (k = 21 ∨ k = 25) → hI h1 383 k = hI h 383 k := fun k hk => q2.2.1 _ _ (by show ¬ ((383 = 383 ∧ _) ∨ _); omega)
  exact ⟨h1, q1, f, r.o (r.1.frf f) (fun k hk => o k (by omega)) (q2.2.2.1 _ _ (fun z => z)), v, (o _ (by omega)).trans f0, q3, q4, q5, (o _ (by omega)).trans e2, (o _ (by omega)).trans e3, (o _ (by omega)).trans e33⟩
def FJ (b : Nat → Nat) (L w u0 : Nat) (s : FS) (st : List Nat) (dp : Nat) (h : AH) (X : Option AH) : Prop := ∃ h1, X = some h1 ∧ FrF w h h1 ∧ ((∃ s' d' j, XM b L w u0 h1 s' [] d' ∧ j + tP s.1 ≤ L ∧ ∀ n, MR (nxl b L) (n + j + 1) true s st dp = .ok s') ∨ ∃ e j, DJ b L h1 e ∧ j + tP s.1 ≤ L + 1 ∧ ∀ n, MR (nxl b L) (n + j + 1) true s st dp = .error e)
theorem DJ.l50 {b : Nat → Nat} {L : Nat} {h : AH} {e : Nat × Nat} (x : DJ b L h e) (a : Int32) (n : Nat) (y : Int32) : f_M_formula_l50 a (n + 1) y h = some h := by
  have q : f_M_formula_b177 a h = some h := by rw [f_M_formula_b177, if_pos x.v.1, f_M_formula_b196, if_pos x.v.1]
  rw [f_M_formula_l50]
  by_cases c : y = 0
  · rw [if_pos c]; exact q
  · rw [if_neg c, if_pos x.v.1]; exact q
theorem sgn_b (c : Nat) : sgn c < 200 := by
  unfold sgn
  repeat' split
  all_goals omega
/-- what ends a formula -/
theorem end_ok {b : Nat → Nat} {L w u0 : Nat} {s : FS} {st : List Nat} {dp : Nat} {h : AH} (a : Int32) (x : XM b L w u0 h s st dp) (g : gT s st dp) (tg : TG L s.1) (h1 : ¬ (tC s.1 = 41 ∧ has20 st = true)) (h2 : ¬ (¬ sgn (tC s.1) = 0 ∧ ¬ (tig (sgn (tC s.1)) = 4 ∧ hasRel st = true))) (n : Nat) : FJ b L w u0 s st dp h (f_M_formula_l50 a (n + 1) 0 h) := by
  have mr : ∀ n, MR (nxl b L) (n + 1) true s st dp = if has20 st = true then .error (er 2 s.1) else .ok (s.1, s.2.1, (clP 0 st s.2.2 dp).2.1) := fun n => by rw [MR_t, if_neg h1, if_neg h2]
  have l150 : st.length < 150 := by obtain ⟨g1, g2, g3, g4, g5⟩ := g; omega
  have tp := tg.2.1
  rw [f_M_formula_l50, if_pos rfl, f_M_formula_b177, x.2.2.1, if_neg (fun z => z rfl), hasBr_ok x.2.2.2.1 l150, bI_s]
  by_cases hb : has20 st = true
  · rw [if_pos hb, if_neg (by decide)]
    obtain ⟨h1, e1, f1, d1, -⟩ := x.wrong
    exact ⟨h1, by rw [e1, bV_s, f_M_formula_b196, if_pos d1.v.1], f1, Or.inr ⟨_, 0, d1, by omega, fun n => by rw [Nat.add_zero, mr, if_pos hb]⟩⟩
  · rw [if_neg hb, if_pos rfl, f_M_formula_b196, x.2.2.1, if_neg (fun z => z rfl)]
    obtain ⟨h1, e1, f1, x1⟩ := x.close (k := 0) (by omega) g
    rw [clP_no st _ _ hb] at x1
    have e1' : f_M_close 0 h = some h1 := e1
    exact ⟨h1, by rw [e1', bV_s], f1, Or.inl ⟨_, _, 0, x1, by omega, fun n => by rw [Nat.add_zero, mr, if_neg hb]⟩⟩
theorem form_run {b : Nat → Nat} {L w u0 : Nat} (hu0 : u0 ≤ 30) (a : Int32) : ∀ (m : Nat) (s : FS) (st : List Nat) (dp fu : Nat) (h : AH), L < tP s.1 + m → m + 1 < fu → XM b L w u0 h s st dp → gT s st dp → TG L s.1 → FJ b L w u0 s st dp h (f_M_formula_l50 a fu 1 h) := by
  intro m
  induction m with
  | zero => intro s st dp fu h hm _ _ _ tg; have := tg.2.1; omega
  | succ m ih =>
    intro s st dp fu h hm hf x g tg
    obtain ⟨n, rfl⟩ : ∃ n, fu = n + 2 := ⟨fu - 2, by omega⟩
    have v := x.2.1
    have r := x.1
    have gg := g
    obtain ⟨g1, g2, g3, g4, g5⟩ := gg
    have l150 : st.length < 150 := by omega
    have sb := sgn_b (tC s.1)
    have L16 := r.1.1
    rw [show n + 2 = (n + 1) + 1 from rfl, f_M_formula_l50, if_neg (by decide), x.2.2.1, if_neg (fun z => z rfl), sign_ok r v.1 v.2, bI_s, r.2.2.2.1]
    have b114 : ¬ (tC s.1 = 41 ∧ has20 st = true) → FJ b L w u0 s st dp h (f_M_formula_b114 a (f_M_formula_l50 a (n + 1)) 1 (nI (sgn (tC s.1))) h) := fun hn => by
      rw [f_M_formula_b114]
      by_cases hs : sgn (tC s.1) = 0
      · rw [if_pos (show nI (sgn (tC s.1)) = (0 : Int32) by rw [hs]; rfl)]
        exact end_ok a x g tg hn (fun z => z.1 hs) n
      · rw [if_neg (show ¬ nI (sgn (tC s.1)) = (0 : Int32) from fun z => hs ((tk_eq (k := 0) (by omega) (by omega)).mp z)), tight_ok (by omega), bI_s]
        have ti := tig_in (sgn (tC s.1))
        have c0 := sgn_or _ hs
        have b133 : ¬ (tig (sgn (tC s.1)) = 4 ∧ hasRel st = true) → FJ b L w u0 s st dp h (f_M_formula_b133 a (f_M_formula_l50 a (n + 1)) 1 (nI (sgn (tC s.1))) h) := fun hr => by
          have mr : ∀ n, MR (nxl b L) (n + 1) true s st dp = MR (nxl b L) n false (nxl b L s.1, s.2.1, (clP (tig (sgn (tC s.1))) st s.2.2 dp).2.1) (sgn (tC s.1) :: (clP (tig (sgn (tC s.1))) st s.2.2 dp).1) (clP (tig (sgn (tC s.1))) st s.2.2 dp).2.2 := fun n => by rw [MR_t, if_neg hn, if_pos ⟨hs, hr⟩]
          rw [f_M_formula_b133, tight_ok (by omega), bI_s]
          obtain ⟨h1, e1, f1, x1⟩ := x.close (k := tig (sgn (tC s.1))) (by omega) g
          obtain ⟨i1, i2, i3, i4⟩ := clP_inv (tig (sgn (tC s.1))) st s.2.2 dp g1
          generalize clP (tig (sgn (tC s.1))) st s.2.2 dp = z at x1 i1 i2 i3 i4 mr
          obtain ⟨st1, c1, d1⟩ := z
          simp only at x1 i1 i2 i3 i4 mr
          rw [e1, bV_s, x1.2.2.2.1.1, gx_n _ (show st1.length < 160 by omega) (by omega), ix_n (by omega), lt_e]
          have w1 : hI (sI h1 392 st1.length (nI (sgn (tC s.1)))) 383 21 = nI st1.length := by rw [hI_sI, if_neg (by omega)]; exact x1.2.2.2.1.1
          rw [w1, nI_1, lt_e]
          have f2 : FrF w h1 (sI (sI h1 392 st1.length (nI (sgn (tC s.1)))) 383 21 (nI (st1.length + 1))) := ((FrL.rf _ _ _ h1).s (c := 392) (k := st1.length) (Or.inr (Or.inr (Or.inl rfl))) _).s (c := 383) (k := 21) (Or.inr (Or.inl ⟨rfl, by omega⟩)) _
          have o : ∀ c k, ¬ c = 392 → ¬ (c = 383 ∧ k = 21) → hI (sI (sI h1 392 st1.length (nI (sgn (tC s.1)))) 383 21 (nI (st1.length + 1))) c k = hI h1 c k := fun c k h1 h2 => by
            rw [hI_sI, if_neg (by omega), hI_sI, if_neg (by omega)]
          have k2 : SK (sI (sI h1 392 st1.length (nI (sgn (tC s.1)))) 383 21 (nI (st1.length + 1))) (sgn (tC s.1) :: st1) := x1.2.2.2.1.push sb (hI_sI_s _ _ _ _) (fun j hj => by rw [hI_sI, if_neg (by omega), hI_sI, if_neg (by omega)]) (by rw [hI_sI, if_neg (by omega), hI_sI_s])
          obtain ⟨r1, v1, y0, -, y1, y2, y3, y4, y5⟩ := x1
          have x2 : XM b L w u0 (sI (sI h1 392 st1.length (nI (sgn (tC s.1)))) 383 21 (nI (st1.length + 1))) (s.1, s.2.1, c1) (sgn (tC s.1) :: st1) d1 := ⟨r1.o (r1.1.frf f2) (fun k hk => o _ _ (by omega) (by omega)) rfl, v1, (o _ _ (by omega) (by omega)).trans y0, k2, y1.o (o _ _ (by omega) (by omega)) (fun k => o _ _ (by omega) (by omega)) (fun k => o _ _ (by omega) (by omega)) (fun k => o _ _ (by omega) (by omega)), (o _ _ (by omega) (by omega)).trans y2, (o _ _ (by omega) (by omega)).trans y3, (o _ _ (by omega) (by omega)).trans y4, (o _ _ (by omega) (by omega)).trans y5⟩
          have h3 : ¬ tC s.1 = 3 := by omega
          have h0 : ¬ tC s.1 = 0 := by omega
          obtain ⟨h4, e4, f4, x4⟩ := x2.next h3
          rw [e4, bV_s]
          have nk := nxl_k b L s.1 tg
          have lt := tg.2.2 h0 h3
          have nsg : ¬ (sgn (tC s.1) = 20 ∨ sgn (tC s.1) = 21) := by
            rcases c0 with q | q | q | q | q | q | q | q | q | q <;> rw [q] <;> decide
          obtain ⟨h5, e5, f5, q5⟩ := unit_run hu0 (L + 1) _ _ _ FU h4 (by show L < tP (nxl b L s.1) + (L + 1); omega) (by show L + 1 + 1 < 1000000; omega) x4 ⟨by rw [cnt_0 nsg]; exact i1, by omega, by show st1.length + 1 ≤ s.2.1 + d1; omega, by show c1.length + (st1.length + 1) ≤ 9 * s.2.1 + d1; omega, g5⟩ nk.1
          rw [f_M_unit, e5, bV_s]
          have ff := (((f1.t f2).t f4).t f5)
          rcases q5 with ⟨s', st', dp', j, a1, a2, a3, a4, a5, a6⟩ | ⟨e', j, a1, a2, a3⟩
          · have a4' : tP (nxl b L s.1) < tP s'.1 := a4
            have a5' : j + tP (nxl b L s.1) ≤ tP s'.1 := a5
            obtain ⟨h6, e6, f6, q6⟩ := ih s' st' dp' (n + 1) h5 (by omega) (by omega) a1 a2 a3
            refine ⟨h6, e6, ff.t f6, ?_⟩
            rcases q6 with ⟨s2, d2, j2, c1', c2, c3⟩ | ⟨e2, j2, c1', c2, c3⟩
            · exact Or.inl ⟨s2, d2, j2 + j + 1, c1', by omega, fun n => by rw [show n + (j2 + j + 1) + 1 = (n + j2 + 1) + j + 1 by omega, mr, a6, c3]⟩
            · exact Or.inr ⟨e2, j2 + j + 1, c1', by omega, fun n => by rw [show n + (j2 + j + 1) + 1 = (n + j2 + 1) + j + 1 by omega, mr, a6, c3]⟩
          · have a2' : j + tP (nxl b L s.1) ≤ L := a2
            exact ⟨h5, a1.l50 a n 1, ff, Or.inr ⟨e', j + 1, a1, by omega, fun n => by rw [show n + (j + 1) + 1 = (n + j + 1) + 1 by omega, mr, a3]⟩⟩
        by_cases h4 : tig (sgn (tC s.1)) = 4
        · rw [if_neg (show ¬ ¬ nI (tig (sgn (tC s.1))) = (4 : Int32) from fun z => z (by rw [h4]; rfl)), hasRel_ok x.2.2.2.1 l150, bI_s]
          by_cases hr : hasRel st = true
          · rw [if_pos hr, if_pos (by decide)]
            exact end_ok a x g tg hn (fun z => z.2 ⟨h4, hr⟩) n
          · rw [if_neg hr, if_neg (by decide)]
            exact b133 (fun z => hr z.2)
        · rw [if_pos (show ¬ nI (tig (sgn (tC s.1))) = (4 : Int32) from fun z => h4 ((tk_eq (k := 4) (by omega) (by omega)).mp z))]
          exact b133 (fun z => h4 z.1)
    by_cases h41 : tC s.1 = 41
    · rw [if_neg (show ¬ ¬ nI (srt (tC s.1)) = (41 : Int32) from fun z => z ((srt_k (k := 41) v.2 (by omega) (by omega)).mpr h41)), hasBr_ok x.2.2.2.1 l150, bI_s]
      by_cases hb : has20 st = true
      · rw [if_pos hb, if_neg (by decide)]
        have mr : ∀ n, MR (nxl b L) (n + 1) true s st dp = MR (nxl b L) n true (nxl b L s.1, s.2.1, (clP 0 st s.2.2 dp).2.1) ((clP 0 st s.2.2 dp).1.tail) ((clP 0 st s.2.2 dp).2.2 - 1) := fun n => by rw [MR_t, if_pos ⟨h41, hb⟩]
        obtain ⟨h1, e1, f1, x1⟩ := x.close (k := 0) (by omega) g
        obtain ⟨i1, i2, i3, i4⟩ := clP_inv 0 st s.2.2 dp g1
        obtain ⟨r0, hr0⟩ := clP_20 st s.2.2 dp hb
        generalize clP 0 st s.2.2 dp = z at x1 i1 i2 i3 i4 mr hr0
        obtain ⟨st1, c1, d1⟩ := z
        simp only at x1 i1 i2 i3 i4 mr hr0
        subst hr0
        rw [cnt_1 (Or.inl rfl)] at i1
        have ln : (20 :: r0).length = r0.length + 1 := rfl
        have e1' : f_M_close 0 h = some h1 := e1
        obtain ⟨d0, rfl⟩ : ∃ d0, d1 = d0 + 1 := ⟨d1 - 1, by omega⟩
        obtain ⟨r1, v1, y0, ys, y1, y2, y3, y4, y5⟩ := x1
        have w1 : hI (sI h1 383 21 (nI r0.length)) 383 25 = nI (d0 + 1) := by rw [hI_sI, if_neg (by omega)]; exact y2
        rw [e1', bV_s, ys.1, show nI (20 :: r0).length - 1 = nI r0.length from nI_s1 _, lt_e, w1, nI_s1, lt_e]
        have f2 : FrF w h1 (sI (sI h1 383 21 (nI r0.length)) 383 25 (nI d0)) := ((FrL.rf _ _ _ h1).s (c := 383) (k := 21) (Or.inr (Or.inl ⟨rfl, by omega⟩)) _).s (c := 383) (k := 25) (Or.inr (Or.inl ⟨rfl, by omega⟩)) _
        have o : ∀ c k, ¬ (c = 383 ∧ (k = 21 ∨ k = 25)) → hI (sI (sI h1 383 21 (nI r0.length)) 383 25 (nI d0)) c k = hI h1 c k := fun c k h2 => by
          rw [hI_sI, if_neg (by omega), hI_sI, if_neg (by omega)]
        have k2 : SK (sI (sI h1 383 21 (nI r0.length)) 383 25 (nI d0)) r0 := ys.pop (by rw [hI_sI, if_neg (by omega), hI_sI_s]) (fun j hj => o _ _ (by omega))
        have x2 : XM b L w u0 (sI (sI h1 383 21 (nI r0.length)) 383 25 (nI d0)) (s.1, s.2.1, c1) r0 d0 := ⟨r1.o (r1.1.frf f2) (fun k hk => o _ _ (by omega)) rfl, v1, (o _ _ (by omega)).trans y0, k2, y1.o (o _ _ (by omega)) (fun k => o _ _ (by omega)) (fun k => o _ _ (by omega)) (fun k => o _ _ (by omega)), hI_sI_s _ _ _ _, (o _ _ (by omega)).trans y3, (o _ _ (by omega)).trans y4, (o _ _ (by omega)).trans y5⟩
        have h3 : ¬ tC s.1 = 3 := by omega
        have h0 : ¬ tC s.1 = 0 := by omega
        obtain ⟨h4, e4, f4, x4⟩ := x2.next h3
        rw [e4, bV_s]
        have nk := nxl_k b L s.1 tg
        have lt := tg.2.2 h0 h3
        obtain ⟨h6, e6, f6, q6⟩ := ih _ r0 d0 (n + 1) h4 (by show L < tP (nxl b L s.1) + m; omega) (by omega) x4 ⟨by omega, by omega, by show r0.length + 1 ≤ s.2.1 + d0; omega, by show c1.length + r0.length + 1 ≤ 9 * s.2.1; omega, g5⟩ nk.1
        refine ⟨h6, e6, ((f1.t f2).t f4).t f6, ?_⟩
        have mr' : ∀ n, MR (nxl b L) (n + 1) true s st dp = MR (nxl b L) n true (nxl b L s.1, s.2.1, c1) r0 d0 := fun n => mr n
        rcases q6 with ⟨s2, d2, j2, c1', c2, c3⟩ | ⟨e2, j2, c1', c2, c3⟩
        · have c2' : j2 + tP (nxl b L s.1) ≤ L := c2
          exact Or.inl ⟨s2, d2, j2 + 1, c1', by omega, fun n => by rw [show n + (j2 + 1) + 1 = (n + j2 + 1) + 1 by omega, mr', c3]⟩
        · have c2' : j2 + tP (nxl b L s.1) ≤ L + 1 := c2
          exact Or.inr ⟨e2, j2 + 1, c1', by omega, fun n => by rw [show n + (j2 + 1) + 1 = (n + j2 + 1) + 1 by omega, mr', c3]⟩
      · rw [if_neg hb, if_pos rfl]
        exact b114 (fun z => hb z.2)
    · rw [if_pos (show ¬ nI (srt (tC s.1)) = (41 : Int32) from fun z => h41 ((srt_k (k := 41) v.2 (by omega) (by omega)).mp z))]
      exact b114 (fun z => h41 z.1)
