/-! ===== the class's line of a dealer: what may be told ===== -/
abbrev dlC (u i : Nat) : Nat → Nat → Prop := fun c k => nxC c k ∨ (u + 3 ≤ c ∧ c ≤ u + 8 ∧ k = i)
abbrev FrD (u i : Nat) (h h1 : AH) : Prop := FrL (dlC u i) nxD nxR h h1
theorem FrN.d {u i : Nat} {h h1 : AH} (f : FrN h h1) : FrD u i h h1 := f.mn (fun _ _ z => Or.inl z) (fun _ _ z => z) (fun _ z => z)
theorem b187C {b : Nat → Nat} {L u i : Nat} {h : AH} {x : Except (Nat × Nat) LT} (c : CT1 b L h x) (u3 : 3 ≤ u) (hu : hR h 1 1 = some u) (ku : kdF u = .inr 7) (hi : i < 6) (v : Int32) : ∃ h1, f_Reader_readDealer_b187 (nI i) (u + 7) (nI i) v h = some h1 ∧ FrD u i h h1 ∧ CT1 b L h1 (optR b L 263 9 x) ∧ hI h1 (u + 8) i = nI (optV b L 263 9 x) ∧ hI h1 (u + 7) i = v ∧ ∀ k, k < 7 → hI h1 (u + k) i = hI h (u + k) i := by
  have c1 := c.s (u := u + 7) (k := i) (by omega) v
  have f1 : FrD u i h (sI h (u + 7) i v) := (FrL.rf _ _ _ h).s (c := u + 7) (k := i) (Or.inr ⟨by omega, by omega, rfl⟩) v
  have w1 : hI (sI h (u + 7) i v) (u + 7) i = v := hI_sI_s _ _ _ _
  have o1 : ∀ k, k < 7 → hI (sI h (u + 7) i v) (u + k) i = hI h (u + k) i := fun k hk => by rw [hI_sI, if_neg (by omega)]
  have hu1 : hR (sI h (u + 7) i v) 1 1 = some u := hu
  rw [f_Reader_readDealer_b187, gx_n _ hi (by omega), ix_n (by omega), lt_e]
  generalize sI h (u + 7) i v = h0 at c1 f1 w1 o1 hu1 ⊢
  have z1 : ∀ {x y : AH}, FrN x y → ∀ k, hI y (u + k) i = hI x (u + k) i := fun f k => f.2.1 _ _ (by show ¬ (u + k = 1 ∧ _); omega)
  obtain ⟨h2, e2, f2, c2, n2, y2⟩ := optC (k := 263) (hi := 9) c1 (by omega) (by omega) (by omega)
  have e2' : f_Reader_take 263 h0 = _ := e2
  rw [gd_ok _ hu1 ku, e2', bI_s]
  by_cases tb : takeB 263 x = true
  · obtain ⟨h3, e3, f3, c3⟩ := y2 tb
    have e3' : f_Reader_needNumber 0 9 h2 = _ := e3
    rw [if_pos tb, if_neg (show ¬ (1 : Int32) = 0 by decide), e3', bI_s, gx_n _ hi (by omega), lt_e]
    refine ⟨_, rfl, ((f1.t (FrN.d f2)).t (FrN.d f3)).s (c := u + 8) (k := i) (Or.inr ⟨by omega, by omega, rfl⟩) _, c3.s (by omega) _, hI_sI_s _ _ _ _, ?_, fun k hk => ?_⟩
    · rw [hI_sI, if_neg (by omega), z1 f3 7, z1 f2 7, w1]
    · rw [hI_sI, if_neg (by omega), z1 f3 k, z1 f2 k, o1 k hk]
  · have v0 : optV b L 263 9 x = 0 := by unfold optV; rw [if_neg tb]
    rw [if_neg tb, if_pos rfl, gx_n _ hi (by omega), lt_e, v0]
    refine ⟨_, rfl, (f1.t (FrN.d f2)).s (c := u + 8) (k := i) (Or.inr ⟨by omega, by omega, rfl⟩) _, (n2 tb).s (by omega) _, hI_sI_s _ _ _ _, ?_, fun k hk => ?_⟩
    · rw [hI_sI, if_neg (by omega), z1 f2 7, w1]
    · rw [hI_sI, if_neg (by omega), z1 f2 k, o1 k hk]
theorem b157C {b : Nat → Nat} {L u i : Nat} {h : AH} {x : Except (Nat × Nat) LT} (c : CT1 b L h x) (u3 : 3 ≤ u) (hu : hR h 1 1 = some u) (ku : kdF u = .inr 7) (hi : i < 6) (v : Int32) : ∃ h1, f_Reader_readDealer_b157 (nI i) (u + 6) (nI i) v h = some h1 ∧ FrD u i h h1 ∧ CT1 b L h1 (optR b L 263 9 (optR b L 262 99 x)) ∧ hI h1 (u + 8) i = nI (optV b L 263 9 (optR b L 262 99 x)) ∧ hI h1 (u + 7) i = nI (optV b L 262 99 x) ∧ hI h1 (u + 6) i = v ∧ ∀ k, k < 6 → hI h1 (u + k) i = hI h (u + k) i := by
  have c1 := c.s (u := u + 6) (k := i) (by omega) v
  have f1 : FrD u i h (sI h (u + 6) i v) := (FrL.rf _ _ _ h).s (c := u + 6) (k := i) (Or.inr ⟨by omega, by omega, rfl⟩) v
  have w1 : hI (sI h (u + 6) i v) (u + 6) i = v := hI_sI_s _ _ _ _
  have o1 : ∀ k, k < 6 → hI (sI h (u + 6) i v) (u + k) i = hI h (u + k) i := fun k hk => by rw [hI_sI, if_neg (by omega)]
  have hu1 : hR (sI h (u + 6) i v) 1 1 = some u := hu
  rw [f_Reader_readDealer_b157, gx_n _ hi (by omega), ix_n (by omega), lt_e]
  generalize sI h (u + 6) i v = h0 at c1 f1 w1 o1 hu1 ⊢
  have z1 : ∀ {x y : AH}, FrN x y → ∀ k, hI y (u + k) i = hI x (u + k) i := fun f k => f.2.1 _ _ (by show ¬ (u + k = 1 ∧ _); omega)
  obtain ⟨h2, e2, f2, c2, n2, y2⟩ := optC (k := 262) (hi := 99) c1 (by omega) (by omega) (by omega)
  have e2' : f_Reader_take 262 h0 = _ := e2
  have hu2 : hR h2 1 1 = some u := by rw [f2.2.2.2 _ (fun z => z)]; exact hu1
  rw [gd_ok _ hu1 ku, e2', bI_s]
  by_cases tb : takeB 262 x = true
  · obtain ⟨h3, e3, f3, c3⟩ := y2 tb
    have e3' : f_Reader_needNumber 0 99 h2 = _ := e3
    have hu3 : hR h3 1 1 = some u := by rw [f3.2.2.2 _ (fun z => z)]; exact hu2
    rw [if_pos tb, if_neg (show ¬ (1 : Int32) = 0 by decide), e3', bI_s]
    obtain ⟨h4, e4, f4, c4, a1, a2, a3⟩ := b187C c3 u3 hu3 ku hi (nI (optV b L 262 99 x))
    refine ⟨h4, e4, ((f1.t (FrN.d f2)).t (FrN.d f3)).t f4, c4, a1, a2, ?_, fun k hk => ?_⟩
    · rw [a3 6 (by omega), z1 f3 6, z1 f2 6, w1]
    · rw [a3 k (by omega), z1 f3 k, z1 f2 k, o1 k hk]
  · have v0 : optV b L 262 99 x = 0 := by unfold optV; rw [if_neg tb]
    rw [if_neg tb, if_pos rfl]
    obtain ⟨h4, e4, f4, c4, a1, a2, a3⟩ := b187C (n2 tb) u3 hu2 ku hi 0
    refine ⟨h4, e4, (f1.t (FrN.d f2)).t f4, c4, a1, by rw [v0]; exact a2, ?_, fun k hk => ?_⟩
    · rw [a3 6 (by omega), z1 f2 6, w1]
    · rw [a3 k (by omega), z1 f2 k, o1 k hk]
theorem b126C {b : Nat → Nat} {L u i : Nat} {h : AH} {x : Except (Nat × Nat) LT} (c : CT1 b L h x) (u3 : 3 ≤ u) (hu : hR h 1 1 = some u) (ku : kdF u = .inr 7) (hi : i < 6) (v : Int32) : ∃ h1, f_Reader_readDealer_b126 (nI i) (u + 5) (nI i) v h = some h1 ∧ FrD u i h h1 ∧ CT1 b L h1 (optR b L 263 9 (optR b L 262 99 (optR b L 261 9999 x))) ∧ hI h1 (u + 8) i = nI (optV b L 263 9 (optR b L 262 99 (optR b L 261 9999 x))) ∧ hI h1 (u + 7) i = nI (optV b L 262 99 (optR b L 261 9999 x)) ∧ hI h1 (u + 6) i = nI (optV b L 261 9999 x) ∧ hI h1 (u + 5) i = v ∧ ∀ k, k < 5 → hI h1 (u + k) i = hI h (u + k) i := by
  have c1 := c.s (u := u + 5) (k := i) (by omega) v
  have f1 : FrD u i h (sI h (u + 5) i v) := (FrL.rf _ _ _ h).s (c := u + 5) (k := i) (Or.inr ⟨by omega, by omega, rfl⟩) v
  have w1 : hI (sI h (u + 5) i v) (u + 5) i = v := hI_sI_s _ _ _ _
  have o1 : ∀ k, k < 5 → hI (sI h (u + 5) i v) (u + k) i = hI h (u + k) i := fun k hk => by rw [hI_sI, if_neg (by omega)]
  have hu1 : hR (sI h (u + 5) i v) 1 1 = some u := hu
  rw [f_Reader_readDealer_b126, gx_n _ hi (by omega), ix_n (by omega), lt_e]
  generalize sI h (u + 5) i v = h0 at c1 f1 w1 o1 hu1 ⊢
  have z1 : ∀ {x y : AH}, FrN x y → ∀ k, hI y (u + k) i = hI x (u + k) i := fun f k => f.2.1 _ _ (by show ¬ (u + k = 1 ∧ _); omega)
  obtain ⟨h2, e2, f2, c2, n2, y2⟩ := optC (k := 261) (hi := 9999) c1 (by omega) (by omega) (by omega)
  have e2' : f_Reader_take 261 h0 = _ := e2
  have hu2 : hR h2 1 1 = some u := by rw [f2.2.2.2 _ (fun z => z)]; exact hu1
  rw [gd_ok _ hu1 ku, e2', bI_s]
  by_cases tb : takeB 261 x = true
  · obtain ⟨h3, e3, f3, c3⟩ := y2 tb
    have e3' : f_Reader_needNumber 0 9999 h2 = _ := e3
    have hu3 : hR h3 1 1 = some u := by rw [f3.2.2.2 _ (fun z => z)]; exact hu2
    rw [if_pos tb, if_neg (show ¬ (1 : Int32) = 0 by decide), e3', bI_s]
    obtain ⟨h4, e4, f4, c4, a1, a2, a3, a4⟩ := b157C c3 u3 hu3 ku hi (nI (optV b L 261 9999 x))
    refine ⟨h4, e4, ((f1.t (FrN.d f2)).t (FrN.d f3)).t f4, c4, a1, a2, a3, ?_, fun k hk => ?_⟩
    · rw [a4 5 (by omega), z1 f3 5, z1 f2 5, w1]
    · rw [a4 k (by omega), z1 f3 k, z1 f2 k, o1 k hk]
  · have v0 : optV b L 261 9999 x = 0 := by unfold optV; rw [if_neg tb]
    rw [if_neg tb, if_pos rfl]
    obtain ⟨h4, e4, f4, c4, a1, a2, a3, a4⟩ := b157C (n2 tb) u3 hu2 ku hi 0
    refine ⟨h4, e4, (f1.t (FrN.d f2)).t f4, c4, a1, a2, by rw [v0]; exact a3, ?_, fun k hk => ?_⟩
    · rw [a4 5 (by omega), z1 f2 5, w1]
    · rw [a4 k (by omega), z1 f2 k, o1 k hk]
