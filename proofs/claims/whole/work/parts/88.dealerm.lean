/-! ===== the reference's line of a dealer ===== -/
theorem numR_k {b : Nat → Nat} {L lo hi : Nat} {x : Except (Nat × Nat) LT} (h : ∃ t', numR b L lo hi x = .ok t') : ∃ t, x = .ok t := by
  cases x with
  | ok t => exact ⟨t, rfl⟩
  | error e => obtain ⟨t', z⟩ := h; cases z
theorem needR_k {b : Nat → Nat} {L k : Nat} {x : Except (Nat × Nat) LT} (h : ∃ t', needR b L k x = .ok t') : ∃ t, x = .ok t := by
  cases x with
  | ok t => exact ⟨t, rfl⟩
  | error e => obtain ⟨t', z⟩ := h; cases z
theorem kindR_k {b : Nat → Nat} {L : Nat} {kn : List (List Nat)} {x : Except (Nat × Nat) LT} (h : ∃ t', kindR b L kn x = .ok t') : ∃ t, x = .ok t := by
  cases x with
  | ok t => exact ⟨t, rfl⟩
  | error e => obtain ⟨t', z⟩ := h; cases z
theorem optR_k {b : Nat → Nat} {L k hi : Nat} {x : Except (Nat × Nat) LT} (h : ∃ t', optR b L k hi x = .ok t') : ∃ t, x = .ok t := by
  cases x with
  | ok t => exact ⟨t, rfl⟩
  | error e => obtain ⟨t', z⟩ := h; cases z
theorem optR_e {b : Nat → Nat} {L k hi : Nat} {e : Nat × Nat} : optR b L k hi (.error e) = .error e := rfl
abbrev dlM (i : Nat) : Nat → Nat → Prop := fun c k => frW c k ∨ (c = 383 ∧ k = 37) ∨ (396 ≤ c ∧ c ≤ 401 ∧ k = i)
abbrev FrE (i : Nat) (h h1 : AH) : Prop := FrL (dlM i) (frND (3 + i)) nxR h h1
abbrev FrE0 (i : Nat) (h h1 : AH) : Prop := FrL (dlM i) tkD nxR h h1
theorem FrL.e0 {i : Nat} {h h1 : AH} (f : FrW h h1) : FrE0 i h h1 := f.mn (fun _ _ z => Or.inl z) (fun _ _ z => z) (fun _ z => z)
theorem FrL.e1 {i : Nat} {h h1 : AH} (f : FrE0 i h h1) : FrE i h h1 := f.mn (fun _ _ z => z) (fun _ _ z => Or.inl z) (fun _ z => z)
theorem FrL.e {i : Nat} {h h1 : AH} (f : FrW h h1) : FrE i h h1 := f.mn (fun _ _ z => Or.inl z) (fun _ _ z => Or.inl z) (fun _ z => z)
theorem b67M {b : Nat → Nat} {L i : Nat} {h : AH} {t : LT} {kn : List (List Nat)} (r : YT1 b L h t) (n : NR h 0 kn) (hl : kn.length ≤ 3) (e36 : hI h 383 36 = nI kn.length) (e37 : hI h 383 37 = nI i) (hi : i < 6) (h2 : tC t = 2) (hx : nix (tW t) kn < kn.length) : ∃ h1, f_M_readDealer_b67 (nI i) h = some h1 ∧ FrE0 i h h1 ∧ MT1 b L h1 (optR b L 263 9 (optR b L 262 99 (optR b L 261 9999 (optR b L 260 99 (toldR b L 3 0 9 (.ok (nxl b L t))))))) ∧ ((∃ t', optR b L 263 9 (optR b L 262 99 (optR b L 261 9999 (optR b L 260 99 (toldR b L 3 0 9 (.ok (nxl b L t)))))) = .ok t') → hI h1 383 37 = nI (i + 1) ∧ hI h1 396 i = nI (nix (tW t) kn) ∧ hI h1 397 i = nI (numV 0 9 (needR b L 259 (.ok (nxl b L t)))) ∧ hI h1 398 i = nI (optV b L 260 99 (toldR b L 3 0 9 (.ok (nxl b L t)))) ∧ hI h1 399 i = nI (optV b L 261 9999 (optR b L 260 99 (toldR b L 3 0 9 (.ok (nxl b L t))))) ∧ hI h1 400 i = nI (optV b L 262 99 (optR b L 261 9999 (optR b L 260 99 (toldR b L 3 0 9 (.ok (nxl b L t)))))) ∧ hI h1 401 i = nI (optV b L 263 9 (optR b L 262 99 (optR b L 261 9999 (optR b L 260 99 (toldR b L 3 0 9 (.ok (nxl b L t)))))))) := by
  have h3 : ¬ tC t = 3 := by omega
  obtain ⟨v1, v2, v3⟩ := r.2.1.1 (Or.inl h2)
  have e9 := (r.1.2.2.2.2 h3).2.2.2 (Or.inl h2)
  have fm := findM n v1 v2 e9 (by omega)
  rw [if_pos hx] at fm
  have fm' : f_M_find 0 (nI kn.length) h = some (nI (nix (tW t) kn), h) := fm
  have ww : ∀ {x y : AH}, FrW x y → ∀ c k, 396 ≤ c ∨ (c = 383 ∧ k = 37) → hI y c k = hI x c k := fun f c k hc => f.2.1 _ _ (by show ¬ ((c = 383 ∧ _) ∨ (c = 383 ∧ _)); omega)
  have step : ∀ {x : AH} {y : Except (Nat × Nat) LT} (c : Nat) (v : Int32), 396 ≤ c ∧ c ≤ 401 → MT1 b L x y → MT1 b L (sI x c i v) y ∧ FrE0 i x (sI x c i v) ∧ hI (sI x c i v) c i = v ∧ ∀ d k, ¬ d = c → hI (sI x c i v) d k = hI x d k := fun c v hc m => ⟨m.s (by omega) (by omega) v, (FrL.rf _ _ _ _).s (c := c) (k := i) (Or.inr (Or.inr ⟨hc.1, hc.2, rfl⟩)) v, hI_sI_s _ _ _ _, fun d k hd => by rw [hI_sI, if_neg (by omega)]⟩
  rw [f_M_readDealer_b67, r.2.2.2.2.1, if_pos (Int32.le_refl _), e36, fm', bI_s, gx_n _ hi (by omega), ix_n (by omega), lt_e]
  obtain ⟨m1, g1, w1, o1⟩ := step 396 (nI (nix (tW t) kn)) (by omega) (show MT1 b L h (.ok t) from r)
  have r1 : YT1 b L (sI h 396 i (nI (nix (tW t) kn))) t := m1
  have z37 : hI (sI h 396 i (nI (nix (tW t) kn))) 383 37 = nI i := (o1 _ _ (by omega)).trans e37
  generalize sI h 396 i (nI (nix (tW t) kn)) = h1 at r1 g1 w1 z37 ⊢
  obtain ⟨h2', e2, f2, r2⟩ := r1.next h3
  have F2 := FrK.w f2
  rw [e2, bV_s]
  obtain ⟨v3', h3', e3, f3, c3, k3⟩ := toldM (x := .ok (nxl b L t)) (lo := 0) (hi := 9) (j := 3) (l := [115, 111, 110, 103]) (a := 1936682599) r2 (by omega) rfl (by decide) (by omega) (by omega)
  have e3' : f_M_told 1936682599 0 9 h2' = some (v3', h3') := e3
  rw [e3', bI_s, gx_n _ hi (by omega), lt_e]
  have y3 : (∃ t', toldR b L 3 0 9 (.ok (nxl b L t)) = .ok t') → v3' = nI (numV 0 9 (needR b L 259 (.ok (nxl b L t)))) := k3
  generalize hA : toldR b L 3 0 9 (.ok (nxl b L t)) = A at c3 y3 ⊢
  obtain ⟨m4, g4, w4, o4⟩ := step 397 v3' (by omega) c3
  have p4 : hI (sI h3' 397 i v3') 383 37 = nI i ∧ hI (sI h3' 397 i v3') 396 i = nI (nix (tW t) kn) := ⟨(o4 _ _ (by omega)).trans ((ww f3 _ _ (by omega)).trans ((ww F2 _ _ (by omega)).trans z37)), (o4 _ _ (by omega)).trans ((ww f3 _ _ (by omega)).trans ((ww F2 _ _ (by omega)).trans w1))⟩
  have G4 : FrE0 i h (sI h3' 397 i v3') := ((g1.t (FrL.e0 F2)).t (FrL.e0 f3)).t g4
  generalize sI h3' 397 i v3' = h4 at m4 w4 p4 G4 ⊢
  -- age
  obtain ⟨v5, h5, e5, f5, c5, k5⟩ := optM (hi := 99) (j := 4) (l := [97, 103, 101]) (a := 6383461) m4 (by omega) rfl (by decide) (by omega)
  have e5' : f_M_option 6383461 99 h4 = some (v5, h5) := e5
  rw [e5', bI_s, gx_n _ hi (by omega), lt_e]
  have y5 : (∃ t', optR b L 260 99 A = .ok t') → v5 = nI (optV b L 260 99 A) := k5
  have c5' : MT1 b L h5 (optR b L 260 99 A) := c5
  obtain ⟨m6, g6, w6, o6⟩ := step 398 v5 (by omega) c5'
  have p6 : hI (sI h5 398 i v5) 383 37 = nI i ∧ hI (sI h5 398 i v5) 396 i = nI (nix (tW t) kn) ∧ hI (sI h5 398 i v5) 397 i = v3' := ⟨(o6 _ _ (by omega)).trans ((ww f5 _ _ (by omega)).trans p4.1), (o6 _ _ (by omega)).trans ((ww f5 _ _ (by omega)).trans p4.2), (o6 _ _ (by omega)).trans ((ww f5 _ _ (by omega)).trans w4)⟩
  have G6 : FrE0 i h (sI h5 398 i v5) := (G4.t (FrL.e0 f5)).t g6
  generalize sI h5 398 i v5 = h6 at m6 w6 p6 G6 ⊢
  generalize hB : optR b L 260 99 A = B at m6 y5 ⊢
  -- gold
  obtain ⟨v7, h7, e7, f7, c7, k7⟩ := optM (hi := 9999) (j := 5) (l := [103, 111, 108, 100]) (a := 1735355492) m6 (by omega) rfl (by decide) (by omega)
  have e7' : f_M_option 1735355492 9999 h6 = some (v7, h7) := e7
  rw [e7', bI_s, gx_n _ hi (by omega), lt_e]
  have y7 : (∃ t', optR b L 261 9999 B = .ok t') → v7 = nI (optV b L 261 9999 B) := k7
  have c7' : MT1 b L h7 (optR b L 261 9999 B) := c7
  obtain ⟨m8, g8, w8, o8⟩ := step 399 v7 (by omega) c7'
  have p8 : hI (sI h7 399 i v7) 383 37 = nI i ∧ hI (sI h7 399 i v7) 396 i = nI (nix (tW t) kn) ∧ hI (sI h7 399 i v7) 397 i = v3' ∧ hI (sI h7 399 i v7) 398 i = v5 := ⟨(o8 _ _ (by omega)).trans ((ww f7 _ _ (by omega)).trans p6.1), (o8 _ _ (by omega)).trans ((ww f7 _ _ (by omega)).trans p6.2.1), (o8 _ _ (by omega)).trans ((ww f7 _ _ (by omega)).trans p6.2.2), (o8 _ _ (by omega)).trans ((ww f7 _ _ (by omega)).trans w6)⟩
  have G8 : FrE0 i h (sI h7 399 i v7) := (G6.t (FrL.e0 f7)).t g8
  generalize sI h7 399 i v7 = h8 at m8 w8 p8 G8 ⊢
  generalize hC : optR b L 261 9999 B = C at m8 y7 ⊢
  -- loads
  obtain ⟨v9, h9, e9', f9, c9, k9⟩ := optM (hi := 99) (j := 6) (l := [108, 111, 97, 100, 115]) (a := 465725121651) m8 (by omega) rfl (by decide) (by omega)
  have e9n : f_M_option 465725121651 99 h8 = some (v9, h9) := e9'
  rw [e9n, bI_s, gx_n _ hi (by omega), lt_e]
  have y9 : (∃ t', optR b L 262 99 C = .ok t') → v9 = nI (optV b L 262 99 C) := k9
  have c9' : MT1 b L h9 (optR b L 262 99 C) := c9
  obtain ⟨ma, ga, wa, oa⟩ := step 400 v9 (by omega) c9'
  have pa : hI (sI h9 400 i v9) 383 37 = nI i ∧ hI (sI h9 400 i v9) 396 i = nI (nix (tW t) kn) ∧ hI (sI h9 400 i v9) 397 i = v3' ∧ hI (sI h9 400 i v9) 398 i = v5 ∧ hI (sI h9 400 i v9) 399 i = v7 := ⟨(oa _ _ (by omega)).trans ((ww f9 _ _ (by omega)).trans p8.1), (oa _ _ (by omega)).trans ((ww f9 _ _ (by omega)).trans p8.2.1), (oa _ _ (by omega)).trans ((ww f9 _ _ (by omega)).trans p8.2.2.1), (oa _ _ (by omega)).trans ((ww f9 _ _ (by omega)).trans p8.2.2.2), (oa _ _ (by omega)).trans ((ww f9 _ _ (by omega)).trans w8)⟩
  have Ga : FrE0 i h (sI h9 400 i v9) := (G8.t (FrL.e0 f9)).t ga
  generalize sI h9 400 i v9 = ha at ma wa pa Ga ⊢
  generalize hD : optR b L 262 99 C = D at ma y9 ⊢
  -- needs
  obtain ⟨vb, hb, eb, fb, cb, kb⟩ := optM (hi := 9) (j := 7) (l := [110, 101, 101, 100, 115]) (a := 474147546227) ma (by omega) rfl (by decide) (by omega)
  have eb' : f_M_option 474147546227 9 ha = some (vb, hb) := eb
  rw [eb', bI_s, gx_n _ hi (by omega), lt_e]
  have yb : (∃ t', optR b L 263 9 D = .ok t') → vb = nI (optV b L 263 9 D) := kb
  have cb' : MT1 b L hb (optR b L 263 9 D) := cb
  obtain ⟨mc, gc, wc, oc⟩ := step 401 vb (by omega) cb'
  have pc : hI (sI hb 401 i vb) 383 37 = nI i ∧ hI (sI hb 401 i vb) 396 i = nI (nix (tW t) kn) ∧ hI (sI hb 401 i vb) 397 i = v3' ∧ hI (sI hb 401 i vb) 398 i = v5 ∧ hI (sI hb 401 i vb) 399 i = v7 ∧ hI (sI hb 401 i vb) 400 i = v9 := ⟨(oc _ _ (by omega)).trans ((ww fb _ _ (by omega)).trans pa.1), (oc _ _ (by omega)).trans ((ww fb _ _ (by omega)).trans pa.2.1), (oc _ _ (by omega)).trans ((ww fb _ _ (by omega)).trans pa.2.2.1), (oc _ _ (by omega)).trans ((ww fb _ _ (by omega)).trans pa.2.2.2.1), (oc _ _ (by omega)).trans ((ww fb _ _ (by omega)).trans pa.2.2.2.2), (oc _ _ (by omega)).trans ((ww fb _ _ (by omega)).trans wa)⟩
  have Gc : FrE0 i h (sI hb 401 i vb) := (Ga.t (FrL.e0 fb)).t gc
  generalize sI hb 401 i vb = hc at mc wc pc Gc ⊢
  cases hE : optR b L 263 9 D with
  | error e =>
    rw [hE] at mc
    have mc' : DJ b L hc e := mc
    rw [if_pos mc'.v.1]
    exact ⟨hc, rfl, Gc, mc', fun ⟨_, z⟩ => (by cases z)⟩
  | ok t6 =>
    rw [hE] at mc
    have mc' : YT1 b L hc t6 := mc
    rw [mc'.2.2.2.2.1, if_neg (fun z => z rfl), pc.1, nI_1, lt_e]
    have kE : ∃ t', optR b L 263 9 D = .ok t' := ⟨_, hE⟩
    have kD : ∃ t', optR b L 262 99 C = .ok t' := by rw [hD]; exact optR_k kE
    have kC : ∃ t', optR b L 261 9999 B = .ok t' := by rw [hC]; exact optR_k kD
    have kB : ∃ t', optR b L 260 99 A = .ok t' := by rw [hB]; exact optR_k kC
    have kA : ∃ t', A = .ok t' := optR_k kB
    refine ⟨_, rfl, Gc.s (c := 383) (k := 37) (Or.inr (Or.inl ⟨rfl, rfl⟩)) _, mc.s (by omega) (by omega) _, fun _ => ⟨hI_sI_s _ _ _ _, ?_, ?_, ?_, ?_, ?_, ?_⟩⟩
    · rw [hI_sI, if_neg (by omega)]; exact pc.2.1
    · rw [hI_sI, if_neg (by omega), pc.2.2.1]; exact y3 kA
    · rw [hI_sI, if_neg (by omega), pc.2.2.2.1, y5 (by rw [← hB]; exact kB)]
    · rw [hI_sI, if_neg (by omega), pc.2.2.2.2.1, y7 (by rw [← hC]; exact kC)]
    · rw [hI_sI, if_neg (by omega), pc.2.2.2.2.2, y9 (by rw [← hD]; exact kD)]
    · rw [hI_sI, if_neg (by omega), wc, yb kE]
theorem dealM {b : Nat → Nat} {L : Nat} {h : AH} {t : LT} {kn dn : List (List Nat)} (r : YT1 b L h t) (h3 : ¬ tC t = 3) (nk : NR h 0 kn) (hk : kn.length ≤ 3) (e36 : hI h 383 36 = nI kn.length) (n : NR h 3 dn) (hl : dn.length < 6) (e37 : hI h 383 37 = nI dn.length) : ∃ h1, f_M_readDealer h = some h1 ∧ FrE dn.length h h1 ∧ MT1 b L h1 (dl7 b L kn dn (nxl b L t)) ∧ ((∃ t', dl7 b L kn dn (nxl b L t) = .ok t') → NR h1 3 (dn ++ [tW (nxl b L t)]) ∧ hI h1 383 37 = nI (dn.length + 1) ∧ hI h1 396 dn.length = nI (kindV kn (dl1 b L dn (nxl b L t))) ∧ hI h1 397 dn.length = nI (numV 0 9 (dl2 b L kn dn (nxl b L t))) ∧ hI h1 398 dn.length = nI (optV b L 260 99 (dl3 b L kn dn (nxl b L t))) ∧ hI h1 399 dn.length = nI (optV b L 261 9999 (dl4 b L kn dn (nxl b L t))) ∧ hI h1 400 dn.length = nI (optV b L 262 99 (dl5 b L kn dn (nxl b L t))) ∧ hI h1 401 dn.length = nI (optV b L 263 9 (dl6 b L kn dn (nxl b L t)))) := by
  obtain ⟨h1, e1, f1, x1, k1⟩ := newM r h3 n (by omega)
  have f1' : FrE dn.length h h1 := f1.mn (fun _ _ z => Or.inl z) (fun _ _ z => z) (fun _ z => z)
  have e1' : f_M_newName 3 (nI dn.length) h = some h1 := e1
  have v37 : hI h1 383 37 = nI dn.length := by rw [f1.2.1 _ _ (by show ¬ ((383 = 383 ∧ _) ∨ (383 = 383 ∧ _)); omega)]; exact e37
  have v36 : hI h1 383 36 = nI kn.length := by rw [f1.2.1 _ _ (by show ¬ ((383 = 383 ∧ _) ∨ (383 = 383 ∧ _)); omega)]; exact e36
  have nk1 : NR h1 0 kn := ⟨nk.1, nk.2.1, fun k hk' => by rw [f1.2.2.1 _ _ (by show ¬ ((385 = 383 ∧ _) ∨ (385 = 385 ∧ _)); omega)]; exact nk.2.2 k hk'⟩
  rw [f_M_readDealer, e37, e1', bV_s, lt_e, v37]
  generalize nxl b L t = t' at x1 k1 ⊢
  obtain ⟨h2, e2, f2, c2⟩ := wantM (j := 2) (l := [111, 102]) (a := 28518) x1 (by omega) rfl (by decide)
  have c2' : MT1 b L h2 (dl1 b L dn t') := c2
  have w37 : hI h2 383 37 = nI dn.length := by rw [f2.2.1 _ _ (by show ¬ ((383 = 383 ∧ _) ∨ (383 = 383 ∧ _)); omega)]; exact v37
  have w36 : hI h2 383 36 = nI kn.length := by rw [f2.2.1 _ _ (by show ¬ ((383 = 383 ∧ _) ∨ (383 = 383 ∧ _)); omega)]; exact v36
  have nk2 : NR h2 0 kn := ⟨nk1.1, nk1.2.1, fun k hk' => by rw [f2.2.2.1 _ _ (by show ¬ (385 = 383 ∧ _); omega)]; exact nk1.2.2 k hk'⟩
  have f12 : FrE dn.length h h2 := f1'.t (FrL.e f2)
  rw [e2, bV_s]
  have stop : ∀ {hz : AH} {e : Nat × Nat}, DJ b L hz e → f_M_readDealer_b67 (nI dn.length) hz = some hz := fun d => by rw [f_M_readDealer_b67, if_neg d.v.2]
  have err : ∀ {e : Nat × Nat}, kindR b L kn (dl1 b L dn t') = .error e → dl7 b L kn dn t' = .error e := fun q => by
    unfold dl7 dl6 dl5 dl4 dl3 dl2
    rw [q]; rfl
  cases q1 : dl1 b L dn t' with
  | error e =>
    rw [q1] at c2'
    have d : DJ b L h2 e := c2'
    have q7 : dl7 b L kn dn t' = .error e := err (by rw [q1]; rfl)
    rw [if_pos d.v.1, f_M_readDealer_b43, if_pos d.v.1, stop d, q7]
    exact ⟨h2, rfl, f12, d, fun ⟨_, z⟩ => (by cases z)⟩
  | ok t1 =>
    rw [q1] at c2'
    have y : YT1 b L h2 t1 := c2'
    rw [y.2.2.2.2.1, if_neg (fun z => z rfl), isName_ok y.1 y.2.1.1 y.2.1.2, bI_s]
    by_cases h2' : tC t1 = 2
    · have h3' : ¬ tC t1 = 3 := by omega
      obtain ⟨v1, v2, -⟩ := y.2.1.1 (Or.inl h2')
      have e9 := (y.1.2.2.2.2 h3').2.2.2 (Or.inl h2')
      have fm := findM nk2 v1 v2 e9 (by omega)
      have fm' : f_M_find 0 (nI kn.length) h2 = _ := fm
      rw [if_pos h2', if_pos (by decide), f_M_readDealer_b43, y.2.2.2.2.1, if_neg (fun z => z rfl), w36, fm', bI_s]
      have nl := nix_le (tW t1) kn
      by_cases c : nix (tW t1) kn < kn.length
      · have q2 : kindR b L kn (.ok t1) = .ok (nxl b L t1) := by
          show (if tC t1 = 2 then (if nix (tW t1) kn < kn.length then .ok (nxl b L t1) else .error (5, tP t1)) else .error (er 2 t1) : Except (Nat × Nat) LT) = _
          rw [if_pos h2', if_pos c]
        have kv : kindV kn (.ok t1) = nix (tW t1) kn := if_pos ⟨h2', c⟩
        rw [if_pos c, if_pos (show (0 : Int32) ≤ nI (nix (tW t1) kn) from nI_le (a := 0) (by omega) (by omega))]
        obtain ⟨h4, e4, f4, m4, k4⟩ := b67M y nk2 hk w36 w37 hl h2' c
        have q3 : dl3 b L kn dn t' = toldR b L 3 0 9 (.ok (nxl b L t1)) := by unfold dl3 dl2 toldR; rw [q1, q2]
        have q2' : dl2 b L kn dn t' = needR b L 259 (.ok (nxl b L t1)) := by unfold dl2; rw [q1, q2]
        have q4 : dl4 b L kn dn t' = optR b L 260 99 (toldR b L 3 0 9 (.ok (nxl b L t1))) := by unfold dl4; rw [q3]
        have q5 : dl5 b L kn dn t' = optR b L 261 9999 (optR b L 260 99 (toldR b L 3 0 9 (.ok (nxl b L t1)))) := by unfold dl5; rw [q4]
        have q6 : dl6 b L kn dn t' = optR b L 262 99 (optR b L 261 9999 (optR b L 260 99 (toldR b L 3 0 9 (.ok (nxl b L t1))))) := by unfold dl6; rw [q5]
        have q7 : dl7 b L kn dn t' = optR b L 263 9 (optR b L 262 99 (optR b L 261 9999 (optR b L 260 99 (toldR b L 3 0 9 (.ok (nxl b L t1)))))) := by unfold dl7; rw [q6]
        have kn' : ∃ t2, newR b L dn t' = .ok t2 := needR_k (k := 258) ⟨t1, q1⟩
        have N1 := k1 kn'
        rw [q7, q2', q3, q4, q5, q6, kv]
        refine ⟨h4, e4, f12.t (FrL.e1 f4), m4, fun ok => ⟨⟨N1.1, N1.2.1, fun k hk' => ?_⟩, k4 ok⟩⟩
        have lk : k < dn.length + 1 := by rw [List.length_append] at hk'; exact hk'
        have nf : hL h4 385 (3 + k) = hL h1 385 (3 + k) := by rw [f4.2.2.1 _ _ (by show ¬ (385 = 383 ∧ _); omega), f2.2.2.1 _ _ (by show ¬ (385 = 383 ∧ _); omega)]
        rw [nf]; exact N1.2.2 k hk'
      · have q2 : kindR b L kn (.ok t1) = .error (5, tP t1) := by
          show (if tC t1 = 2 then (if nix (tW t1) kn < kn.length then .ok (nxl b L t1) else .error (5, tP t1)) else .error (er 2 t1) : Except (Nat × Nat) LT) = _
          rw [if_pos h2', if_neg c]
        have q7 : dl7 b L kn dn t' = .error (5, tP t1) := err (by rw [q1]; exact q2)
        rw [if_neg c, if_neg (by decide)]
        obtain ⟨h5, e5, f5, x5, -⟩ := y.wrong (j := 5) (by omega) (by omega)
        unfold er at x5
        rw [if_neg h3'] at x5
        have e5' : f_M_wrong 5 h2 = some h5 := e5
        rw [e5', bV_s, stop x5, q7]
        exact ⟨h5, rfl, f12.t (FrL.e f5), x5, fun ⟨_, z⟩ => (by cases z)⟩
    · have q2 : kindR b L kn (.ok t1) = .error (er 2 t1) := by
        show (if tC t1 = 2 then (if nix (tW t1) kn < kn.length then .ok (nxl b L t1) else .error (5, tP t1)) else .error (er 2 t1) : Except (Nat × Nat) LT) = _
        rw [if_neg h2']
      have q7 : dl7 b L kn dn t' = .error (er 2 t1) := err (by rw [q1]; exact q2)
      obtain ⟨h5, e5, f5, x5, -⟩ := y.wrong (j := 2) (by omega) (by omega)
      have e5' : f_M_wrong 2 h2 = some h5 := e5
      rw [if_neg h2', if_neg (fun z => z rfl), e5', bV_s, stop x5, q7]
      exact ⟨h5, rfl, f12.t (FrL.e f5), x5, fun ⟨_, z⟩ => (by cases z)⟩
