/-! ===== a line of a dealer ===== -/
def dl1 (b : Nat → Nat) (L : Nat) (dn : List (List Nat)) (t : LT) : Except (Nat × Nat) LT := needR b L 258 (newR b L dn t)
def dl2 (b : Nat → Nat) (L : Nat) (kn dn : List (List Nat)) (t : LT) : Except (Nat × Nat) LT := needR b L 259 (kindR b L kn (dl1 b L dn t))
def dl3 (b : Nat → Nat) (L : Nat) (kn dn : List (List Nat)) (t : LT) : Except (Nat × Nat) LT := numR b L 0 9 (dl2 b L kn dn t)
def dl4 (b : Nat → Nat) (L : Nat) (kn dn : List (List Nat)) (t : LT) : Except (Nat × Nat) LT := optR b L 260 99 (dl3 b L kn dn t)
def dl5 (b : Nat → Nat) (L : Nat) (kn dn : List (List Nat)) (t : LT) : Except (Nat × Nat) LT := optR b L 261 9999 (dl4 b L kn dn t)
def dl6 (b : Nat → Nat) (L : Nat) (kn dn : List (List Nat)) (t : LT) : Except (Nat × Nat) LT := optR b L 262 99 (dl5 b L kn dn t)
def dl7 (b : Nat → Nat) (L : Nat) (kn dn : List (List Nat)) (t : LT) : Except (Nat × Nat) LT := optR b L 263 9 (dl6 b L kn dn t)
/-- a fault goes on to the end -/
theorem dl_err {b : Nat → Nat} {L : Nat} {kn dn : List (List Nat)} {t : LT} {e : Nat × Nat} (h : newR b L dn t = .error e) : dl7 b L kn dn t = .error e := by
  unfold dl7 dl6 dl5 dl4 dl3 dl2 dl1
  rw [h]; rfl
theorem dealC {b : Nat → Nat} {L u : Nat} {h : AH} {t : LT} {kn dn : List (List Nat)} (r : XT b L h t) (u3 : 3 ≤ u) (hu : hR h 1 1 = some u) (ku : kdF u = .inr 7) (k2 : kdF (u + 2) = .inl (2, 6)) (nk : NC h (u + 1) kn) (e10 : hI h u 10 = nI kn.length) (hk : kn.length ≤ 3) (n : NC h (u + 2) dn) (e11 : hI h u 11 = nI dn.length) (hl : dn.length < 6) : ∃ h1, f_Reader_readDealer h = some h1 ∧ FrL (fun c k => dlC u dn.length c k ∨ (c = u ∧ k = 11)) (fun c k => nxD c k ∨ (c = u + 2 ∧ k = dn.length)) nxR h h1 ∧ CT1 b L h1 (dl7 b L kn dn t) ∧ ((∃ t', newR b L dn t = .ok t') → NC h1 (u + 2) (dn ++ [tW t]) ∧ hI h1 u 11 = nI (dn.length + 1) ∧ hI h1 (u + 3) dn.length = nI (kindV kn (dl1 b L dn t)) ∧ hI h1 (u + 4) dn.length = nI (numV 0 9 (dl2 b L kn dn t)) ∧ hI h1 (u + 5) dn.length = nI (optV b L 260 99 (dl3 b L kn dn t)) ∧ hI h1 (u + 6) dn.length = nI (optV b L 261 9999 (dl4 b L kn dn t)) ∧ hI h1 (u + 7) dn.length = nI (optV b L 262 99 (dl5 b L kn dn t)) ∧ hI h1 (u + 8) dn.length = nI (optV b L 263 9 (dl6 b L kn dn t))) := by
  have gD : ∀ {x y : AH}, FrD u dn.length x y → FrL (fun c k => dlC u dn.length c k ∨ (c = u ∧ k = 11)) (fun c k => nxD c k ∨ (c = u + 2 ∧ k = dn.length)) nxR x y := fun f => f.mn (fun _ _ z => Or.inl z) (fun _ _ z => Or.inl z) (fun _ z => z)
  obtain ⟨h1, e1, f1, x1⟩ := newC r k2 (by omega) n hl
  rw [f_Reader_readDealer, gd_ok _ hu ku, lt_e, gd_ok _ hu ku, e11, e1, bI_s]
  by_cases h2 : tC t = 2
  · have h3 : ¬ tC t = 3 := by omega
    obtain ⟨v1, v2⟩ := r.2.1.1 h2
    rw [if_pos h2] at x1
    by_cases c : nix (tW t) dn < dn.length
    · rw [if_pos c] at x1
      have y : (if tC t = 2 ∧ ¬ nix (tW t) dn < dn.length then (1 : Int32) else 0) = 0 := if_neg (fun z => z.2 c)
      have nr : newR b L dn t = .error (3, tP t) := by unfold newR; rw [if_pos h2, if_pos c]
      unfold er at x1
      rw [if_neg h3] at x1
      rw [y, if_neg (fun z => z rfl), dl_err nr]
      exact ⟨h1, rfl, gD (FrN.d f1), x1, fun ⟨_, z⟩ => (by rw [nr] at z; cases z)⟩
    · rw [if_neg c] at x1
      subst x1
      have e7 := (r.1.2.2.2.2.2 h3).2.2.2.2.2 h2
      have y : (if tC t = 2 ∧ ¬ nix (tW t) dn < dn.length then (1 : Int32) else 0) = 1 := if_pos ⟨h2, c⟩
      have nr : newR b L dn t = .ok (nxl b L t) := by unfold newR; rw [if_pos h2, if_neg c]
      rw [y, if_pos (show ¬ (1 : Int32) = 0 by decide), gd_ok _ hu ku, gx_n _ hl (by omega), ix_n (by omega), lt_e, e7]
      have hu2 : hR (sL h1 (u + 2) dn.length (Int64.ofNat (c5 (tW t)))) 1 1 = some u := hu
      rw [gd_ok _ hu2 ku, hI_sL, e11, nI_1, lt_e]
      have f2 : FrL (fun c k => dlC u dn.length c k ∨ (c = u ∧ k = 11)) (fun c k => nxD c k ∨ (c = u + 2 ∧ k = dn.length)) nxR h1 (sI (sL h1 (u + 2) dn.length (Int64.ofNat (c5 (tW t)))) u 11 (nI (dn.length + 1))) := ((FrL.rf _ _ _ h1).l (c := u + 2) (k := dn.length) (Or.inr ⟨rfl, rfl⟩) _).s (c := u) (k := 11) (Or.inr ⟨rfl, rfl⟩) _
      have n2 : NC (sI (sL h1 (u + 2) dn.length (Int64.ofNat (c5 (tW t)))) u 11 (nI (dn.length + 1))) (u + 2) (dn ++ [tW t]) := n.add c v1 v2 (by rw [hL_sI, hL_sL, if_pos ⟨rfl, rfl⟩]) (fun k hk => by rw [hL_sI, hL_sL, if_neg (by omega)])
      have nk2 : NC (sI (sL h1 (u + 2) dn.length (Int64.ofNat (c5 (tW t)))) u 11 (nI (dn.length + 1))) (u + 1) kn := ⟨nk.1, nk.2.1, fun k hk => by rw [hL_sI, hL_sL, if_neg (by omega)]; exact nk.2.2 k hk⟩
      have r2 : XT b L (sI (sL h1 (u + 2) dn.length (Int64.ofNat (c5 (tW t)))) u 11 (nI (dn.length + 1))) t := r.o (fun k => by rw [hI_sI, if_neg (by omega)]; rfl) (fun k => by rw [hI_sI, if_neg (by omega)]; rfl) (by rw [hL_sI, hL_sL, if_neg (by omega)])
      have e2 : hI (sI (sL h1 (u + 2) dn.length (Int64.ofNat (c5 (tW t)))) u 11 (nI (dn.length + 1))) u 11 = nI (dn.length + 1) := hI_sI_s _ _ _ _
      have e20 : hI (sI (sL h1 (u + 2) dn.length (Int64.ofNat (c5 (tW t)))) u 11 (nI (dn.length + 1))) u 10 = nI kn.length := by rw [hI_sI, if_neg (by omega)]; exact e10
      have hu4 : hR (sI (sL h1 (u + 2) dn.length (Int64.ofNat (c5 (tW t)))) u 11 (nI (dn.length + 1))) 1 1 = some u := hu
      generalize sI (sL h1 (u + 2) dn.length (Int64.ofNat (c5 (tW t)))) u 11 (nI (dn.length + 1)) = h4 at f2 n2 nk2 r2 e2 e20 hu4 ⊢
      obtain ⟨h5, e5, f5, x5⟩ := r2.next h3
      have x5' : CT1 b L h5 (newR b L dn t) := by rw [nr]; exact x5
      obtain ⟨h6, e6, f6, c6⟩ := needC (k := 258) x5' (by omega) (by omega)
      have e6' : f_Reader_need 258 h5 = some h6 := e6
      have f56 := f5.t f6
      have hu6 : hR h6 1 1 = some u := by rw [f56.2.2.2 _ (fun z => z)]; exact hu4
      obtain ⟨h7, e7', f7, c7⟩ := kindC c6 hu6 ku (nk2.frl f56 (fun k => by show ¬ (u + 1 = 1 ∧ _); omega)) (by rw [f56.2.1 _ _ (by show ¬ (u = 1 ∧ _); omega)]; exact e20) hk
      have e7n : f_Reader_needKind h6 = some (nI (kindV kn (dl1 b L dn t)), h7) := e7'
      have c7n : CT1 b L h7 (kindR b L kn (dl1 b L dn t)) := c7
      rw [e5, bV_s, e6', bV_s, gd_ok _ hu6 ku, e7n, bI_s, gx_n _ hl (by omega), lt_e]
      have c8' := c7n.s (u := u + 3) (k := dn.length) (by omega) (nI (kindV kn (dl1 b L dn t)))
      have f8 : FrD u dn.length h7 (sI h7 (u + 3) dn.length (nI (kindV kn (dl1 b L dn t)))) := (FrL.rf _ _ _ h7).s (c := u + 3) (k := dn.length) (Or.inr ⟨by omega, by omega, rfl⟩) _
      have w8 : hI (sI h7 (u + 3) dn.length (nI (kindV kn (dl1 b L dn t)))) (u + 3) dn.length = nI (kindV kn (dl1 b L dn t)) := hI_sI_s _ _ _ _
      have hu8 : hR (sI h7 (u + 3) dn.length (nI (kindV kn (dl1 b L dn t)))) 1 1 = some u := by show hR h7 1 1 = _; rw [f7.2.2.2 _ (fun z => z)]; exact hu6
      generalize sI h7 (u + 3) dn.length (nI (kindV kn (dl1 b L dn t))) = h8 at c8' f8 w8 hu8 ⊢
      obtain ⟨h9, e9, f9, c9⟩ := needC (k := 259) c8' (by omega) (by omega)
      have e9' : f_Reader_need 259 h8 = some h9 := e9
      have hu9 : hR h9 1 1 = some u := by rw [f9.2.2.2 _ (fun z => z)]; exact hu8
      have c9n : CT1 b L h9 (dl2 b L kn dn t) := c9
      obtain ⟨ha, ea, fa, ca⟩ := numC (lo := 0) (hi := 9) c9n (by omega) (by omega)
      have ea' : f_Reader_needNumber 0 9 h9 = _ := ea
      rw [e9', bV_s, gd_ok _ hu9 ku, ea', bI_s, gx_n _ hl (by omega), lt_e]
      have can : CT1 b L ha (dl3 b L kn dn t) := ca
      have cb := can.s (u := u + 4) (k := dn.length) (by omega) (nI (numV 0 9 (dl2 b L kn dn t)))
      have fb : FrD u dn.length ha (sI ha (u + 4) dn.length (nI (numV 0 9 (dl2 b L kn dn t)))) := (FrL.rf _ _ _ ha).s (c := u + 4) (k := dn.length) (Or.inr ⟨by omega, by omega, rfl⟩) _
      have wb : hI (sI ha (u + 4) dn.length (nI (numV 0 9 (dl2 b L kn dn t)))) (u + 4) dn.length = nI (numV 0 9 (dl2 b L kn dn t)) := hI_sI_s _ _ _ _
      have z1 : ∀ {x y : AH}, FrN x y → ∀ k j, hI y (u + k) j = hI x (u + k) j := fun f k j => f.2.1 _ _ (by show ¬ (u + k = 1 ∧ _); omega)
      have wb3 : hI (sI ha (u + 4) dn.length (nI (numV 0 9 (dl2 b L kn dn t)))) (u + 3) dn.length = nI (kindV kn (dl1 b L dn t)) := by rw [hI_sI, if_neg (by omega), z1 fa 3, z1 f9 3]; exact w8
      have hub : hR (sI ha (u + 4) dn.length (nI (numV 0 9 (dl2 b L kn dn t)))) 1 1 = some u := by show hR ha 1 1 = _; rw [fa.2.2.2 _ (fun z => z)]; exact hu9
      generalize sI ha (u + 4) dn.length (nI (numV 0 9 (dl2 b L kn dn t))) = hb at cb fb wb wb3 hub ⊢
      have fall := (((((gD (FrN.d f56)).t (gD (FrN.d f7))).t (gD f8)).t (gD (FrN.d f9))).t (gD (FrN.d fa))).t (gD fb)
      obtain ⟨hc, ec, fc, cc, nc, yc⟩ := optC (k := 260) (hi := 99) cb (by omega) (by omega) (by omega)
      have ec' : f_Reader_take 260 hb = _ := ec
      have huc : hR hc 1 1 = some u := by rw [fc.2.2.2 _ (fun z => z)]; exact hub
      rw [gd_ok _ hub ku, ec', bI_s]
      have fin : ∀ (hd : AH) (v : Int32), FrN hc hd → CT1 b L hd (dl4 b L kn dn t) → v = nI (optV b L 260 99 (dl3 b L kn dn t)) → ∃ h9, f_Reader_readDealer_b126 (nI dn.length) (u + 5) (nI dn.length) v hd = some h9 ∧ FrL (fun c k => dlC u dn.length c k ∨ (c = u ∧ k = 11)) (fun c k => nxD c k ∨ (c = u + 2 ∧ k = dn.length)) nxR h1 h9 ∧ CT1 b L h9 (dl7 b L kn dn t) ∧ ((∃ t', newR b L dn t = .ok t') → NC h9 (u + 2) (dn ++ [tW t]) ∧ hI h9 u 11 = nI (dn.length + 1) ∧ hI h9 (u + 3) dn.length = nI (kindV kn (dl1 b L dn t)) ∧ hI h9 (u + 4) dn.length = nI (numV 0 9 (dl2 b L kn dn t)) ∧ hI h9 (u + 5) dn.length = nI (optV b L 260 99 (dl3 b L kn dn t)) ∧ hI h9 (u + 6) dn.length = nI (optV b L 261 9999 (dl4 b L kn dn t)) ∧ hI h9 (u + 7) dn.length = nI (optV b L 262 99 (dl5 b L kn dn t)) ∧ hI h9 (u + 8) dn.length = nI (optV b L 263 9 (dl6 b L kn dn t))) := fun hd v fd cd hv => by
        have hud : hR hd 1 1 = some u := by rw [fd.2.2.2 _ (fun z => z)]; exact huc
        obtain ⟨hz, ez, fz, cz, a1, a2, a3, a4, a5⟩ := b126C cd u3 hud ku hl v
        have fD := ((((FrN.d f56).t (FrN.d f7)).t f8).t ((FrN.d f9).t ((FrN.d fa).t fb))).t (((FrN.d fc).t (FrN.d fd)).t fz)
        refine ⟨hz, ez, f2.t (gD fD), cz, fun _ => ⟨n2.frl fD (fun k => by show ¬ (u + 2 = 1 ∧ _); omega), ?_, ?_, ?_, by rw [a4, hv], a3, a2, a1⟩⟩
        · rw [fD.2.1 _ _ (by show ¬ ((u = 1 ∧ _) ∨ (u + 3 ≤ u ∧ _)); omega)]; exact e2
        · rw [a5 3 (by omega), z1 fd 3, z1 fc 3]; exact wb3
        · rw [a5 4 (by omega), z1 fd 4, z1 fc 4]; exact wb
      by_cases tb : takeB 260 (dl3 b L kn dn t) = true
      · obtain ⟨hd, ed, fd, cd⟩ := yc tb
        have ed' : f_Reader_needNumber 0 99 hc = _ := ed
        rw [if_pos tb, if_neg (show ¬ (1 : Int32) = 0 by decide), ed', bI_s]
        exact fin hd _ fd cd rfl
      · rw [if_neg tb, if_pos rfl]
        exact fin hc 0 (FrL.rf _ _ _ hc) (nc tb) (by unfold optV; rw [if_neg tb]; rfl)
  · rw [if_neg h2] at x1
    have y : (if tC t = 2 ∧ ¬ nix (tW t) dn < dn.length then (1 : Int32) else 0) = 0 := if_neg (fun z => h2 z.1)
    have nr : newR b L dn t = .error (er 2 t) := by unfold newR; rw [if_neg h2]
    rw [y, if_neg (fun z => z rfl), dl_err nr]
    exact ⟨h1, rfl, gD (FrN.d f1), x1, fun ⟨_, z⟩ => (by rw [nr] at z; cases z)⟩
