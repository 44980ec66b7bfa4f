/-! ===== lines of a snap, a cart, a draw ===== -/
theorem CT1.o {b : Nat → Nat} {L : Nat} {h h1 : AH} {x : Except (Nat × Nat) LT} (c : CT1 b L h x) (e : ∀ k, hI h1 1 k = hI h 1 k) (e2 : ∀ k, hI h1 2 k = hI h 2 k) (e7 : hL h1 1 7 = hL h 1 7) : CT1 b L h1 x := by
  cases x with
  | ok t => exact XT.o c e e2 e7
  | error q =>
    obtain ⟨⟨c1, c2, c3, c4⟩, x10, x1, x2, x11, x4⟩ := (c : DT b L h q)
    exact ⟨⟨c1, (e _).trans c2, fun k hk => (e2 _).trans (c3 k hk), c4⟩, (e _).trans x10, x1, x2, (e _).trans x11, (e _).trans x4⟩
theorem CT1.s {b : Nat → Nat} {L : Nat} {h : AH} {x : Except (Nat × Nat) LT} (c : CT1 b L h x) {u k : Nat} (u3 : 3 ≤ u) (v : Int32) : CT1 b L (sI h u k v) x := c.o (fun k => by rw [hI_sI, if_neg (by omega)]) (fun k => by rw [hI_sI, if_neg (by omega)]) rfl
theorem MT1.s {b : Nat → Nat} {L : Nat} {h : AH} {x : Except (Nat × Nat) LT} (c : MT1 b L h x) {q k : Nat} (hq : ¬ q = 384) (h1 : ¬ (q = 383 ∧ k < 10)) (v : Int32) : MT1 b L (sI h q k v) x := by
  have o : ∀ j, j < 10 → hI (sI h q k v) 383 j = hI h 383 j := fun j hj => by rw [hI_sI, if_neg (by omega)]
  have mo : MBs b L h → MBs b L (sI h q k v) := fun m => ⟨m.1, (o 5 (by omega)).trans m.2.1, fun k hk => by rw [hI_sI, if_neg (by omega)]; exact m.2.2.1 k hk, m.2.2.2⟩
  cases x with
  | ok t =>
    obtain ⟨r, v', tg, n, f0, e33⟩ := (c : YT1 b L h t)
    exact ⟨r.o (mo r.1) (fun k hk => o _ (by omega)) rfl, v', tg, n, (o _ (by omega)).trans f0, (o _ (by omega)).trans e33⟩
  | error e =>
    obtain ⟨m, x1, x2, x3, x4⟩ := (c : DJ b L h e)
    exact ⟨mo m, (o _ (by omega)).trans x1, x2, x3, (o _ (by omega)).trans x4⟩
def snapR (b : Nat → Nat) (L : Nat) (x : Except (Nat × Nat) LT) : Except (Nat × Nat) LT := numR b L 1 20 (needR b L 258 (numR b L 0 100 x))
theorem snapC {b : Nat → Nat} {L u : Nat} {h : AH} {x : Except (Nat × Nat) LT} (c : CT1 b L h x) (u3 : 3 ≤ u) (hu : hR h 1 1 = some u) (ku : kdF u = .inr 7) : ∃ h1, f_Reader_readSnap h = some h1 ∧ FrL (fun c k => nxC c k ∨ (c = u ∧ (k = 12 ∨ k = 13))) nxD nxR h h1 ∧ CT1 b L h1 (snapR b L x) ∧ hI h1 u 12 = nI (numV 0 100 x) ∧ hI h1 u 13 = nI (numV 1 20 (needR b L 258 (numR b L 0 100 x))) := by
  have g : ∀ {x y : AH}, FrN x y → FrL (fun c k => nxC c k ∨ (c = u ∧ (k = 12 ∨ k = 13))) nxD nxR x y := fun f => f.mn (fun _ _ z => Or.inl z) (fun _ _ z => z) (fun _ z => z)
  obtain ⟨h1, e1, f1, c1⟩ := numC (lo := 0) (hi := 100) c (by omega) (by omega)
  have e1' : f_Reader_needNumber 0 100 h = some (nI (numV 0 100 x), h1) := e1
  have c2 := c1.s (u := u) (k := 12) u3 (nI (numV 0 100 x))
  have f2 : FrL (fun c k => nxC c k ∨ (c = u ∧ (k = 12 ∨ k = 13))) nxD nxR h (sI h1 u 12 (nI (numV 0 100 x))) := (g f1).s (c := u) (k := 12) (Or.inr ⟨rfl, Or.inl rfl⟩) _
  have v2 : hI (sI h1 u 12 (nI (numV 0 100 x))) u 12 = nI (numV 0 100 x) := hI_sI_s _ _ _ _
  rw [f_Reader_readSnap, gd_ok _ hu ku, e1', bI_s, lt_e]
  generalize sI h1 u 12 (nI (numV 0 100 x)) = h2 at c2 f2 v2 ⊢
  obtain ⟨h3, e3, f3, c3⟩ := needC (k := 258) c2 (by omega) (by omega)
  have e3' : f_Reader_need 258 h2 = some h3 := e3
  have hu3 : hR h3 1 1 = some u := by rw [f3.2.2.2 _ (fun z => z), f2.2.2.2 _ (fun z => z)]; exact hu
  obtain ⟨h4, e4, f4, c4⟩ := numC (lo := 1) (hi := 20) c3 (by omega) (by omega)
  have e4' : f_Reader_needNumber 1 20 h3 = some (nI (numV 1 20 (needR b L 258 (numR b L 0 100 x))), h4) := e4
  rw [e3', bV_s, gd_ok _ hu3 ku, e4', bI_s, lt_e]
  refine ⟨_, rfl, ((f2.t (g f3)).t (g f4)).s (c := u) (k := 13) (Or.inr ⟨rfl, Or.inr rfl⟩) _, c4.s u3 _, ?_, hI_sI_s _ _ _ _⟩
  rw [hI_sI, if_neg (by omega), f4.2.1 _ _ (by show ¬ (u = 1 ∧ _); omega), f3.2.1 _ _ (by show ¬ (u = 1 ∧ _); omega)]
  exact v2
/-- the reference's, from the word snap on -/
theorem snapM {b : Nat → Nat} {L : Nat} {h : AH} {t : LT} (c : YT1 b L h t) (ht : tC t = 266) (K : AH → Option AH) : ∃ h1, (bI (f_M_told 1936613744 0 100 h) fun rq4 hq5 => lt (sI hq5 383 38 rq4) fun hq6 => bI (f_M_told 28518 1 20 hq6) fun rq7 hq8 => lt (sI hq8 383 39 rq7) fun hq9 => K hq9) = K h1 ∧ FrL (fun c k => frW c k ∨ (c = 383 ∧ (k = 38 ∨ k = 39))) tkD nxR h h1 ∧ MT1 b L h1 (snapR b L (.ok (nxl b L t))) ∧ ((∃ t', snapR b L (.ok (nxl b L t)) = .ok t') → hI h1 383 38 = nI (numV 0 100 (.ok (nxl b L t))) ∧ hI h1 383 39 = nI (numV 1 20 (needR b L 258 (numR b L 0 100 (.ok (nxl b L t)))))) := by
  have g : ∀ {x y : AH}, FrW x y → FrL (fun c k => frW c k ∨ (c = 383 ∧ (k = 38 ∨ k = 39))) tkD nxR x y := fun f => f.mn (fun _ _ z => Or.inl z) (fun _ _ z => z) (fun _ z => z)
  have nt : needR b L (256 + 10) (.ok t) = .ok (nxl b L t) := by show (if tC t = 256 + 10 then _ else _) = _; rw [if_pos ht]
  obtain ⟨v1, h1, e1, f1, c1, k1⟩ := toldM (x := .ok t) (lo := 0) (hi := 100) (j := 10) (l := [115, 110, 97, 112]) (a := 1936613744) c (by omega) rfl (by decide) (by omega) (by omega)
  unfold toldR at c1 k1
  rw [nt] at c1 k1
  have e1' : f_M_told 1936613744 0 100 h = some (v1, h1) := e1
  have c2 := c1.s (q := 383) (k := 38) (by omega) (by omega) v1
  have f2 := (g f1).s (c := 383) (k := 38) (Or.inr ⟨rfl, Or.inl rfl⟩) v1
  have w2 : hI (sI h1 383 38 v1) 383 38 = v1 := hI_sI_s _ _ _ _
  rw [e1', bI_s, lt_e]
  generalize sI h1 383 38 v1 = h2 at c2 f2 w2 ⊢
  obtain ⟨v3, h3, e3, f3, c3, k3⟩ := toldM (lo := 1) (hi := 20) (j := 2) (l := [111, 102]) (a := 28518) c2 (by omega) rfl (by decide) (by omega) (by omega)
  have e3' : f_M_told 28518 1 20 h2 = some (v3, h3) := e3
  rw [e3', bI_s, lt_e]
  refine ⟨_, rfl, (f2.t (g f3)).s (c := 383) (k := 39) (Or.inr ⟨rfl, Or.inr rfl⟩) _, c3.s (by omega) (by omega) _, fun ok => ⟨?_, ?_⟩⟩
  · rw [hI_sI, if_neg (by omega), f3.2.1 _ _ (by show ¬ ((383 = 383 ∧ _) ∨ (383 = 383 ∧ _)); omega), w2]
    refine k1 ?_
    obtain ⟨t', q⟩ := ok
    cases hx : numR b L 0 100 (.ok (nxl b L t)) with
    | ok t2 => exact ⟨t2, rfl⟩
    | error e => unfold snapR at q; rw [hx] at q; cases q
  · rw [hI_sI_s]
    exact k3 ok
