/-! ===== cart and draw; the end of a line ===== -/
theorem oneC {b : Nat → Nat} {L u k lo hi : Nat} {h : AH} {x : Except (Nat × Nat) LT} (c : CT1 b L h x) (u3 : 3 ≤ u) (hu : hR h 1 1 = some u) (ku : kdF u = .inr 7) (hl : lo < 100000) (hh : hi < 100000) (K : AH → Option AH) : ∃ h1, (gd h 1 1 7 fun cq => bI (f_Reader_needNumber (nI lo) (nI hi) h) fun rq hq => lt (sI hq cq k rq) fun hq2 => K hq2) = K h1 ∧ FrL (fun c k' => nxC c k' ∨ (c = u ∧ k' = k)) nxD nxR h h1 ∧ CT1 b L h1 (numR b L lo hi x) ∧ hI h1 u k = nI (numV lo hi x) := by
  obtain ⟨h1, e1, f1, c1⟩ := numC (lo := lo) (hi := hi) c hl hh
  have f1' : FrL (fun c k' => nxC c k' ∨ (c = u ∧ k' = k)) nxD nxR h h1 := f1.mn (fun _ _ z => Or.inl z) (fun _ _ z => z) (fun _ z => z)
  refine ⟨sI h1 u k (nI (numV lo hi x)), by rw [gd_ok _ hu ku, e1, bI_s, lt_e], f1'.s (c := u) (k := k) (Or.inr ⟨rfl, rfl⟩) _, c1.s u3 _, hI_sI_s _ _ _ _⟩
theorem oneM {b : Nat → Nat} {L k lo hi j : Nat} {h : AH} {t : LT} {a : Int64} {l : List Nat} (c : YT1 b L h t) (ht : tC t = 256 + j) (hj : j < 19) (hw : kwl[j]? = some l) (ha : a = Int64.ofNat (c8 l)) (hk : 10 ≤ k) (hl : lo < 100000) (hh : hi < 100000) (K : AH → Option AH) : ∃ h1, (bI (f_M_told a (nI lo) (nI hi) h) fun rq hq => lt (sI hq 383 k rq) fun hq2 => K hq2) = K h1 ∧ FrL (fun c k' => frW c k' ∨ (c = 383 ∧ k' = k)) tkD nxR h h1 ∧ MT1 b L h1 (numR b L lo hi (.ok (nxl b L t))) ∧ ((∃ t', numR b L lo hi (.ok (nxl b L t)) = .ok t') → hI h1 383 k = nI (numV lo hi (.ok (nxl b L t)))) := by
  have nt : needR b L (256 + j) (.ok t) = .ok (nxl b L t) := by show (if tC t = 256 + j then _ else _) = _; rw [if_pos ht]
  obtain ⟨v1, h1, e1, f1, c1, k1⟩ := toldM (x := .ok t) (lo := lo) (hi := hi) c hj hw ha hl hh
  unfold toldR at c1 k1
  rw [nt] at c1 k1
  have f1' : FrL (fun c k' => frW c k' ∨ (c = 383 ∧ k' = k)) tkD nxR h h1 := f1.mn (fun _ _ z => Or.inl z) (fun _ _ z => z) (fun _ z => z)
  refine ⟨sI h1 383 k v1, by rw [e1, bI_s, lt_e], f1'.s (c := 383) (k := k) (Or.inr ⟨rfl, rfl⟩) _, c1.s (by omega) (by omega) _, fun ok => ?_⟩
  rw [hI_sI_s]
  exact k1 ok
/-- a line's end -/
theorem semiC {b : Nat → Nat} {L : Nat} {h : AH} {x : Except (Nat × Nat) LT} (c : CT1 b L h x) : ∃ h1, f_Reader_readLine_b179 h = some h1 ∧ FrN h h1 ∧ CT1 b L h1 (needR b L 59 x) := by
  obtain ⟨h1, e1, f1, c1⟩ := needC (k := 59) c (by omega) (by omega)
  have e1' : f_Reader_need 59 h = some h1 := e1
  exact ⟨h1, by rw [f_Reader_readLine_b179, e1', bV_s], f1, c1⟩
theorem semiM {b : Nat → Nat} {L : Nat} {h : AH} {x : Except (Nat × Nat) LT} (c : MT1 b L h x) : ∃ h1, f_M_readLine_b242 h = some h1 ∧ FrW h h1 ∧ MT1 b L h1 (needR b L 59 x) := by
  cases x with
  | error e =>
    have c' : DJ b L h e := c
    exact ⟨h, by rw [f_M_readLine_b242, if_pos c'.v.1, f_M_readLine_b263, if_pos c'.v.1], FrL.rf _ _ _ h, c⟩
  | ok t =>
    have r : YT1 b L h t := c
    rw [f_M_readLine_b242, r.2.2.2.2.1, if_neg (fun z => z rfl), r.1.2.2.2.1]
    show ∃ h1, _ ∧ _ ∧ MT1 b L h1 (if tC t = 59 then .ok (nxl b L t) else .error (er 2 t))
    by_cases e : tC t = 59
    · rw [if_pos (show nI (srt (tC t)) = (59 : Int32) from (srt_k (k := 59) r.2.1.2 (by omega) (by omega)).mpr e), if_pos e, f_M_readLine_b263, r.2.2.2.2.1, if_neg (fun z => z rfl)]
      obtain ⟨h1, e1, f1, x1⟩ := r.next (by omega)
      exact ⟨h1, by rw [e1, bV_s], FrK.w f1, x1⟩
    · rw [if_neg (show ¬ nI (srt (tC t)) = (59 : Int32) from fun z => e ((srt_k (k := 59) r.2.1.2 (by omega) (by omega)).mp z)), if_neg e]
      obtain ⟨h1, e1, f1, x1, -⟩ := r.wrong (j := 2) (by omega) (by omega)
      have e1' : f_M_wrong 2 h = some h1 := e1
      exact ⟨h1, by rw [e1', bV_s, f_M_readLine_b263, if_pos x1.v.1], f1, x1⟩
