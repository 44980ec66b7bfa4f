/-! ===== the reference reads formulas by a stack ===== -/
theorem lx_TG {b : Nat → Nat} {L p : Nat} (hp : p ≤ L) : TG L (lx b L p) ∧ p ≤ tP (lx b L p) := by
  have q1 := rn_ge (fun k => isBN (b k)) L (L - p) p
  have q2 := rn_le (fun k => isBN (b k)) L (L - p) p hp
  unfold lx
  generalize rn (fun k => isBN (b k)) L (L - p) p = q at q1 q2
  have bad : ∀ c, c = 0 ∨ c = 3 → TG L (c, q, q, 0, []) ∧ p ≤ tP (c, q, q, 0, []) := fun c hc => ⟨⟨q2, q2, fun a a3 => by rcases hc with rfl | rfl; exact absurd rfl a; exact absurd rfl a3⟩, q1⟩
  by_cases h1 : L ≤ q
  · rw [if_pos h1]; exact bad 0 (Or.inl rfl)
  rw [if_neg h1]
  by_cases h2 : isLN (b q) = true
  · rw [if_pos h2]
    have e0 := rn_1 (fun k => isLN (b k)) L (show q < L by omega) h2
    have e2 := rn_le (fun k => isLN (b k)) L (L - q) q q2
    generalize rn (fun k => isLN (b k)) L (L - q) q = e at e0 e2
    by_cases h8 : 8 < e - q
    · rw [show (if 8 < e - q then ((3 : Nat), q, q, 0, ([] : List Nat)) else (kwc (wl b q (e - q)), q, e, 0, wl b q (e - q))) = (3, q, q, 0, []) from if_pos h8]
      exact bad 3 (Or.inr rfl)
    · rw [show (if 8 < e - q then ((3 : Nat), q, q, 0, ([] : List Nat)) else (kwc (wl b q (e - q)), q, e, 0, wl b q (e - q))) = (kwc (wl b q (e - q)), q, e, 0, wl b q (e - q)) from if_neg h8]
      exact ⟨⟨e2, q2, fun _ _ => e0⟩, q1⟩
  rw [if_neg h2]
  by_cases h3 : isDN (b q) = true
  · rw [if_pos h3]
    have e0 := rn_1 (fun k => isDN (b k)) L (show q < L by omega) h3
    have e2 := rn_le (fun k => isDN (b k)) L (L - q) q q2
    generalize rn (fun k => isDN (b k)) L (L - q) q = e at e0 e2
    by_cases h4 : 4 < e - q ∨ (e < L ∧ isLN (b e) = true)
    · rw [show (if 4 < e - q ∨ (e < L ∧ isLN (b e) = true) then ((3 : Nat), q, q, 0, ([] : List Nat)) else (1, q, e, nm b q (e - q), [])) = (3, q, q, 0, []) from if_pos h4]
      exact bad 3 (Or.inr rfl)
    · rw [show (if 4 < e - q ∨ (e < L ∧ isLN (b e) = true) then ((3 : Nat), q, q, 0, ([] : List Nat)) else (1, q, e, nm b q (e - q), [])) = (1, q, e, nm b q (e - q), []) from if_neg h4]
      exact ⟨⟨e2, q2, fun _ _ => e0⟩, q1⟩
  rw [if_neg h3]
  by_cases h4 : isSN (b q) = true
  · rw [if_pos h4]
    exact ⟨⟨by show q + 1 ≤ L; omega, q2, fun _ _ => by show q < q + 1; omega⟩, q1⟩
  · rw [if_neg h4]; exact bad 3 (Or.inr rfl)
theorem nxl_k (b : Nat → Nat) (L : Nat) : NXk (nxl b L) L := fun _ h => lx_TG h.1
abbrev frC (w : Nat) : Nat → Nat → Prop := fun c k => tkC c k ∨ (c = 383 ∧ (k = 2 ∨ k = 3 ∨ k = 21 ∨ k = 22 ∨ k = 24 ∨ k = 25)) ∨ c = 392 ∨ ((c = 386 ∨ c = 387) ∧ 320 * w ≤ k ∧ k < 320 * w + 320) ∨ (c = 388 ∧ k = w)
abbrev FrF (w : Nat) (h h1 : AH) : Prop := FrL (frC w) tkD nxR h h1
theorem FrK.f {w : Nat} {h h1 : AH} (f : FrK h h1) : FrF w h h1 := f.mn (fun _ _ z => Or.inl z) (fun _ _ z => z) (fun _ z => z)
theorem FrA.f {w : Nat} {h h1 : AH} (f : FrA w h h1) : FrF w h h1 := f.mn (fun c k z => by
  show _ ∨ (c = 383 ∧ _) ∨ _
  rcases z with z | z | z
  · right; left; exact ⟨z.1, by omega⟩
  · right; right; right; left; exact z
  · right; right; right; right; exact z) (fun _ _ z => z.elim) (fun _ z => z)
theorem MBs.frf {b : Nat → Nat} {L w : Nat} {h h1 : AH} (c : MBs b L h) (f : FrF w h h1) : MBs b L h1 := by
  refine ⟨c.1, ?_, fun k hk => ?_, c.2.2.2⟩
  · rw [f.2.1 _ _ (by show ¬ ((383 = 383 ∧ _) ∨ (383 = 383 ∧ _) ∨ _); omega)]; exact c.2.1
  · rw [f.2.1 _ _ (by show ¬ ((384 = 383 ∧ _) ∨ (384 = 383 ∧ _) ∨ _); omega)]; exact c.2.2.1 k hk
/-- the reference within a formula -/
def XM (b : Nat → Nat) (L w u0 : Nat) (h : AH) (s : FS) (st : List Nat) (dp : Nat) : Prop := RM b L h s.1 ∧ (TKV s.1 ∧ tC s.1 < 300) ∧ hI h 383 2 = 0 ∧ SK h st ∧ CD h w s.2.2 ∧ hI h 383 25 = nI dp ∧ hI h 383 24 = nI s.2.1 ∧ hI h 383 22 = nI (u0 + s.2.1) ∧ hI h 383 3 = -1
def DJ (b : Nat → Nat) (L : Nat) (h : AH) (e : Nat × Nat) : Prop := MBs b L h ∧ hI h 383 2 = nI e.1 ∧ 1 ≤ e.1 ∧ e.1 < 100 ∧ hI h 383 3 = nI e.2
theorem RM.o {b : Nat → Nat} {L : Nat} {h h1 : AH} {t : LT} (r : RM b L h t) (m : MBs b L h1) (e : ∀ k, k = 4 ∨ k = 6 ∨ k = 7 ∨ k = 8 → hI h1 383 k = hI h 383 k) (e9 : hL h1 383 9 = hL h 383 9) : RM b L h1 t := by
  obtain ⟨r1, r2, r3, r4, r5⟩ := r
  refine ⟨m, (e 7 (by omega)).trans r2, r3, (e 6 (by omega)).trans r4, fun z => ?_⟩
  obtain ⟨a1, a2, a3, a4⟩ := r5 z
  exact ⟨(e 4 (by omega)).trans a1, a2, fun y => (e 8 (by omega)).trans (a3 y), fun y => e9.trans (a4 y)⟩
theorem XM.wrong {b : Nat → Nat} {L w u0 : Nat} {h : AH} {s : FS} {st : List Nat} {dp : Nat} (x : XM b L w u0 h s st dp) : ∃ h1, f_M_wrong 2 h = some h1 ∧ FrF w h h1 ∧ DJ b L h1 (er 2 s.1) ∧ ∀ k, ¬ k = 2 → ¬ k = 3 → hI h1 383 k = hI h 383 k := by
  obtain ⟨r, ⟨v, v2⟩, f0, -⟩ := x
  have go : ∀ n : Nat, 1 ≤ n → n < 100 → FrF w h (sI (sI h 383 2 (nI n)) 383 3 (nI (tP s.1))) ∧ DJ b L (sI (sI h 383 2 (nI n)) 383 3 (nI (tP s.1))) (n, tP s.1) ∧ ∀ k, ¬ k = 2 → ¬ k = 3 → hI (sI (sI h 383 2 (nI n)) 383 3 (nI (tP s.1))) 383 k = hI h 383 k := fun n n1 n2 => by
    have f : FrF w h (sI (sI h 383 2 (nI n)) 383 3 (nI (tP s.1))) := ((FrL.rf _ _ _ h).s (c := 383) (k := 2) (Or.inr (Or.inl ⟨rfl, by omega⟩)) _).s (c := 383) (k := 3) (Or.inr (Or.inl ⟨rfl, by omega⟩)) _
    refine ⟨f, ⟨r.1.frf f, ?_, n1, n2, hI_sI_s _ _ _ _⟩, fun k k2 k3 => ?_⟩
    · rw [hI_sI, if_neg (by omega), hI_sI_s]
    · rw [hI_sI, if_neg (by omega), hI_sI, if_neg (by omega)]
  have e7 : ∀ n : Nat, hI (sI h 383 2 (nI n)) 383 7 = nI (tP s.1) := fun n => by rw [hI_sI, if_neg (by omega)]; exact r.2.1
  rw [f_M_wrong, f0, if_pos (Int32.le_refl _), r.2.2.2.1]
  unfold er
  by_cases h3 : tC s.1 = 3
  · rw [if_neg (show ¬ ¬ nI (srt (tC s.1)) = (3 : Int32) from fun z => z ((srt_k (k := 3) v2 (by omega) (by omega)).mpr h3)), if_pos h3, f_M_wrong_b22, lt_e, lt_e, show (1 : Int32) = nI 1 from rfl, e7]
    obtain ⟨g1, g2, g3⟩ := go 1 (by omega) (by omega)
    exact ⟨_, rfl, g1, g2, g3⟩
  · rw [if_pos (show ¬ nI (srt (tC s.1)) = (3 : Int32) from fun z => h3 ((srt_k (k := 3) v2 (by omega) (by omega)).mp z)), if_neg h3, f_M_wrong_b22, lt_e, lt_e, show (2 : Int32) = nI 2 from rfl, e7]
    obtain ⟨g1, g2, g3⟩ := go 2 (by omega) (by omega)
    exact ⟨_, rfl, g1, g2, g3⟩
theorem SK.o {h h1 : AH} {st : List Nat} (k : SK h st) (e : hI h1 383 21 = hI h 383 21) (f : ∀ k, hI h1 392 k = hI h 392 k) : SK h1 st := ⟨e.trans k.1, fun j hj => (f _).trans (k.2.1 j hj), k.2.2⟩
theorem XM.next {b : Nat → Nat} {L w u0 : Nat} {h : AH} {s : FS} {st : List Nat} {dp : Nat} (x : XM b L w u0 h s st dp) (h3 : ¬ tC s.1 = 3) : ∃ h1, f_M_token h = some h1 ∧ FrF w h h1 ∧ XM b L w u0 h1 (nxl b L s.1, s.2.1, s.2.2) st dp := by
  obtain ⟨r, v, f0, k, d, e1, e2, e3, e33⟩ := x
  obtain ⟨r4, r5, -⟩ := r.2.2.2.2 h3
  obtain ⟨h1, q1, q2, q3⟩ := token_ok r.1 r5 r4
  have o : ∀ k, ¬ (k = 4 ∨ k = 6 ∨ k = 7 ∨ k = 8) → hI h1 383 k = hI h 383 k := fun k hk => q2.2.1 _ _ (fun z => hk z.2)
  have o2 : ∀ c k, ¬ c = 383 → hI h1 c k = hI h c k := fun c k hc => q2.2.1 _ _ (fun z => hc z.1)
  refine ⟨h1, q1, FrK.f q2, q3, lx_kw b L _, (o 2 (by omega)).trans f0, k.o (o 21 (by omega)) (fun k => o2 _ _ (by omega)), d.o (o 20 (by omega)) (fun k => o2 _ _ (by omega)) (fun k => o2 _ _ (by omega)) (fun k => o2 _ _ (by omega)), (o 25 (by omega)).trans e1, (o 24 (by omega)).trans e2, (o 22 (by omega)).trans e3, (o 3 (by omega)).trans e33⟩
theorem XM.up {b : Nat → Nat} {L w u0 : Nat} {h : AH} {s : FS} {st : List Nat} {dp y : Nat} (x : XM b L w u0 h s st dp) (h3 : ¬ tC s.1 = 3) (hl : st.length < 150) (hy : y < 200) : ∃ h1, f_M_openUp (nI y) h = some h1 ∧ FrF w h h1 ∧ XM b L w u0 h1 (nxl b L s.1, s.2.1, s.2.2) (y :: st) (dp + 1) := by
  obtain ⟨r, v, f0, k, d, e1, e2, e3, e33⟩ := x
  have w1 : hI (sI h 392 st.length (nI y)) 383 21 = nI st.length := by rw [hI_sI, if_neg (by omega)]; exact k.1
  have w2 : hI (sI (sI h 392 st.length (nI y)) 383 21 (nI (st.length + 1))) 383 25 = nI dp := by rw [hI_sI, if_neg (by omega), hI_sI, if_neg (by omega)]; exact e1
  have f : FrF w h (sI (sI (sI h 392 st.length (nI y)) 383 21 (nI (st.length + 1))) 383 25 (nI (dp + 1))) := (((FrL.rf _ _ _ h).s (c := 392) (k := st.length) (Or.inr (Or.inr (Or.inl rfl))) _).s (c := 383) (k := 21) (Or.inr (Or.inl ⟨rfl, by omega⟩)) _).s (c := 383) (k := 25) (Or.inr (Or.inl ⟨rfl, by omega⟩)) _
  have o : ∀ c k, ¬ c = 392 → ¬ (c = 383 ∧ (k = 21 ∨ k = 25)) → hI (sI (sI (sI h 392 st.length (nI y)) 383 21 (nI (st.length + 1))) 383 25 (nI (dp + 1))) c k = hI h c k := fun c k h1 h2 => by
    rw [hI_sI, if_neg (by omega), hI_sI, if_neg (by omega), hI_sI, if_neg (by omega)]
  have k' : SK (sI (sI (sI h 392 st.length (nI y)) 383 21 (nI (st.length + 1))) 383 25 (nI (dp + 1))) (y :: st) := k.push hy (by rw [hI_sI, if_neg (by omega), hI_sI_s]) (fun j hj => by rw [hI_sI, if_neg (by omega), hI_sI, if_neg (by omega), hI_sI, if_neg (by omega)]) (by rw [hI_sI, if_neg (by omega), hI_sI, if_neg (by omega), hI_sI_s])
  have x' : XM b L w u0 (sI (sI (sI h 392 st.length (nI y)) 383 21 (nI (st.length + 1))) 383 25 (nI (dp + 1))) s (y :: st) (dp + 1) := ⟨r.o (r.1.frf f) (fun k hk => o _ _ (by omega) (by omega)) rfl, v, (o _ _ (by omega) (by omega)).trans f0, k', d.o (o _ _ (by omega) (by omega)) (fun k => o _ _ (by omega) (by omega)) (fun k => o _ _ (by omega) (by omega)) (fun k => o _ _ (by omega) (by omega)), hI_sI_s _ _ _ _, (o _ _ (by omega) (by omega)).trans e2, (o _ _ (by omega) (by omega)).trans e3, (o _ _ (by omega) (by omega)).trans e33⟩
  obtain ⟨h1, q1, q2, q3⟩ := x'.next h3
  refine ⟨h1, ?_, f.t q2, q3⟩
  rw [f_M_openUp, k.1, gx_n _ (show st.length < 160 by omega) (by omega), ix_n (by omega), lt_e, w1, nI_1, lt_e, w2, nI_1, lt_e, if_neg (fun z => z ((o 383 2 (by omega) (by omega)).trans f0)), q1, bV_s]
theorem DJ.up {b : Nat → Nat} {L w n : Nat} {h : AH} {e : Nat × Nat} (x : DJ b L h e) (hn : n < 150) (e1 : hI h 383 21 = nI n) (y : Int32) : ∃ h1, f_M_openUp y h = some h1 ∧ FrF w h h1 ∧ DJ b L h1 e := by
  obtain ⟨m, x1, x2, x3, x4⟩ := x
  have f : ∀ v1 v2 : Int32, FrF w h (sI (sI (sI h 392 n y) 383 21 v1) 383 25 v2) := fun v1 v2 => (((FrL.rf _ _ _ h).s (c := 392) (k := n) (Or.inr (Or.inr (Or.inl rfl))) _).s (c := 383) (k := 21) (Or.inr (Or.inl ⟨rfl, by omega⟩)) _).s (c := 383) (k := 25) (Or.inr (Or.inl ⟨rfl, by omega⟩)) _
  have o : ∀ (v1 v2 : Int32) k, ¬ (k = 21 ∨ k = 25) → hI (sI (sI (sI h 392 n y) 383 21 v1) 383 25 v2) 383 k = hI h 383 k := fun v1 v2 k h2 => by
    rw [hI_sI, if_neg (by omega), hI_sI, if_neg (by omega), hI_sI, if_neg (by omega)]
  rw [f_M_openUp, e1, gx_n _ (show n < 160 by omega) (by omega), ix_n (by omega), lt_e, lt_e, lt_e, if_pos (by rw [o _ _ 2 (by omega), x1]; exact fun z => by have := (n_inj (show e.1 < 2 ^ 31 by omega) (show 0 < 2 ^ 31 by omega)).mp z; omega)]
  exact ⟨_, rfl, f _ _, m.frf (f _ _), (o _ _ 2 (by omega)).trans x1, x2, x3, (o _ _ 3 (by omega)).trans x4⟩
theorem XM.count {b : Nat → Nat} {L w u0 : Nat} {h : AH} {s : FS} {st : List Nat} {dp : Nat} (x : XM b L w u0 h s st dp) : ∃ h1, f_M_countUnit h = some h1 ∧ FrF w h h1 ∧ XM b L w u0 h1 (s.1, s.2.1 + 1, s.2.2) st dp := by
  obtain ⟨r, v, f0, k, d, e1, e2, e3, e33⟩ := x
  have w1 : hI (sI h 383 22 (nI (u0 + (s.2.1 + 1)))) 383 24 = nI s.2.1 := by rw [hI_sI, if_neg (by omega)]; exact e2
  have f : FrF w h (sI (sI h 383 22 (nI (u0 + (s.2.1 + 1)))) 383 24 (nI (s.2.1 + 1))) := ((FrL.rf _ _ _ h).s (c := 383) (k := 22) (Or.inr (Or.inl ⟨rfl, by omega⟩)) _).s (c := 383) (k := 24) (Or.inr (Or.inl ⟨rfl, by omega⟩)) _
  have o : ∀ c k, ¬ (c = 383 ∧ (k = 22 ∨ k = 24)) → hI (sI (sI h 383 22 (nI (u0 + (s.2.1 + 1)))) 383 24 (nI (s.2.1 + 1))) c k = hI h c k := fun c k h2 => by
    rw [hI_sI, if_neg (by omega), hI_sI, if_neg (by omega)]
  refine ⟨_, by rw [f_M_countUnit, e3, nI_1, lt_e, show u0 + s.2.1 + 1 = u0 + (s.2.1 + 1) by omega, w1, nI_1, lt_e], f, r.o (r.1.frf f) (fun k hk => o _ _ (by omega)) rfl, v, (o _ _ (by omega)).trans f0, k.o (o _ _ (by omega)) (fun k => o _ _ (by omega)), d.o (o _ _ (by omega)) (fun k => o _ _ (by omega)) (fun k => o _ _ (by omega)) (fun k => o _ _ (by omega)), (o _ _ (by omega)).trans e1, hI_sI_s _ _ _ _, by rw [hI_sI, if_neg (by omega), hI_sI_s], (o _ _ (by omega)).trans e33⟩
theorem DJ.count {b : Nat → Nat} {L w : Nat} {h : AH} {e : Nat × Nat} (x : DJ b L h e) : ∃ h1, f_M_countUnit h = some h1 ∧ FrF w h h1 ∧ DJ b L h1 e ∧ hI h1 383 21 = hI h 383 21 := by
  obtain ⟨m, x1, x2, x3, x4⟩ := x
  have f : ∀ v1 v2 : Int32, FrF w h (sI (sI h 383 22 v1) 383 24 v2) := fun v1 v2 => ((FrL.rf _ _ _ h).s (c := 383) (k := 22) (Or.inr (Or.inl ⟨rfl, by omega⟩)) _).s (c := 383) (k := 24) (Or.inr (Or.inl ⟨rfl, by omega⟩)) _
  have o : ∀ (v1 v2 : Int32) k, ¬ (k = 22 ∨ k = 24) → hI (sI (sI h 383 22 v1) 383 24 v2) 383 k = hI h 383 k := fun v1 v2 k h2 => by
    rw [hI_sI, if_neg (by omega), hI_sI, if_neg (by omega)]
  rw [f_M_countUnit, lt_e, lt_e]
  exact ⟨_, rfl, f _ _, ⟨m.frf (f _ _), (o _ _ 2 (by omega)).trans x1, x2, x3, (o _ _ 3 (by omega)).trans x4⟩, o _ _ 21 (by omega)⟩
theorem XM.add {b : Nat → Nat} {L w u0 : Nat} {h : AH} {s : FS} {st : List Nat} {dp : Nat} (x : XM b L w u0 h s st dp) (y : Nat × Nat) (hl : s.2.2.length < 320) : ∃ h1, f_M_add (nI y.1) (nI y.2) h = some h1 ∧ FrF w h h1 ∧ XM b L w u0 h1 (s.1, s.2.1, s.2.2 ++ [y]) st dp := by
  obtain ⟨r, v, f0, k, d, e1, e2, e3, e33⟩ := x
  obtain ⟨h1, q1, q2, q3, q4, q5⟩ := Madd_ok d y hl
  have f := FrA.f q2
  exact ⟨h1, q1, f, r.o (r.1.frf f) (fun k _ => q5 k) (q2.2.2.1 _ _ (fun z => z)), v, (q5 _).trans f0, k.o (q5 _) q4, q3, (q5 _).trans e1, (q5 _).trans e2, (q5 _).trans e3, (q5 _).trans e33⟩
theorem XM.full {b : Nat → Nat} {L w u0 : Nat} {h : AH} {s : FS} {st : List Nat} {dp : Nat} (x : XM b L w u0 h s st dp) (hu : s.2.1 ≤ 30) (h0 : u0 ≤ 30) : f_M_isFull h = some (if 30 ≤ s.2.1 then 1 else 0, h) := by
  obtain ⟨r, v, f0, k, d, e1, e2, e3, e33⟩ := x
  rw [f_M_isFull, e3, e2]
  by_cases c : 30 ≤ s.2.1
  · rw [if_pos c]
    have : s.2.1 = 30 := by omega
    by_cases c2 : nI (u0 + s.2.1) = (60 : Int32)
    · rw [if_pos c2]
    · rw [if_neg c2, if_neg (show ¬ ¬ nI s.2.1 = (30 : Int32) from fun z => z (by rw [this]; rfl))]
  · rw [if_neg c, if_neg (show ¬ nI (u0 + s.2.1) = (60 : Int32) from fun z => by have := (tk_eq (k := 60) (by omega) (by omega)).mp z; omega), if_pos (show ¬ nI s.2.1 = (30 : Int32) from fun z => by have := (tk_eq (k := 30) (by omega) (by omega)).mp z; omega)]
