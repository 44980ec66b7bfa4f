/-! ===== all lines ===== -/
def readR (b : Nat → Nat) (L : Nat) : Nat → DR → LT → Except (Nat × Nat) DR
  | 0, _, _ => .error (0, 0)
  | n + 1, D, t => if tC t = 0 then .ok D else match lineR b L D t with
    | .ok p => readR b L n p.2 p.1
    | .error e => .error e
def D0 : DR := ⟨[], [], fun _ _ => 0, (0, []), (0, []), 0, 1, 3, 0, 0⟩
theorem DG0 : DG D0 := by
  refine ⟨by decide, by decide, by decide, fun _ => rfl, fun _ => rfl, ⟨by decide, ?_⟩, ⟨by decide, ?_⟩, fun k hk => absurd hk (Nat.not_lt_zero _), by decide, by decide, by decide, by decide⟩
  · exact ⟨by decide, fun k hk => absurd hk (Nat.not_lt_zero _), fun h => absurd h (by decide)⟩
  · exact ⟨by decide, fun k hk => absurd hk (Nat.not_lt_zero _), fun h => absurd h (by decide)⟩
theorem readR_G {b : Nat → Nat} {L : Nat} : ∀ (n : Nat) (D : DR) (t : LT), DG D → TG L t → ∀ D', readR b L n D t = .ok D' → DG D' := by
  intro n
  induction n with
  | zero => intro D t _ _ D' h; cases h
  | succ n ih =>
    intro D t g tg D' h
    rw [readR] at h
    by_cases c : tC t = 0
    · rw [if_pos c] at h; injection h with h; rw [← h]; exact g
    · rw [if_neg c] at h
      cases q : lineR b L D t with
      | error e => rw [q] at h; cases h
      | ok p =>
        rw [q] at h
        exact ih p.2 p.1 (line_G g tg q) (line_a tg c q).1 D' h
theorem n_no0 {e : Nat} (h1 : 1 ≤ e) (h2 : e < 100) : ¬ nI e = 0 := fun z => by
  have := (n_inj (show e < 2 ^ 31 by omega) (show 0 < 2 ^ 31 by omega)).mp z
  omega
def RdC (b : Nat → Nat) (L u : Nat) (h : AH) (r : Int32) (x : Except (Nat × Nat) DR) : Prop := match x with
  | .ok D => r = 1 ∧ DfC u h D ∧ hI h 1 10 = 0 ∧ hI h 1 11 = -1
  | .error e => r = 0 ∧ 1 ≤ e.1 ∧ e.1 < 100 ∧ hI h 1 10 = nI e.1 ∧ hI h 1 11 = nI e.2
theorem readC_l {b : Nat → Nat} {L u : Nat} (ku : KU u) : ∀ (n fu i : Nat) (h : AH) (t : LT) (D : DR), L < tP t + n → n < fu → i ≤ tP t → XT b L h t → DfC u h D → DG D → ∃ r h1, f_Reader_read_l38 u fu (nI i) h = some (r, h1) ∧ FrU u h h1 ∧ RdC b L u h1 r (readR b L n D t) := by
  intro n
  induction n with
  | zero => intro fu i h t D h1 _ _ x _ _; have := x.2.2.2.2.1; omega
  | succ n ih =>
    intro fu i h t D hn hf hi x d g
    obtain ⟨m, rfl⟩ : ∃ m, fu = m + 1 := ⟨fu - 1, by omega⟩
    have tp := x.2.2.2.2.1
    have L16 := x.1.1.1
    obtain ⟨t1, t2⟩ := x.tok
    rw [f_Reader_read_l38, if_neg (show ¬ (1600 : Int32) < nI i from n_nlt (a := 1600) (b := i) (by omega) (by omega)), readR]
    by_cases c3 : tC t = 3
    · have c0 : ¬ tC t = 0 := by omega
      obtain ⟨r1, r2⟩ := x.1.2.2.2.2.1 c3
      rw [if_neg c0, no_ (fun z => by have := z.1; omega) (fun z => by have := z.1; omega) (fun j hj e => by omega), if_pos (show ¬ hI h 1 10 = 0 by rw [r1]; decide), f_Reader_read_b69, if_pos (show ¬ hI h 1 10 = 0 by rw [r1]; decide)]
      refine ⟨0, h, rfl, FrL.rf _ _ _ h, rfl, ?_⟩
      unfold er
      rw [if_pos c3]
      exact ⟨by show 1 ≤ 1; omega, by show 1 < 100; omega, r1, r2⟩
    · obtain ⟨r1, r2, -⟩ := x.1.2.2.2.2.2 c3
      rw [if_neg (show ¬ ¬ hI h 1 10 = 0 from fun z => z r1), t1]
      by_cases c0 : tC t = 0
      · rw [if_pos (show nI (tC t) = 0 by rw [c0]; rfl), if_pos c0, f_Reader_read_b69, if_neg (show ¬ ¬ hI h 1 10 = 0 from fun z => z r1)]
        exact ⟨1, h, rfl, FrL.rf _ _ _ h, rfl, d, r1, r2⟩
      · rw [if_neg (show ¬ nI (tC t) = 0 from fun z => c0 ((tk_eq (k := 0) t2 (by omega)).mp z)), if_neg c0]
        obtain ⟨h1, e1, f1, l1⟩ := lineC ku x d g
        rw [e1, bV_s, lt_e, nI_1]
        cases q : lineR b L D t with
        | error e =>
          rw [q] at l1
          obtain ⟨-, d10, d1, d2, d11, -⟩ := (l1 : DT b L h1 e)
          obtain ⟨k, rfl⟩ : ∃ k, m = k + 1 := ⟨m - 1, by omega⟩
          have nz : ¬ hI h1 1 10 = 0 := by rw [d10]; exact n_no0 d1 d2
          rw [f_Reader_read_l38, if_neg (show ¬ (1600 : Int32) < nI (i + 1) from n_nlt (a := 1600) (b := i + 1) (by have := x.2.2.2.2.2 c0 c3; have := x.2.2.2.1; omega) (by omega)), if_pos nz, f_Reader_read_b69, if_pos nz]
          exact ⟨0, h1, rfl, f1, rfl, d1, d2, d10, d11⟩
        | ok p =>
          rw [q] at l1
          obtain ⟨x1, dd⟩ := (l1 : XT b L h1 p.1 ∧ DfC u h1 p.2)
          obtain ⟨a1, a2⟩ := line_a x.2.2.2 c0 q
          obtain ⟨r, h2, e2, f2, y⟩ := ih m (i + 1) h1 p.1 p.2 (by omega) (by omega) (by omega) x1 dd (line_G g x.2.2.2 q)
          exact ⟨r, h2, e2, f1.t f2, y⟩
theorem reset_ok {u : Nat} (h : AH) : ∃ h1, f_Market_reset u h = some h1 ∧ FrL (fun c _ => u ≤ c ∧ c ≤ u + 16) (fun _ _ => False) nxR h h1 ∧ hI h1 u 10 = 0 ∧ hI h1 u 11 = 0 ∧ hI h1 (u + 9) 3 = 0 ∧ hI h1 (u + 9) 4 = 0 ∧ hI h1 (u + 13) 3 = 0 ∧ hI h1 (u + 13) 4 = 0 ∧ hI h1 u 12 = 0 ∧ hI h1 u 13 = 1 ∧ hI h1 u 14 = 3 ∧ hI h1 u 15 = 0 := by
  have f : ∀ {x y : AH} {c : Nat} (k : Nat) (v : Int32), u ≤ c ∧ c ≤ u + 16 → FrL (fun c _ => u ≤ c ∧ c ≤ u + 16) (fun _ _ => False) nxR x y → FrL (fun c _ => u ≤ c ∧ c ≤ u + 16) (fun _ _ => False) nxR x (sI y c k v) := fun k v hc g => g.s hc v
  rw [f_Market_reset, lt_e, lt_e, f_Formula_wipe, lt_e, lt_e, bV_s, f_Formula_wipe, lt_e, lt_e, bV_s, lt_e, lt_e, lt_e, lt_e]
  refine ⟨_, rfl, f _ _ (by omega) (f _ _ (by omega) (f _ _ (by omega) (f _ _ (by omega) (f _ _ (by omega) (f _ _ (by omega) (f _ _ (by omega) (f _ _ (by omega) (f _ _ (by omega) (f _ _ (by omega) (FrL.rf _ _ _ h)))))))))), ?_, ?_, ?_, ?_, ?_, ?_, ?_, ?_, ?_, ?_⟩
  all_goals (repeat (first | rw [hI_sI_s] | rw [hI_sI, if_neg (by omega)]))
theorem readC {b : Nat → Nat} {L u : Nat} {h : AH} (ku : KU u) (c : CBs b L h) : ∃ r h1, f_Reader_read u h = some (r, h1) ∧ FrU u h h1 ∧ RdC b L u h1 r (readR b L (L + 1) D0 (lx b L 0)) := by
  have u3 := ku.l
  obtain ⟨h2, e2, f2, a10, a11, c3, c4, k3, k4, a12, a13, a14, a15⟩ := reset_ok (u := u) (sR h 1 1 (some u))
  have hu : hR (sR h 1 1 (some u)) 1 1 = some u := by rw [hR_sR, if_pos ⟨rfl, rfl⟩]
  rw [f_Reader_read, lt_e, gd_ok _ hu ku.k0, e2, bV_s, lt_e, lt_e, lt_e, lt_e]
  have g1 : FrL (lnC u) (fun _ _ => False) lnR h h2 := ⟨f2.1, fun c k hc => by rw [f2.2.1 _ _ (fun z => hc (Or.inr z))]; rfl, fun c k _ => by rw [f2.2.2.1 _ _ id]; rfl, fun c hc => by rw [f2.2.2.2 _ (fun z => z)]; funext k; rw [hR_sR, if_neg (fun z => hc z.1)]⟩
  have hu2 : hR h2 1 1 = some u := by rw [f2.2.2.2 _ (fun z => z)]; exact hu
  have g2 : FrL (lnC u) (fun _ _ => False) lnR h (sI (sI (sI (sI h2 1 3 0) 1 8 0) 1 10 0) 1 11 (-1)) := (((g1.s (c := 1) (k := 3) (Or.inl (by omega)) _).s (c := 1) (k := 8) (Or.inl (by omega)) _).s (c := 1) (k := 10) (Or.inl (by omega)) _).s (c := 1) (k := 11) (Or.inl (by omega)) _
  have o : ∀ c k, ¬ c = 1 → hI (sI (sI (sI (sI h2 1 3 0) 1 8 0) 1 10 0) 1 11 (-1)) c k = hI h2 c k := fun c k hc => by
    rw [hI_sI, if_neg (by omega), hI_sI, if_neg (by omega), hI_sI, if_neg (by omega), hI_sI, if_neg (by omega)]
  have w3 : hI (sI (sI (sI (sI h2 1 3 0) 1 8 0) 1 10 0) 1 11 (-1)) 1 3 = 0 := by simp [hI_sI]
  have w8 : hI (sI (sI (sI (sI h2 1 3 0) 1 8 0) 1 10 0) 1 11 (-1)) 1 8 = 0 := by simp [hI_sI]
  have w10 : hI (sI (sI (sI (sI h2 1 3 0) 1 8 0) 1 10 0) 1 11 (-1)) 1 10 = 0 := by simp [hI_sI]
  have w11 : hI (sI (sI (sI (sI h2 1 3 0) 1 8 0) 1 10 0) 1 11 (-1)) 1 11 = -1 := by simp [hI_sI]
  have hu3 : hR (sI (sI (sI (sI h2 1 3 0) 1 8 0) 1 10 0) 1 11 (-1)) 1 1 = some u := hu2
  generalize sI (sI (sI (sI h2 1 3 0) 1 8 0) 1 10 0) 1 11 (-1) = h3 at g2 o w3 w8 w10 w11 hu3 ⊢
  have cb : CBs b L h3 := ⟨c.1, by rw [g2.2.1 _ _ (fun z => by (try dsimp only [lnC] at z); omega)]; exact c.2.1, fun k hk => by rw [g2.2.1 _ _ (fun z => by (try dsimp only [lnC] at z); omega)]; exact c.2.2.1 k hk, c.2.2.2⟩
  have nc0 : ∀ cell, NC h3 cell [] := fun cell => ⟨List.nodup_nil, fun x hx => (by cases hx), fun k hk => absurd hk (Nat.not_lt_zero _)⟩
  have fc0 : ∀ q, hI h3 q 3 = 0 → FC h3 q (lcT []) := fun q e => ⟨e, fun k hk => absurd hk (Nat.not_lt_zero _)⟩
  have d : DfC u h3 D0 := ⟨hu3, ⟨nc0 _, by rw [o _ _ (by omega)]; exact a10⟩, ⟨nc0 _, by rw [o _ _ (by omega)]; exact a11⟩, fun k j hk _ => absurd hk (Nat.not_lt_zero _), ⟨by rw [o _ _ (by omega)]; exact c4, fc0 _ (by rw [o _ _ (by omega)]; exact c3)⟩, ⟨by rw [o _ _ (by omega)]; exact k4, fc0 _ (by rw [o _ _ (by omega)]; exact k3)⟩, ⟨by rw [o _ _ (by omega)]; exact a12, by rw [o _ _ (by omega)]; exact a13, by rw [o _ _ (by omega)]; exact a14, by rw [o _ _ (by omega)]; exact a15⟩, w8⟩
  obtain ⟨h4, e4, f4, r4, t4⟩ := next_ok (p := 0) cb (Nat.zero_le _) w10 w11 w3
  rw [e4, bV_s]
  obtain ⟨r, h5, e5, f5, y⟩ := readC_l ku (L + 1) FU 0 h4 (lx b L 0) D0 (by omega) (by show L + 1 < 1000000; have := c.1; omega) (Nat.zero_le _) ⟨r4, t4, (lx_kw b L 0).1, (lx_TG (Nat.zero_le _)).1⟩ (d.n u3 f4) DG0
  have e5' : f_Reader_read_l38 u FU 0 h4 = some (r, h5) := e5
  exact ⟨r, h5, e5', ((g2.mn (fun _ _ z => z) (fun _ _ z => absurd z id) (fun _ z => z)).t f4.u).t f5, y⟩
def RdM (b : Nat → Nat) (L : Nat) (h : AH) (x : Except (Nat × Nat) DR) : Prop := match x with
  | .ok D => DfM h D ∧ hI h 383 2 = 0 ∧ hI h 383 3 = -1
  | .error e => DJ b L h e
theorem srt_0 {c : Nat} (hc : c < 300) : nI (srt c) = 0 ↔ c = 0 := by
  unfold srt
  by_cases h1 : c = 1
  · rw [if_pos h1]; exact ⟨fun z => absurd z (by decide), fun z => by omega⟩
  · rw [if_neg h1]
    by_cases h2 : c = 2 ∨ 256 ≤ c
    · rw [if_pos h2]; exact ⟨fun z => absurd z (by decide), fun z => by omega⟩
    · rw [if_neg h2]; exact tk_eq (k := 0) hc (by omega)
theorem readM_l {b : Nat → Nat} {L : Nat} : ∀ (n fu : Nat) (h : AH) (t : LT) (D : DR), L < tP t + n → n < fu → YT1 b L h t → DfM h D → DG D → ∃ h1, f_M_readAll_l96 fu h = some h1 ∧ FrV h h1 ∧ RdM b L h1 (readR b L n D t) := by
  intro n
  induction n with
  | zero => intro fu h t D h1 _ x _ _; have := x.2.2.1.2.1; omega
  | succ n ih =>
    intro fu h t D hn hf x d g
    obtain ⟨m, rfl⟩ : ∃ m, fu = m + 1 := ⟨fu - 1, by omega⟩
    have tg := x.2.2.1
    have tp := tg.2.1
    rw [f_M_readAll_l96, x.2.2.2.2.1, if_neg (fun z => z rfl), x.1.2.2.2.1, readR]
    by_cases c0 : tC t = 0
    · rw [if_pos ((srt_0 x.2.1.2).mpr c0), if_pos c0]
      exact ⟨h, rfl, FrL.rf _ _ _ h, d, x.2.2.2.2.1, x.2.2.2.2.2⟩
    · rw [if_neg (fun z => c0 ((srt_0 x.2.1.2).mp z)), if_neg c0]
      obtain ⟨h1, e1, f1, l1⟩ := lineM x d g
      rw [e1, bV_s]
      cases q : lineR b L D t with
      | error e =>
        rw [q] at l1
        have j : DJ b L h1 e := l1
        obtain ⟨k, rfl⟩ : ∃ k, m = k + 1 := ⟨m - 1, by omega⟩
        rw [f_M_readAll_l96, if_pos j.v.1]
        exact ⟨h1, rfl, f1, j⟩
      | ok p =>
        rw [q] at l1
        obtain ⟨x1, dd⟩ := (l1 : YT1 b L h1 p.1 ∧ DfM h1 p.2)
        obtain ⟨a1, a2⟩ := line_a tg c0 q
        obtain ⟨h2, e2, f2, y⟩ := ih m h1 p.1 p.2 (by omega) (by omega) x1 dd (line_G g tg q)
        exact ⟨h2, e2, f1.t f2, y⟩
abbrev lwC : Nat → Nat → Prop := fun c k => lvC c k ∨ (c = 383 ∧ (k = 1 ∨ k = 5))
theorem readM {b : Nat → Nat} {L : Nat} {h : AH} (L16 : L ≤ 1600) (e1 : hI h 383 1 = nI L) (hb : ∀ k, k < L → hI h 384 k = nI (b k)) (h256 : ∀ k, k < L → b k < 256) : ∃ h1, f_M_readAll h = some h1 ∧ FrL lwC lvD nxR h h1 ∧ hI h1 383 1 = 0 ∧ RdM b L h1 (readR b L (L + 1) D0 (lx b L 0)) := by
  have f : ∀ {x y : AH} {c k : Nat} (v : Int32), lwC c k → FrL lwC lvD nxR x y → FrL lwC lvD nxR x (sI y c k v) := fun v hc g => g.s hc v
  rw [f_M_readAll, lt_e, lt_e, lt_e, lt_e, lt_e, lt_e, lt_e, lt_e, lt_e, lt_e, lt_e, lt_e, lt_e, lt_e, lt_e, lt_e, lt_e, e1, show vp_nar .boolean 0 = (0 : Int32) by decide]
  have f0 : FrL lwC lvD nxR h (sI (sI (sI (sI (sI (sI (sI (sI (sI (sI (sI (sI (sI (sI (sI (sI (sI h 383 5 (nI L)) 383 1 0) 383 4 0) 383 2 0) 383 3 (-1)) 383 36 0) 383 37 0) 383 38 0) 383 39 1) 383 40 3) 383 41 0) 383 47 0) 383 48 0) 383 49 0) 394 0 0) 394 1 0) 383 22 0) := by
    refine f _ ?_ (f _ ?_ (f _ ?_ (f _ ?_ (f _ ?_ (f _ ?_ (f _ ?_ (f _ ?_ (f _ ?_ (f _ ?_ (f _ ?_ (f _ ?_ (f _ ?_ (f _ ?_ (f _ ?_ (f _ ?_ (f _ ?_ (FrL.rf _ _ _ h)))))))))))))))))
    all_goals (dsimp only [lwC, lvC]; omega)
  have v : ∀ k, hI (sI (sI (sI (sI (sI (sI (sI (sI (sI (sI (sI (sI (sI (sI (sI (sI (sI h 383 5 (nI L)) 383 1 0) 383 4 0) 383 2 0) 383 3 (-1)) 383 36 0) 383 37 0) 383 38 0) 383 39 1) 383 40 3) 383 41 0) 383 47 0) 383 48 0) 383 49 0) 394 0 0) 394 1 0) 383 22 0) 383 k = if k = 22 then 0 else if k = 49 then 0 else if k = 48 then 0 else if k = 47 then 0 else if k = 41 then 0 else if k = 40 then 3 else if k = 39 then 1 else if k = 38 then 0 else if k = 37 then 0 else if k = 36 then 0 else if k = 3 then -1 else if k = 2 then 0 else if k = 4 then 0 else if k = 1 then 0 else if k = 5 then nI L else hI h 383 k := fun k => by
    simp only [hI_sI]
    simp
  have v4 : ∀ k, k < 2 → hI (sI (sI (sI (sI (sI (sI (sI (sI (sI (sI (sI (sI (sI (sI (sI (sI (sI h 383 5 (nI L)) 383 1 0) 383 4 0) 383 2 0) 383 3 (-1)) 383 36 0) 383 37 0) 383 38 0) 383 39 1) 383 40 3) 383 41 0) 383 47 0) 383 48 0) 383 49 0) 394 0 0) 394 1 0) 383 22 0) 394 k = 0 := fun k hk => by
    have : k = 0 ∨ k = 1 := by omega
    rcases this with rfl | rfl <;> simp [hI_sI]
  generalize sI (sI (sI (sI (sI (sI (sI (sI (sI (sI (sI (sI (sI (sI (sI (sI (sI h 383 5 (nI L)) 383 1 0) 383 4 0) 383 2 0) 383 3 (-1)) 383 36 0) 383 37 0) 383 38 0) 383 39 1) 383 40 3) 383 41 0) 383 47 0) 383 48 0) 383 49 0) 394 0 0) 394 1 0) 383 22 0 = h0 at f0 v v4 ⊢
  have mb : MBs b L h0 := ⟨L16, by rw [v 5]; simp, fun k hk => by rw [f0.2.1 _ _ (fun z => by (try dsimp only [lwC, lvC] at z); omega)]; exact hb k hk, h256⟩
  have nr0 : ∀ off, NR h0 off [] := fun off => ⟨List.nodup_nil, fun x hx => (by cases hx), fun k hk => absurd hk (Nat.not_lt_zero _)⟩
  have d : DfM h0 D0 := ⟨⟨nr0 _, by rw [v]; simp; rfl⟩, ⟨nr0 _, by rw [v]; simp; rfl⟩, fun k j hk _ => absurd hk (Nat.not_lt_zero _), fun z => absurd z (by decide), fun z => absurd z (by decide), by show hI h0 383 22 = _; rw [v]; simp; rfl, ⟨by rw [v]; simp; rfl, by rw [v]; simp; rfl, by rw [v]; simp; rfl, by rw [v]; simp; rfl⟩, ⟨v4 0 (by omega), v4 1 (by omega), by rw [v]; simp; rfl, by rw [v]; simp; rfl, by rw [v]; simp; rfl⟩⟩
  obtain ⟨h1, q1, q2, q3⟩ := token_ok (p := 0) mb (Nat.zero_le _) (by rw [v]; simp; rfl)
  have o : ∀ k, ¬ (k = 4 ∨ k = 6 ∨ k = 7 ∨ k = 8) → hI h1 383 k = hI h0 383 k := fun k hk => q2.2.1 _ _ (fun z => hk z.2)
  have x1 : YT1 b L h1 (lx b L 0) := ⟨q3, lx_kw b L 0, (lx_TG (Nat.zero_le _)).1, lx_num b L 0, by rw [o 2 (by omega), v]; simp, by rw [o 3 (by omega), v]; simp⟩
  rw [q1, bV_s]
  obtain ⟨h2, e2, f2, y⟩ := readM_l (L + 1) FU h1 (lx b L 0) D0 (by omega) (by show L + 1 < 1000000; omega) x1 (d.w (FrK.w q2)) DG0
  refine ⟨h2, e2, (f0.t ((FrK.w q2).v.mn (fun _ _ z => Or.inl z) (fun _ _ z => z) (fun _ z => z))).t (f2.mn (fun _ _ z => Or.inl z) (fun _ _ z => z) (fun _ z => z)), ?_, y⟩
  rw [f2.2.1 _ _ (fun z => by (try dsimp only [lvC] at z); omega), o 1 (by omega), v]; simp
