/-! ===== a market told, the class's ===== -/
def mkS (D : DR) : MT := ((D.dn.length, fun i => nI (D.dv i 0), fun i => nI (D.dv i 1), fun i => nI (D.dv i 5)), lcT D.ch.2, lcT D.he.2, nI D.n1, nI D.n2, nI D.n3)
def nowS (D : DR) : YT := fun k => if k < D.dn.length then nI (D.dv k 3) else if 6 ≤ k ∧ k - 6 < D.dn.length then nI (D.dv (k - 6) 4) else if 18 ≤ k ∧ k - 18 < D.dn.length then nI (D.dv (k - 18) 2) else if k = 34 then nI D.n4 else 0
theorem now_g {D : DR} {i : Nat} (h : i < D.dn.length) : nowS D i = nI (D.dv i 3) := by unfold nowS; rw [if_pos h]
theorem now_l {D : DR} (h6 : D.dn.length ≤ 6) {i : Nat} (h : i < D.dn.length) : nowS D (6 + i) = nI (D.dv i 4) := by
  unfold nowS; rw [if_neg (by omega), if_pos ⟨by omega, by omega⟩, show 6 + i - 6 = i by omega]
theorem now_a {D : DR} (h6 : D.dn.length ≤ 6) {i : Nat} (h : i < D.dn.length) : nowS D (18 + i) = nI (D.dv i 2) := by
  unfold nowS; rw [if_neg (by omega), if_neg (by omega), if_pos ⟨by omega, by omega⟩, show 18 + i - 18 = i by omega]
theorem now_0 {D : DR} (h6 : D.dn.length ≤ 6) {k : Nat} (h : (12 ≤ k ∧ k < 18) ∨ (24 ≤ k ∧ ¬ k = 34)) : nowS D k = 0 := by
  unfold nowS; rw [if_neg (by omega), if_neg (by omega), if_neg (by omega), if_neg (by omega)]
theorem now_34 {D : DR} (h6 : D.dn.length ≤ 6) : nowS D 34 = nI D.n4 := by
  unfold nowS; rw [if_neg (by omega), if_neg (by omega), if_neg (by omega), if_pos rfl]
theorem now_f {D : DR} (h6 : D.dn.length ≤ 6) (i : Nat) : freeS (nowS D) i = false := by
  unfold freeS
  rw [now_0 h6 (by omega), Int32.zero_shiftRight]
  rfl
theorem open_ok {u : Nat} {h : AH} (hu : u ≤ 20) : ∃ h1, f_Yard_open 37 u h = some h1 ∧ FrL (fun c _ => 37 ≤ c ∧ c ≤ 43) (fun _ _ => False) nxR h h1 ∧ (∀ i, i < 6 → hI h1 38 i = hI h (u + 6) i ∧ hI h1 39 i = hI h (u + 7) i ∧ hI h1 40 i = 0 ∧ hI h1 41 i = hI h (u + 5) i ∧ hI h1 42 i = 0 ∧ hI h1 43 i = 0) ∧ hI h1 37 6 = 0 ∧ hI h1 37 7 = 0 ∧ hI h1 37 8 = 0 ∧ hI h1 37 9 = hI h u 15 := by
  rw [f_Yard_open]
  refine lpc (fun fu k (z : AH) => f_Yard_open_l2 37 u fu (nI k) z) (fun k z => FrL (fun c _ => 37 ≤ c ∧ c ≤ 43) (fun _ _ => False) nxR h z ∧ (∀ i, i < k → hI z 38 i = hI h (u + 6) i ∧ hI z 39 i = hI h (u + 7) i ∧ hI z 40 i = 0 ∧ hI z 41 i = hI h (u + 5) i ∧ hI z 42 i = 0 ∧ hI z 43 i = 0)) (fun z => FrL (fun c _ => 37 ≤ c ∧ c ≤ 43) (fun _ _ => False) nxR h z ∧ (∀ i, i < 6 → hI z 38 i = hI h (u + 6) i ∧ hI z 39 i = hI h (u + 7) i ∧ hI z 40 i = 0 ∧ hI z 41 i = hI h (u + 5) i ∧ hI z 42 i = 0 ∧ hI z 43 i = 0) ∧ hI z 37 6 = 0 ∧ hI z 37 7 = 0 ∧ hI z 37 8 = 0 ∧ hI z 37 9 = hI h u 15) 6 (by omega) h ⟨FrL.rf _ _ _ h, fun i hi => absurd hi (Nat.not_lt_zero _)⟩ (fun z e q => ⟨z, e, q⟩) (fun k fu z hk q => Or.inl ?_) (fun fu z q => ?_)
  · obtain ⟨f1, g1⟩ := q
    have o : ∀ c j, c < 37 → hI z c j = hI h c j := fun c j hc => f1.2.1 _ _ (fun q => by have q' : 37 ≤ c ∧ c ≤ 43 := q; omega)
    refine ⟨sI (sI (sI (sI (sI (sI z 38 k (hI h (u + 6) k)) 39 k (hI h (u + 7) k)) 40 k 0) 41 k (hI h (u + 5) k)) 42 k 0) 43 k 0, ?_, (((((f1.s (c := 38) (by omega) _).s (c := 39) (by omega) _).s (c := 40) (by omega) _).s (c := 41) (by omega) _).s (c := 42) (by omega) _).s (c := 43) (by omega) _, fun i hi => ?_⟩
    · show f_Yard_open_l2 37 u (fu + 1) (nI k) z = f_Yard_open_l2 37 u fu (nI (k + 1)) _
      have r : ∀ (y : AH) (c j : Nat) (c' j' : Nat) (v : Int32), ¬ c' = c → hI (sI y c j v) c' j' = hI y c' j' := fun y c j c' j' v hc => by rw [hI_sI, if_neg (fun q => hc q.1)]
      rw [f_Yard_open_l2, if_neg (show ¬ (6 : Int32) ≤ nI k from nI_ge (a := k) (b := 6) hk (by omega))]
      simp only [gx_n _ (show k < 6 from hk) (by omega), ix_n (show k < 2 ^ 31 by omega), lt_e]
      rw [r _ _ _ (u + 7) _ _ (by omega), r _ _ _ (u + 5) _ _ (by omega), r _ _ _ (u + 5) _ _ (by omega), r _ _ _ (u + 5) _ _ (by omega), o _ _ (by omega), o _ _ (by omega), o _ _ (by omega), nI_1]
    · by_cases e : i = k
      · subst e
        simp [hI_sI]
      · obtain ⟨a1, a2, a3, a4, a5, a6⟩ := g1 i (by omega)
        simp [hI_sI, e, a1, a2, a3, a4, a5, a6]
  · obtain ⟨f1, g1⟩ := q
    have o : ∀ c j, c < 37 → hI z c j = hI h c j := fun c j hc => f1.2.1 _ _ (fun q => by have q' : 37 ≤ c ∧ c ≤ 43 := q; omega)
    refine ⟨sI (sI (sI (sI z 37 6 0) 37 7 0) 37 8 0) 37 9 (hI h u 15), ?_, (((f1.s (c := 37) (by omega) _).s (c := 37) (by omega) _).s (c := 37) (by omega) _).s (c := 37) (by omega) _, fun i hi => ?_, by simp [hI_sI], by simp [hI_sI], by simp [hI_sI], by simp [hI_sI]⟩
    · show f_Yard_open_l2 37 u (fu + 1) (nI 6) z = _
      rw [f_Yard_open_l2, if_pos (by decide), lt_e, lt_e, lt_e, lt_e, hI_sI, if_neg (by omega), hI_sI, if_neg (by omega), hI_sI, if_neg (by omega), o _ _ (by omega)]
    · obtain ⟨a1, a2, a3, a4, a5, a6⟩ := g1 i hi
      simp [hI_sI, a1, a2, a3, a4, a5, a6]
theorem empty_ok {h : AH} : ∃ h1, f_Boxes_empty h = some h1 ∧ FrL (fun c _ => c = 344) (fun _ _ => False) nxR h h1 ∧ ∀ i, i < 3 → hI h1 344 i = 0 := by
  rw [f_Boxes_empty]
  refine lpc (fun fu k (z : AH) => f_Boxes_empty_l2 fu (nI k) z) (fun k z => FrL (fun c _ => c = 344) (fun _ _ => False) nxR h z ∧ ∀ i, i < k → hI z 344 i = 0) (fun z => FrL (fun c _ => c = 344) (fun _ _ => False) nxR h z ∧ ∀ i, i < 3 → hI z 344 i = 0) 3 (by omega) h ⟨FrL.rf _ _ _ h, fun i hi => absurd hi (Nat.not_lt_zero _)⟩ (fun z e q => ⟨z, e, q⟩) (fun k fu z hk q => Or.inl ?_) (fun fu z q => ?_)
  · obtain ⟨f1, g1⟩ := q
    refine ⟨sI z 344 k 0, ?_, f1.s (c := 344) rfl _, fun i hi => ?_⟩
    · show f_Boxes_empty_l2 (fu + 1) (nI k) z = f_Boxes_empty_l2 fu (nI (k + 1)) _
      rw [f_Boxes_empty_l2, if_neg (show ¬ (3 : Int32) ≤ nI k from nI_ge (a := k) (b := 3) hk (by omega)), gx_n _ hk (by omega), ix_n (by omega), lt_e, lt_e, nI_1]
      rfl
    · rw [hI_sI]
      by_cases e : i = k
      · rw [if_pos ⟨rfl, e⟩]
      · rw [if_neg (fun q => e q.2)]; exact g1 i (by omega)
  · refine ⟨z, ?_, q⟩
    show f_Boxes_empty_l2 (fu + 1) (nI 3) z = _
    rw [f_Boxes_empty_l2, if_pos (by decide)]
abbrev mkC (u : Nat) : Nat → Nat → Prop := fun c k => c = 1 ∨ (u ≤ c ∧ c ≤ u + 16) ∨ (37 ≤ c ∧ c ≤ 43) ∨ (c = 53 ∧ k ≤ 2) ∨ c = 344 ∨ (c = 366 ∧ (k = 10 ∨ k = 7)) ∨ (c = 380 ∧ k = 1)
abbrev mkR : Nat → Prop := fun c => c = 0 ∨ c = 1
def MkC (u u' : Nat) (h h1 : AH) (r : Int32) (x : Except (Nat × Nat) DR) : Prop := match x with
  | .ok D => r = nI D.dn.length ∧ (hR h1 0 1 = some u ∧ hR h1 0 2 = some u') ∧ MK h1 u (mkS D) ∧ YR D.dn.length h1 37 (nowS D) ∧ (hI h1 u 10 = nI D.kn.length ∧ hI h1 (u + 9) 4 = nI D.ch.1 ∧ hI h1 (u + 13) 4 = nI D.he.1) ∧ (hI h1 53 1 = 0 ∧ hI h1 53 2 = 0) ∧ (∀ b, b < 3 → hI h1 344 b = 0) ∧ (hI h1 366 10 = 0 ∧ hI h1 366 7 = -1) ∧ hI h1 380 1 = 0 ∧ hI h1 1 9 = 0 ∧ (hI h1 1 10 = 0 ∧ hI h1 1 11 = -1) ∧ FrL (mkC u) (lnD u) mkR h h1
  | .error e => r = -1 ∧ hI h1 1 9 = 0 ∧ (hI h1 1 10 = nI e.1 ∧ hI h1 1 11 = nI e.2) ∧ FrL (fun c k => c = 1 ∨ (u ≤ c ∧ c ≤ u + 16)) (lnD u) lnR h h1
theorem marketC {b : Nat → Nat} {L u u' : Nat} {h : AH} (ku : KU u) (ku' : KU u') (hu : u ≤ 20) (c : CBs b L h) (r1 : hR h 0 1 = some u') (r2 : hR h 0 2 = some u) : ∃ r h1, f_H_market h = some (r, h1) ∧ MkC u u' h h1 r (readR b L (L + 1) D0 (lx b L 0)) := by
  have u3 := ku.l
  obtain ⟨r, h2, e2, f2, x2⟩ := readC (u := u) ku c
  have G := readR_G (b := b) (L := L) (L + 1) D0 (lx b L 0) DG0 (lx_TG (Nat.zero_le _)).1
  have f3 : FrL (fun c k => c = 1 ∨ (u ≤ c ∧ c ≤ u + 16)) (lnD u) lnR h (sI h2 1 9 0) := (f2.mn (fun c k z => by (try dsimp only [lnC] at z); show c = 1 ∨ (u ≤ c ∧ c ≤ u + 16); omega) (fun _ _ z => z) (fun _ z => z)).s (c := 1) (k := 9) (Or.inl rfl) 0
  have w9 : hI (sI h2 1 9 0) 1 9 = 0 := hI_sI_s _ _ _ _
  rw [f_H_market, gd_ok _ r2 ku.k0, e2, bI_s, lt_e]
  cases q : readR b L (L + 1) D0 (lx b L 0) with
  | error e =>
    rw [q] at x2
    obtain ⟨a1, a2, a3, a4, a5⟩ := x2
    rw [if_neg (fun z => z a1)]
    exact ⟨-1, _, rfl, rfl, w9, ⟨by rw [hI_sI, if_neg (by decide)]; exact a4, by rw [hI_sI, if_neg (by decide)]; exact a5⟩, f3⟩
  | ok D =>
    rw [q] at x2
    have g := G D q
    obtain ⟨a1, ⟨d1, d2, d3, d4, d5, d6, d7, d8⟩, a10, a11⟩ := x2
    have o3 : ∀ c k, ¬ (c = 1 ∧ k = 9) → hI (sI h2 1 9 0) c k = hI h2 c k := fun c k hc => by rw [hI_sI, if_neg hc]
    have R1 : hR (sI h2 1 9 0) 0 1 = some u' := by rw [f3.2.2.2 0 (by decide)]; exact r1
    have R2 : hR (sI h2 1 9 0) 0 2 = some u := by rw [f3.2.2.2 0 (by decide)]; exact r2
    have b10 : hI (sI h2 1 9 0) 1 10 = 0 := by rw [o3 _ _ (by omega)]; exact a10
    have b11 : hI (sI h2 1 9 0) 1 11 = -1 := by rw [o3 _ _ (by omega)]; exact a11
    have ou : ∀ c k, u ≤ c → hI (sI h2 1 9 0) c k = hI h2 c k := fun c k hc => o3 _ _ (by omega)
    generalize sI h2 1 9 0 = h3 at f3 w9 R1 R2 b10 b11 ou ⊢
    rw [if_pos (show ¬ r = 0 by rw [a1]; decide), gd_ok _ R1 ku'.k0, gd_ok _ R2 ku.k0, lt_e, lt_e]
    have S1 : hR (sR (sR h3 0 1 (some u)) 0 2 (some u')) 0 1 = some u := by rw [hR_sR, if_neg (by decide), hR_sR, if_pos ⟨rfl, rfl⟩]
    have S2 : hR (sR (sR h3 0 1 (some u)) 0 2 (some u')) 0 2 = some u' := by rw [hR_sR, if_pos ⟨rfl, rfl⟩]
    have f4 : FrL (mkC u) (lnD u) mkR h (sR (sR h3 0 1 (some u)) 0 2 (some u')) := ⟨f3.1, fun c k hc => f3.2.1 c k (fun z => by (try dsimp only at z); dsimp only [mkC] at hc; omega), f3.2.2.1, fun c hc => by
      funext k
      rw [hR_sR, if_neg (fun z => hc (Or.inl z.1)), hR_sR, if_neg (fun z => hc (Or.inl z.1)), f3.2.2.2 c (fun z => hc (Or.inr z))]⟩
    have oi : ∀ c k, hI (sR (sR h3 0 1 (some u)) 0 2 (some u')) c k = hI h3 c k := fun _ _ => rfl
    rw [gd_ok _ S1 ku.k0]
    generalize sR (sR h3 0 1 (some u)) 0 2 (some u') = h4 at S1 S2 f4 oi ⊢
    obtain ⟨h5, e5, f5, y5, z6, z7, z8, z9⟩ := open_ok (h := h4) hu
    rw [e5, bV_s, f_Acts_forget, lt_e, lt_e, bV_s]
    have f6 : FrL (fun c k => (37 ≤ c ∧ c ≤ 43) ∨ (c = 53 ∧ k ≤ 2)) (fun _ _ => False) nxR h4 (sI (sI h5 53 1 0) 53 2 0) := ((f5.mn (fun c k z => Or.inl z) (fun _ _ z => z) (fun _ z => z)).s (c := 53) (k := 1) (Or.inr ⟨rfl, by omega⟩) _).s (c := 53) (k := 2) (Or.inr ⟨rfl, by omega⟩) _
    have o6 : ∀ c k, ¬ c = 53 → hI (sI (sI h5 53 1 0) 53 2 0) c k = hI h5 c k := fun c k hc => by rw [hI_sI, if_neg (by omega), hI_sI, if_neg (by omega)]
    have q1 : hI (sI (sI h5 53 1 0) 53 2 0) 53 1 = 0 := by simp [hI_sI]
    have q2 : hI (sI (sI h5 53 1 0) 53 2 0) 53 2 = 0 := by simp [hI_sI]
    generalize sI (sI h5 53 1 0) 53 2 0 = h6 at f6 o6 q1 q2 ⊢
    obtain ⟨h7, e7, f7, b7⟩ := empty_ok (h := h6)
    rw [e7, bV_s, f_Ears_forget, lt_e, lt_e, bV_s, f_Lie_wipe, lt_e, bV_s]
    have f7' : FrL (fun c k => c = 344 ∨ (c = 366 ∧ (k = 10 ∨ k = 7)) ∨ (c = 380 ∧ k = 1)) (fun _ _ => False) nxR h6 h7 := f7.mn (fun c k z => Or.inl z) (fun _ _ z => z) (fun _ z => z)
    have f8 : FrL (fun c k => c = 344 ∨ (c = 366 ∧ (k = 10 ∨ k = 7)) ∨ (c = 380 ∧ k = 1)) (fun _ _ => False) nxR h6 (sI (sI (sI h7 366 10 0) 366 7 (-1)) 380 1 0) := ((f7'.s (c := 366) (k := 10) (Or.inr (Or.inl ⟨rfl, Or.inl rfl⟩)) _).s (c := 366) (k := 7) (Or.inr (Or.inl ⟨rfl, Or.inr rfl⟩)) _).s (c := 380) (k := 1) (Or.inr (Or.inr ⟨rfl, rfl⟩)) _
    have w1 : hI (sI (sI (sI h7 366 10 0) 366 7 (-1)) 380 1 0) 366 10 = 0 := by simp [hI_sI]
    have w2 : hI (sI (sI (sI h7 366 10 0) 366 7 (-1)) 380 1 0) 366 7 = -1 := by simp [hI_sI]
    have w3 : hI (sI (sI (sI h7 366 10 0) 366 7 (-1)) 380 1 0) 380 1 = 0 := by simp [hI_sI]
    have w4 : ∀ i, i < 3 → hI (sI (sI (sI h7 366 10 0) 366 7 (-1)) 380 1 0) 344 i = 0 := fun i hi => by rw [hI_sI, if_neg (by omega), hI_sI, if_neg (by omega), hI_sI, if_neg (by omega)]; exact b7 i hi
    generalize sI (sI (sI h7 366 10 0) 366 7 (-1)) 380 1 0 = h8 at f8 w1 w2 w3 w4 ⊢
    have low : ∀ c k, c < 37 → hI h8 c k = hI h3 c k := fun c k hc => by
      rw [f8.2.1 _ _ (fun z => by (try dsimp only at z); omega), f6.2.1 _ _ (fun z => by (try dsimp only at z); omega), oi]
    have lo2 : ∀ c k, u ≤ c → c < 37 → hI h8 c k = hI h2 c k := fun c k h1 h2 => by rw [low c k h2, ou c k h1]
    have F : FrL (mkC u) (lnD u) mkR h h8 := (f4.t (f6.mn (fun c k z => by (try dsimp only at z); dsimp only [mkC]; omega) (fun _ _ z => absurd z id) (fun _ z => absurd z id))).t (f8.mn (fun c k z => by (try dsimp only at z); dsimp only [mkC]; omega) (fun _ _ z => absurd z id) (fun _ z => absurd z id))
    have T1 : hR h8 0 1 = some u := by rw [f8.2.2.2 0 (fun z => z), f6.2.2.2 0 (fun z => z)]; exact S1
    have T2 : hR h8 0 2 = some u' := by rw [f8.2.2.2 0 (fun z => z), f6.2.2.2 0 (fun z => z)]; exact S2
    have y8 : ∀ c k, 37 ≤ c → c ≤ 43 → hI h8 c k = hI h5 c k := fun c k h1 h2 => by
      rw [f8.2.1 _ _ (fun z => by (try dsimp only at z); omega), o6 _ _ (by omega)]
    have h4lo : ∀ c k, u ≤ c → c < 37 → hI h4 c k = hI h2 c k := fun c k h1 h2 => by rw [oi, ou c k h1]
    have g6 := g.2.1
    have fc : ∀ q (x : Nat × List (Nat × Nat)), u ≤ q → q + 2 < 37 → QF q h2 x → QF q h8 x := fun q x h1 h2 p => ⟨by rw [lo2 _ _ h1 (by omega)]; exact p.1, by rw [lo2 _ _ h1 (by omega)]; exact p.2.1, fun k hk => ⟨by rw [lo2 _ _ (by omega) (by omega)]; exact (p.2.2 k hk).1, fun z => by rw [lo2 _ _ (by omega) (by omega)]; exact (p.2.2 k hk).2 z⟩⟩
    have p9 := fc _ _ (by omega) (by omega) d5
    have p13 := fc _ _ (by omega) (by omega) d6
    rw [gd_ok _ T1 ku.k0]
    refine ⟨_, h8, rfl, ?_, ⟨T1, T2⟩, ⟨⟨?_, g6, fun i hi => ⟨?_, ?_, ?_⟩⟩, ⟨p9.2, g.2.2.2.2.2.1.2⟩, ⟨p13.2, g.2.2.2.2.2.2.1.2⟩, ?_, ?_, ?_⟩, ⟨fun i hi => ?_, ?_, ?_, ?_, ?_⟩, ⟨?_, p9.1, p13.1⟩, ⟨?_, ?_⟩, w4, ⟨w1, w2⟩, w3, ?_, ⟨?_, ?_⟩, F⟩
    · rw [lo2 _ _ (by omega) (by omega)]; exact d3.2
    · rw [lo2 _ _ (by omega) (by omega)]; exact d3.2
    · rw [lo2 _ _ (by omega) (by omega)]; exact d4 i 0 hi (by omega)
    · rw [lo2 _ _ (by omega) (by omega)]; exact d4 i 1 hi (by omega)
    · rw [lo2 _ _ (by omega) (by omega)]; exact d4 i 5 hi (by omega)
    · rw [lo2 _ _ (by omega) (by omega)]; exact d7.1
    · rw [lo2 _ _ (by omega) (by omega)]; exact d7.2.1
    · rw [lo2 _ _ (by omega) (by omega)]; exact d7.2.2.1
    · have i6 : i < 6 := by omega
      obtain ⟨k1, k2, k3, k4, k5, k6⟩ := y5 i i6
      refine ⟨?_, ?_, ?_, ?_, ?_, ?_⟩
      · rw [y8 _ _ (by omega) (by omega), now_g hi]; rw [h4lo _ _ (by omega) (by omega)] at k1; exact k1.trans (d4 i 3 hi (by omega))
      · rw [y8 _ _ (by omega) (by omega), now_l g6 hi]; rw [h4lo _ _ (by omega) (by omega)] at k2; exact k2.trans (d4 i 4 hi (by omega))
      · rw [y8 _ _ (by omega) (by omega), now_0 g6 (by omega)]; exact k3
      · rw [y8 _ _ (by omega) (by omega), now_a g6 hi]; rw [h4lo _ _ (by omega) (by omega)] at k4; exact k4.trans (d4 i 2 hi (by omega))
      · rw [y8 _ _ (by omega) (by omega), now_0 g6 (by omega)]; exact k5
      · rw [y8 _ _ (by omega) (by omega), now_f g6]; exact k6
    · rw [y8 _ _ (by omega) (by omega), now_0 g6 (by omega)]; exact z6
    · rw [y8 _ _ (by omega) (by omega), now_0 g6 (by omega)]; exact z7
    · rw [y8 _ _ (by omega) (by omega), now_0 g6 (by omega)]; exact z8
    · rw [y8 _ _ (by omega) (by omega), now_34 g6]; rw [h4lo _ _ (by omega) (by omega)] at z9; exact z9.trans d7.2.2.2
    · rw [lo2 _ _ (by omega) (by omega)]; exact d2.2
    · rw [f8.2.1 _ _ (fun z => by (try dsimp only at z); omega)]; exact q1
    · rw [f8.2.1 _ _ (fun z => by (try dsimp only at z); omega)]; exact q2
    · rw [low _ _ (by omega)]; exact w9
    · rw [low _ _ (by omega)]; exact b10
    · rw [low _ _ (by omega)]; exact b11
