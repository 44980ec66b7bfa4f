/-! ===== the class's line ===== -/
abbrev lnC (u : Nat) : Nat → Nat → Prop := fun c k => (c = 1 ∧ k < 12 ∧ ¬ k = 9) ∨ (u ≤ c ∧ c ≤ u + 16)
abbrev lnD (u : Nat) : Nat → Nat → Prop := fun c k => (c = 1 ∧ k = 7) ∨ c = u + 1 ∨ c = u + 2
abbrev lnR : Nat → Prop := fun c => c = 1
abbrev FrU (u : Nat) (h h1 : AH) : Prop := FrL (lnC u) (lnD u) lnR h h1
theorem FrN.u {u : Nat} {h h1 : AH} (f : FrN h h1) : FrU u h h1 := f.mn (fun c k z => by have z' : c = 1 ∧ _ := z; exact Or.inl (by omega)) (fun _ _ z => Or.inl z) (fun _ z => absurd z id)
def QK (u : Nat) (h : AH) (l : List (List Nat)) : Prop := NC h (u + 1) l ∧ hI h u 10 = nI l.length
def QD (u : Nat) (h : AH) (l : List (List Nat)) : Prop := NC h (u + 2) l ∧ hI h u 11 = nI l.length
def QV (u : Nat) (h : AH) (n : Nat) (v : Nat → Nat → Nat) : Prop := ∀ k j, k < n → j < 6 → hI h (u + 3 + j) k = nI (v k j)
def QF (q : Nat) (h : AH) (f : Nat × List (Nat × Nat)) : Prop := hI h q 4 = nI f.1 ∧ FC h q (lcT f.2)
def QS (u : Nat) (h : AH) (a b c d : Nat) : Prop := hI h u 12 = nI a ∧ hI h u 13 = nI b ∧ hI h u 14 = nI c ∧ hI h u 15 = nI d
def QB (h : AH) (s : Nat) : Prop := hI h 1 8 = nI (s * 256)
/-- the class's draft -/
def DfC (u : Nat) (h : AH) (D : DR) : Prop := hR h 1 1 = some u ∧ QK u h D.kn ∧ QD u h D.dn ∧ QV u h D.dn.length D.dv ∧ QF (u + 9) h D.ch ∧ QF (u + 13) h D.he ∧ QS u h D.n1 D.n2 D.n3 D.n4 ∧ QB h D.se
section
variable {C D : Nat → Nat → Prop} {R : Nat → Prop} {u : Nat} {h h1 : AH}
theorem QK.f {l : List (List Nat)} (p : QK u h l) (f : FrL C D R h h1) (a : ¬ C u 10) (b : ∀ k, ¬ D (u + 1) k) : QK u h1 l := ⟨p.1.frl f b, by rw [f.2.1 _ _ a]; exact p.2⟩
theorem QD.f {l : List (List Nat)} (p : QD u h l) (f : FrL C D R h h1) (a : ¬ C u 11) (b : ∀ k, ¬ D (u + 2) k) : QD u h1 l := ⟨p.1.frl f b, by rw [f.2.1 _ _ a]; exact p.2⟩
theorem QV.f {n : Nat} {v : Nat → Nat → Nat} (p : QV u h n v) (f : FrL C D R h h1) (a : ∀ k j, k < n → j < 6 → ¬ C (u + 3 + j) k) : QV u h1 n v := fun k j hk hj => by rw [f.2.1 _ _ (a k j hk hj)]; exact p k j hk hj
theorem QF.f {q : Nat} {x : Nat × List (Nat × Nat)} (p : QF q h x) (f : FrL C D R h h1) (a : ¬ C q 4) (a3 : ¬ C q 3) (a1 : ∀ k, ¬ C (q + 1) k) (a2 : ∀ k, ¬ C (q + 2) k) : QF q h1 x := ⟨by rw [f.2.1 _ _ a]; exact p.1, p.2.frl f a3 a1 a2⟩
theorem QS.f {a b c d : Nat} (p : QS u h a b c d) (f : FrL C D R h h1) (a2 : ¬ C u 12) (a3 : ¬ C u 13) (a4 : ¬ C u 14) (a5 : ¬ C u 15) : QS u h1 a b c d := ⟨by rw [f.2.1 _ _ a2]; exact p.1, by rw [f.2.1 _ _ a3]; exact p.2.1, by rw [f.2.1 _ _ a4]; exact p.2.2.1, by rw [f.2.1 _ _ a5]; exact p.2.2.2⟩
theorem QB.f {s : Nat} (p : QB h s) (f : FrL C D R h h1) (a : ¬ C 1 8) : QB h1 s := by unfold QB; rw [f.2.1 _ _ a]; exact p
end
theorem DfC.n {u : Nat} {h h1 : AH} {D : DR} (d : DfC u h D) (u3 : 3 ≤ u) (f : FrN h h1) : DfC u h1 D := by
  obtain ⟨d1, d2, d3, d4, d5, d6, d7, d8⟩ := d
  exact ⟨by rw [f.2.2.2 _ (fun z => z)]; exact d1, d2.f f (by show ¬ (u = 1 ∧ _); omega) (fun k => by show ¬ (u + 1 = 1 ∧ _); omega), d3.f f (by show ¬ (u = 1 ∧ _); omega) (fun k => by show ¬ (u + 2 = 1 ∧ _); omega), d4.f f (fun k j _ _ => by show ¬ (u + 3 + j = 1 ∧ _); omega), d5.f f (by show ¬ (u + 9 = 1 ∧ _); omega) (by show ¬ (u + 9 = 1 ∧ _); omega) (fun k => by show ¬ (u + 9 + 1 = 1 ∧ _); omega) (fun k => by show ¬ (u + 9 + 2 = 1 ∧ _); omega), d6.f f (by show ¬ (u + 13 = 1 ∧ _); omega) (by show ¬ (u + 13 = 1 ∧ _); omega) (fun k => by show ¬ (u + 13 + 1 = 1 ∧ _); omega) (fun k => by show ¬ (u + 13 + 2 = 1 ∧ _); omega), d7.f f (by show ¬ (u = 1 ∧ _); omega) (by show ¬ (u = 1 ∧ _); omega) (by show ¬ (u = 1 ∧ _); omega) (by show ¬ (u = 1 ∧ _); omega), d8.f f (by show ¬ (1 = 1 ∧ _); omega)⟩
theorem XT.b8 {b : Nat → Nat} {L : Nat} {h : AH} {t : LT} (x : XT b L h t) (v : Int32) : XT b L (sI h 1 8 v) t := by
  have o : ∀ k, ¬ k = 8 → hI (sI h 1 8 v) 1 k = hI h 1 k := fun k hk => by rw [hI_sI, if_neg (by omega)]
  obtain ⟨⟨⟨c1, c2, c3, c4⟩, r2, r3, r4, r5, r6⟩, w⟩ := x
  refine ⟨⟨⟨c1, (o _ (by omega)).trans c2, fun k hk => by rw [hI_sI, if_neg (by omega)]; exact c3 k hk, c4⟩, (o _ (by omega)).trans r2, r3, (o _ (by omega)).trans r4, fun z => ⟨(o _ (by omega)).trans (r5 z).1, (o _ (by omega)).trans (r5 z).2⟩, fun z => ?_⟩, w⟩
  obtain ⟨a1, a2, a3, a4, a5, a6⟩ := r6 z
  exact ⟨(o _ (by omega)).trans a1, (o _ (by omega)).trans a2, (o _ (by omega)).trans a3, a4, fun y => (o _ (by omega)).trans (a5 y), a6⟩
theorem se_i {S j : Nat} (hS : S < 32) (hj : j < 5) : (nI (S * 256) &&& ((1 : Int32) <<< ((nI (264 + j) - 256) &&& 31)) = 0 ↔ S.testBit j = false) ∧ (nI (S * 256) ||| ((1 : Int32) <<< ((nI (264 + j) - 256) &&& 31))) = nI ((S ||| 2 ^ j) * 256) := by
  have a : ∀ S : Fin 32, ∀ j : Fin 5, (nI (S.val * 256) &&& ((1 : Int32) <<< ((nI (264 + j.val) - 256) &&& 31)) = 0 ↔ S.val.testBit j.val = false) ∧ (nI (S.val * 256) ||| ((1 : Int32) <<< ((nI (264 + j.val) - 256) &&& 31))) = nI ((S.val ||| 2 ^ j.val) * 256) := by decide
  exact a ⟨S, hS⟩ ⟨j, hj⟩
theorem first_ok {S j : Nat} {h : AH} (hS : S < 32) (hj : j < 5) (e : QB h S) : (bI (f_Reader_isFirst (nI (264 + j)) h) fun rq hq => gb rq <| some (rq, hq)) = some (if S.testBit j = false then 1 else 0, sI h 1 8 (nI ((S ||| 2 ^ j) * 256))) := by
  obtain ⟨a1, a2⟩ := se_i hS hj
  rw [f_Reader_isFirst, lt_e, show hI h 1 8 = nI (S * 256) from e]
  by_cases c : S.testBit j = false
  · rw [if_neg (fun z => z (a1.mpr c)), if_pos c, f_Reader_isFirst_b22, show hI h 1 8 = nI (S * 256) from e, a2, lt_e, gb_1, bI_s, gb_1]
  · rw [if_pos (fun z => c (a1.mp z)), if_neg c, f_Reader_isFirst_b22, show hI h 1 8 = nI (S * 256) from e, a2, lt_e, gb_0, bI_s, gb_0]
theorem may_ok {S j : Nat} {h : AH} (hS : S < 32) (hj : j < 5) (e : QB h S) : f_Reader_mayStand (nI (264 + j)) h = some (if S.testBit j = false then 1 else 0, sI h 1 8 (nI ((S ||| 2 ^ j) * 256))) := by
  rw [← first_ok hS hj e]
  have : j = 0 ∨ j = 1 ∨ j = 2 ∨ j = 3 ∨ j = 4 := by omega
  rcases this with rfl | rfl | rfl | rfl | rfl
  · rw [f_Reader_mayStand, if_neg (show ¬ nI (264 + 0) = (256 : Int32) by decide), if_neg (show ¬ nI (264 + 0) = (257 : Int32) by decide), if_pos (show nI (264 + 0) = (264 : Int32) by decide)]
  · rw [f_Reader_mayStand, if_neg (show ¬ nI (264 + 1) = (256 : Int32) by decide), if_neg (show ¬ nI (264 + 1) = (257 : Int32) by decide), if_neg (show ¬ nI (264 + 1) = (264 : Int32) by decide), if_pos (show nI (264 + 1) = (265 : Int32) by decide)]
  · rw [f_Reader_mayStand, if_neg (show ¬ nI (264 + 2) = (256 : Int32) by decide), if_neg (show ¬ nI (264 + 2) = (257 : Int32) by decide), if_neg (show ¬ nI (264 + 2) = (264 : Int32) by decide), if_neg (show ¬ nI (264 + 2) = (265 : Int32) by decide), if_pos (show nI (264 + 2) = (266 : Int32) by decide)]
  · rw [f_Reader_mayStand, if_neg (show ¬ nI (264 + 3) = (256 : Int32) by decide), if_neg (show ¬ nI (264 + 3) = (257 : Int32) by decide), if_neg (show ¬ nI (264 + 3) = (264 : Int32) by decide), if_neg (show ¬ nI (264 + 3) = (265 : Int32) by decide), if_neg (show ¬ nI (264 + 3) = (266 : Int32) by decide), if_pos (show nI (264 + 3) = (267 : Int32) by decide)]
  · rw [f_Reader_mayStand, if_neg (show ¬ nI (264 + 4) = (256 : Int32) by decide), if_neg (show ¬ nI (264 + 4) = (257 : Int32) by decide), if_neg (show ¬ nI (264 + 4) = (264 : Int32) by decide), if_neg (show ¬ nI (264 + 4) = (265 : Int32) by decide), if_neg (show ¬ nI (264 + 4) = (266 : Int32) by decide), if_neg (show ¬ nI (264 + 4) = (267 : Int32) by decide), if_pos (show nI (264 + 4) = (268 : Int32) by decide)]
/-- after a line -/
def LC (b : Nat → Nat) (L u : Nat) (h : AH) (x : Except (Nat × Nat) (LT × DR)) : Prop := match x with
  | .ok p => XT b L h p.1 ∧ DfC u h p.2
  | .error e => DT b L h e
theorem thC {b : Nat → Nat} {L u : Nat} {h : AH} {x : Except (Nat × Nat) LT} {D : DR} (c : CT1 b L h x) (d : (∃ t', x = .ok t') → DfC u h D) : LC b L u h (thD x D) := by
  cases x with
  | ok t => exact ⟨c, d ⟨t, rfl⟩⟩
  | error e => exact c
theorem noC {b : Nat → Nat} {L u : Nat} {h h0 : AH} {t : LT} {x : Except (Nat × Nat) (LT × DR)} (ex : x = .error (er 2 t)) (r : XT b L h0 t) (f0 : FrU u h h0) (e : f_Reader_readLine h = bV (f_Reader_fail 2 h0) fun q => some q) : ∃ h1, f_Reader_readLine h = some h1 ∧ FrU u h h1 ∧ LC b L u h1 x := by
  obtain ⟨h1, e1, f1, x1⟩ := r.fail (k := 2) (by omega) (by omega)
  have e1' : f_Reader_fail 2 h0 = some h1 := e1
  rw [ex]
  exact ⟨h1, by rw [e, e1', bV_s], f0.t (FrN.u f1), x1⟩
def KU (u : Nat) : Prop := 3 ≤ u ∧ kdF u = .inr 7 ∧ kdF (u + 1) = .inl (2, 3) ∧ kdF (u + 2) = .inl (2, 6) ∧ kdF (u + 9) = .inr 5 ∧ kdF (u + 13) = .inr 5
theorem KU.l {u : Nat} (k : KU u) : 3 ≤ u := k.1
theorem KU.k0 {u : Nat} (k : KU u) : kdF u = .inr 7 := k.2.1
theorem KU.k1 {u : Nat} (k : KU u) : kdF (u + 1) = .inl (2, 3) := k.2.2.1
theorem KU.k2 {u : Nat} (k : KU u) : kdF (u + 2) = .inl (2, 6) := k.2.2.2.1
theorem KU.k9 {u : Nat} (k : KU u) : kdF (u + 9) = .inr 5 := k.2.2.2.2.1
theorem KU.k13 {u : Nat} (k : KU u) : kdF (u + 13) = .inr 5 := k.2.2.2.2.2
theorem KU3 : KU 3 := ⟨by omega, by decide, by decide, by decide, by decide, by decide⟩
theorem KU20 : KU 20 := ⟨by omega, by decide, by decide, by decide, by decide, by decide⟩
/-- a formula of a line -/
theorem fmC_ok {b : Nat → Nat} {L q : Nat} {h : AH} {t : LT} (hq : 3 ≤ q) (kq : kdF q = .inr 5) (r : XT b L h t) (p : QF q h (0, [])) : ∃ h1, (lt (sR h 1 2 (some q)) fun hq1 => bV (f_Reader_readEither 10 (0 : Int32) hq1) fun hq => f_Reader_readLine_b179 hq) = some h1 ∧ FrL (fmC q) nxD lnR h h1 ∧ hR h1 1 1 = hR h 1 1 ∧ match eiR (nxl b L) 10 0 (t, 0, []) with
    | .error e => DT b L h1 e
    | .ok s => CT1 b L h1 (needR b L 59 (.ok s.1)) ∧ QF q h1 s.2 := by
  obtain ⟨r1, w1, v1, g1⟩ := r
  obtain ⟨h1, e1, f1, x1⟩ := Hform_ok hq kq r1 w1 (by rw [p.1]; rfl) (by rw [p.2.1]; rfl)
  have f1' : FrL (fmC q) nxD lnR h h1 := ⟨f1.1, f1.2.1, f1.2.2.1, fun c hc => by rw [f1.2.2.2 c (fun z => z)]; funext k; rw [hR_sR, if_neg (fun z => hc z.1)]⟩
  have r11 : hR h1 1 1 = hR h 1 1 := by rw [f1.2.2.2 1 (fun z => z), hR_sR, if_neg (by omega)]
  have fq : ∀ {x y : AH}, FrN x y → FrL (fmC q) nxD lnR x y := fun f => f.mn (fun _ _ z => Or.inl z) (fun _ _ z => z) (fun _ z => absurd z id)
  rw [lt_e, e1, bV_s]
  cases q1 : eiR (nxl b L) 10 0 (t, 0, []) with
  | error e =>
    rw [q1] at x1
    obtain ⟨d1, d2, d3, d4, d5, d6, d7, d8⟩ := (x1 : DC b L q h1 e)
    obtain ⟨h2, e2, f2, c2⟩ := semiC (x := .error e) (show DT b L h1 e from ⟨d1, d3, d4, d5, d6, d7⟩)
    exact ⟨h2, e2, f1'.t (fq f2), by rw [f2.2.2.2 _ (fun z => z)]; exact r11, c2⟩
  | ok s =>
    rw [q1] at x1
    obtain ⟨d1, d2, d3, d4, d5, d6⟩ := (x1 : XC b L q h1 s)
    have ei := (ei_t g1 q1).1
    have tv : TKV s.1 := (ei_Q g1 ⟨v1, w1.2.2, w1.2.1⟩ q1).1
    obtain ⟨h2, e2, f2, c2⟩ := semiC (x := .ok s.1) (show XT b L h1 s.1 from ⟨d1, d2, tv, ei⟩)
    exact ⟨h2, e2, f1'.t (fq f2), by rw [f2.2.2.2 _ (fun z => z)]; exact r11, c2, by rw [f2.2.1 _ _ (by show ¬ (q = 1 ∧ _); omega)]; exact d4, d6.frl f2 (by show ¬ (q = 1 ∧ _); omega) (fun k => by show ¬ (q + 1 = 1 ∧ _); omega) (fun k => by show ¬ (q + 2 = 1 ∧ _); omega)⟩
theorem b8D {u S : Nat} {h : AH} {D : DR} (u3 : 3 ≤ u) (d : DfC u h D) : DfC u (sI h 1 8 (nI (S * 256))) (D.kn, D.dn, D.dv, D.ch, D.he, D.n1, D.n2, D.n3, D.n4, S) := by
  obtain ⟨d1, d2, d3, d4, d5, d6, d7, d8⟩ := d
  have f : FrL (fun c k => c = 1 ∧ k = 8) (fun _ _ => False) (fun _ => False) h (sI h 1 8 (nI (S * 256))) := (FrL.rf _ _ _ h).s (c := 1) (k := 8) ⟨rfl, rfl⟩ _
  exact ⟨d1, d2.f f (fun z => by (try dsimp only [nxC, nxD, nxR, fmC, lnC, lnD, lnR, dlC] at z); omega) (fun _ z => z), d3.f f (fun z => by (try dsimp only [nxC, nxD, nxR, fmC, lnC, lnD, lnR, dlC] at z); omega) (fun _ z => z), d4.f f (fun k j _ _ z => by (try dsimp only at z); omega), d5.f f (fun z => by (try dsimp only [nxC, nxD, nxR, fmC, lnC, lnD, lnR, dlC] at z); omega) (fun z => by (try dsimp only [nxC, nxD, nxR, fmC, lnC, lnD, lnR, dlC] at z); omega) (fun k z => by (try dsimp only [nxC, nxD, nxR, fmC, lnC, lnD, lnR, dlC] at z); omega) (fun k z => by (try dsimp only [nxC, nxD, nxR, fmC, lnC, lnD, lnR, dlC] at z); omega), d6.f f (fun z => by (try dsimp only [nxC, nxD, nxR, fmC, lnC, lnD, lnR, dlC] at z); omega) (fun z => by (try dsimp only [nxC, nxD, nxR, fmC, lnC, lnD, lnR, dlC] at z); omega) (fun k z => by (try dsimp only [nxC, nxD, nxR, fmC, lnC, lnD, lnR, dlC] at z); omega) (fun k z => by (try dsimp only [nxC, nxD, nxR, fmC, lnC, lnD, lnR, dlC] at z); omega), d7.f f (fun z => by (try dsimp only [nxC, nxD, nxR, fmC, lnC, lnD, lnR, dlC] at z); omega) (fun z => by (try dsimp only [nxC, nxD, nxR, fmC, lnC, lnD, lnR, dlC] at z); omega) (fun z => by (try dsimp only [nxC, nxD, nxR, fmC, lnC, lnD, lnR, dlC] at z); omega) (fun z => by (try dsimp only [nxC, nxD, nxR, fmC, lnC, lnD, lnR, dlC] at z); omega), hI_sI_s _ _ _ _⟩
theorem dl7_k {b : Nat → Nat} {L : Nat} {kn dn : List (List Nat)} {t : LT} (h : ∃ t', dl7 b L kn dn t = .ok t') : ∃ t', newR b L dn t = .ok t' := by
  have h6 : ∃ t', dl6 b L kn dn t = .ok t' := optR_k h
  have h5 : ∃ t', dl5 b L kn dn t = .ok t' := optR_k h6
  have h4 : ∃ t', dl4 b L kn dn t = .ok t' := optR_k h5
  have h3 : ∃ t', dl3 b L kn dn t = .ok t' := optR_k h4
  have h2 : ∃ t', dl2 b L kn dn t = .ok t' := numR_k h3
  have h1 : ∃ t', kindR b L kn (dl1 b L dn t) = .ok t' := needR_k h2
  have h0 : ∃ t', dl1 b L dn t = .ok t' := kindR_k h1
  exact needR_k h0
theorem len1 (l : List (List Nat)) (w : List Nat) : (l ++ [w]).length = l.length + 1 := by rw [List.length_append]; rfl
theorem lineC0 {b : Nat → Nat} {L u : Nat} {h : AH} {t : LT} {D : DR} (ku : KU u) (x : XT b L h t) (d : DfC u h D) (g : DG D) (c : tC t = 256) : ∃ h1, f_Reader_readLine h = some h1 ∧ FrU u h h1 ∧ LC b L u h1 (lineR b L D t) := by
  have u3 := ku.l
  have t1 := x.tok.1
  rw [c] at t1
  have h3 : ¬ tC t = 3 := by omega
  have m : f_Reader_mayStand (nI 256) h = if (3 : Int32) ≤ nI D.kn.length then some (0, h) else some (1, h) := by
    rw [f_Reader_mayStand, if_pos (show nI 256 = (256 : Int32) by decide), gd_ok _ d.1 ku.k0, d.2.1.2]
  by_cases l : D.kn.length < 3
  · rw [if_neg (show ¬ (3 : Int32) ≤ nI D.kn.length from nI_ge (a := D.kn.length) (b := 3) l (by omega))] at m
    obtain ⟨h4, e4, f4, x4⟩ := x.next h3
    obtain ⟨d1, d2, d3, d4, d5, d6, d7, d8⟩ := d.n u3 f4
    obtain ⟨h5, e5, f5, c5, k5⟩ := kindLineC x4 u3 d1 ku.k0 ku.k1 d2.1 d2.2 l
    obtain ⟨h6, e6, f6, c6⟩ := semiC c5
    have f5' : FrU u h4 h5 := f5.mn (fun c k z => by (try dsimp only [nxC] at z); dsimp only [lnC]; omega) (fun c k z => by (try dsimp only [nxD] at z); dsimp only [lnD]; omega) (fun _ z => absurd z id)
    refine ⟨h6, ?_, (f4.u.t f5').t f6.u, ?_⟩
    · rw [f_Reader_readLine, lt_e, t1, m, bI_s, if_pos (show ¬ (1 : Int32) = 0 by decide), e4, bV_s, if_pos (show nI 256 = (256 : Int32) by decide), e5, bV_s, e6]
    · unfold lineR
      rw [if_pos ⟨c, l⟩]
      refine thC c6 (fun ok => ?_)
      obtain ⟨n5, q5⟩ := k5 (needR_k ok)
      refine DfC.n (D := ((D.kn ++ [tW (nxl b L t)]), D.dn, D.dv, D.ch, D.he, D.n1, D.n2, D.n3, D.n4, D.se)) ⟨by rw [f5.2.2.2 _ (fun z => z)]; exact d1, ⟨n5, by show _ = nI (D.kn ++ [tW (nxl b L t)]).length; rw [len1]; exact q5⟩, d3.f f5 (fun z => by (try dsimp only [nxC, nxD, nxR, fmC, lnC, lnD, lnR, dlC] at z); omega) (fun k z => by (try dsimp only [nxC, nxD, nxR, fmC, lnC, lnD, lnR, dlC] at z); omega), d4.f f5 (fun k j _ _ z => by (try dsimp only [nxC] at z); omega), d5.f f5 (fun z => by (try dsimp only [nxC, nxD, nxR, fmC, lnC, lnD, lnR, dlC] at z); omega) (fun z => by (try dsimp only [nxC, nxD, nxR, fmC, lnC, lnD, lnR, dlC] at z); omega) (fun k z => by (try dsimp only [nxC, nxD, nxR, fmC, lnC, lnD, lnR, dlC] at z); omega) (fun k z => by (try dsimp only [nxC, nxD, nxR, fmC, lnC, lnD, lnR, dlC] at z); omega), d6.f f5 (fun z => by (try dsimp only [nxC, nxD, nxR, fmC, lnC, lnD, lnR, dlC] at z); omega) (fun z => by (try dsimp only [nxC, nxD, nxR, fmC, lnC, lnD, lnR, dlC] at z); omega) (fun k z => by (try dsimp only [nxC, nxD, nxR, fmC, lnC, lnD, lnR, dlC] at z); omega) (fun k z => by (try dsimp only [nxC, nxD, nxR, fmC, lnC, lnD, lnR, dlC] at z); omega), d7.f f5 (fun z => by (try dsimp only [nxC, nxD, nxR, fmC, lnC, lnD, lnR, dlC] at z); omega) (fun z => by (try dsimp only [nxC, nxD, nxR, fmC, lnC, lnD, lnR, dlC] at z); omega) (fun z => by (try dsimp only [nxC, nxD, nxR, fmC, lnC, lnD, lnR, dlC] at z); omega) (fun z => by (try dsimp only [nxC, nxD, nxR, fmC, lnC, lnD, lnR, dlC] at z); omega), d8.f f5 (fun z => by (try dsimp only [nxC, nxD, nxR, fmC, lnC, lnD, lnR, dlC] at z); omega)⟩ u3 f6
  · rw [if_pos (show (3 : Int32) ≤ nI D.kn.length from nI_le (a := 3) (b := D.kn.length) (by omega) (by have := g.1; omega))] at m
    refine noC (t := t) ?_ x (FrL.rf _ _ _ h) ?_
    · unfold lineR
      rw [if_neg (fun z => l z.2), if_neg (fun z => by have := z.1; omega), if_neg (fun z => by have := z.1; omega), if_neg (fun z => by have := z.1; omega), if_neg (fun z => by have := z.1; omega), if_neg (fun z => by have := z.1; omega), if_neg (fun z => by have := z.1; omega)]
    · rw [f_Reader_readLine, lt_e, t1, m, bI_s, if_neg (fun z => z rfl)]
theorem lineC1 {b : Nat → Nat} {L u : Nat} {h : AH} {t : LT} {D : DR} (ku : KU u) (x : XT b L h t) (d : DfC u h D) (g : DG D) (c : tC t = 257) : ∃ h1, f_Reader_readLine h = some h1 ∧ FrU u h h1 ∧ LC b L u h1 (lineR b L D t) := by
  have u3 := ku.l
  have t1 := x.tok.1
  rw [c] at t1
  have h3 : ¬ tC t = 3 := by omega
  have m : f_Reader_mayStand (nI 257) h = if (6 : Int32) ≤ nI D.dn.length then some (0, h) else some (1, h) := by
    rw [f_Reader_mayStand, if_neg (show ¬ nI 257 = (256 : Int32) by decide), if_pos (show nI 257 = (257 : Int32) by decide), gd_ok _ d.1 ku.k0, d.2.2.1.2]
  by_cases l : D.dn.length < 6
  · rw [if_neg (show ¬ (6 : Int32) ≤ nI D.dn.length from nI_ge (a := D.dn.length) (b := 6) l (by omega))] at m
    obtain ⟨h4, e4, f4, x4⟩ := x.next h3
    obtain ⟨d1, d2, d3, d4, d5, d6, d7, d8⟩ := d.n u3 f4
    obtain ⟨h5, e5, f5, c5, k5⟩ := dealC x4 u3 d1 ku.k0 ku.k2 d2.1 d2.2 g.1 d3.1 d3.2 l
    obtain ⟨h6, e6, f6, c6⟩ := semiC c5
    have f5' : FrU u h4 h5 := f5.mn (fun c k z => by (try dsimp only [nxC, dlC] at z); dsimp only [lnC]; omega) (fun c k z => by (try dsimp only [nxD] at z); dsimp only [lnD]; omega) (fun _ z => absurd z id)
    refine ⟨h6, ?_, (f4.u.t f5').t f6.u, ?_⟩
    · rw [f_Reader_readLine, lt_e, t1, m, bI_s, if_pos (show ¬ (1 : Int32) = 0 by decide), e4, bV_s, if_neg (show ¬ nI 257 = (256 : Int32) by decide), if_pos (show nI 257 = (257 : Int32) by decide), e5, bV_s, e6]
    · unfold lineR
      rw [if_neg (fun z => by have := z.1; omega), if_pos ⟨c, l⟩]
      refine thC c6 (fun ok => ?_)
      obtain ⟨n5, q5, v0, v1, v2, v3, v4, v5⟩ := k5 (dl7_k (needR_k ok))
      refine DfC.n (D := (D.kn, (D.dn ++ [tW (nxl b L t)]), (dvN b L D (nxl b L t)), D.ch, D.he, D.n1, D.n2, D.n3, D.n4, D.se)) ⟨by rw [f5.2.2.2 _ (fun z => z)]; exact d1, d2.f f5 (fun z => by (try dsimp only [nxC, nxD, nxR, fmC, lnC, lnD, lnR, dlC] at z); omega) (fun k z => by (try dsimp only [nxC, nxD, nxR, fmC, lnC, lnD, lnR, dlC] at z); omega), ⟨n5, by show _ = nI (D.dn ++ [tW (nxl b L t)]).length; rw [len1]; exact q5⟩, fun k j hk hj => ?_, d5.f f5 (fun z => by (try dsimp only [nxC, nxD, nxR, fmC, lnC, lnD, lnR, dlC] at z); omega) (fun z => by (try dsimp only [nxC, nxD, nxR, fmC, lnC, lnD, lnR, dlC] at z); omega) (fun k z => by (try dsimp only [nxC, nxD, nxR, fmC, lnC, lnD, lnR, dlC] at z); omega) (fun k z => by (try dsimp only [nxC, nxD, nxR, fmC, lnC, lnD, lnR, dlC] at z); omega), d6.f f5 (fun z => by (try dsimp only [nxC, nxD, nxR, fmC, lnC, lnD, lnR, dlC] at z); omega) (fun z => by (try dsimp only [nxC, nxD, nxR, fmC, lnC, lnD, lnR, dlC] at z); omega) (fun k z => by (try dsimp only [nxC, nxD, nxR, fmC, lnC, lnD, lnR, dlC] at z); omega) (fun k z => by (try dsimp only [nxC, nxD, nxR, fmC, lnC, lnD, lnR, dlC] at z); omega), d7.f f5 (fun z => by (try dsimp only [nxC, nxD, nxR, fmC, lnC, lnD, lnR, dlC] at z); omega) (fun z => by (try dsimp only [nxC, nxD, nxR, fmC, lnC, lnD, lnR, dlC] at z); omega) (fun z => by (try dsimp only [nxC, nxD, nxR, fmC, lnC, lnD, lnR, dlC] at z); omega) (fun z => by (try dsimp only [nxC, nxD, nxR, fmC, lnC, lnD, lnR, dlC] at z); omega), d8.f f5 (fun z => by (try dsimp only [nxC, nxD, nxR, fmC, lnC, lnD, lnR, dlC] at z); omega)⟩ u3 f6
      have hk' : k < D.dn.length + 1 := by have : k < (D.dn ++ [tW (nxl b L t)]).length := hk; rw [len1] at this; exact this
      show _ = nI (dvN b L D (nxl b L t) k j)
      unfold dvN
      by_cases e : k = D.dn.length
      · rw [if_pos e, e]
        have : j = 0 ∨ j = 1 ∨ j = 2 ∨ j = 3 ∨ j = 4 ∨ j = 5 := by omega
        rcases this with rfl | rfl | rfl | rfl | rfl | rfl
        · exact v0
        · exact v1
        · exact v2
        · exact v3
        · exact v4
        · exact v5
      · rw [if_neg e, f5.2.1 _ _ (fun z => by (try dsimp only [nxC, dlC] at z); omega)]
        exact d4 k j (by omega) hj
  · rw [if_pos (show (6 : Int32) ≤ nI D.dn.length from nI_le (a := 6) (b := D.dn.length) (by omega) (by have := g.2.1; omega))] at m
    refine noC (t := t) ?_ x (FrL.rf _ _ _ h) ?_
    · unfold lineR
      rw [if_neg (fun z => by have := z.1; omega), if_neg (fun z => l z.2), if_neg (fun z => by have := z.1; omega), if_neg (fun z => by have := z.1; omega), if_neg (fun z => by have := z.1; omega), if_neg (fun z => by have := z.1; omega), if_neg (fun z => by have := z.1; omega)]
    · rw [f_Reader_readLine, lt_e, t1, m, bI_s, if_neg (fun z => z rfl)]
theorem f8 {u : Nat} {h : AH} (v : Int32) : FrU u h (sI h 1 8 v) := (FrL.rf _ _ _ h).s (c := 1) (k := 8) (Or.inl ⟨rfl, by omega, by omega⟩) v
/-- what the tail of a line does at a word of j -/
def tlC (j : Nat) (h : AH) : Option AH :=
  if j = 0 then (gd h 1 1 7 fun cq => lt (sR h 1 2 (some (cq + 9))) fun hq1 => bV (f_Reader_readEither 10 (0 : Int32) hq1) fun hq => f_Reader_readLine_b179 hq)
  else if j = 1 then (gd h 1 1 7 fun cq => lt (sR h 1 2 (some (cq + 13))) fun hq1 => bV (f_Reader_readEither 10 (0 : Int32) hq1) fun hq => f_Reader_readLine_b179 hq)
  else if j = 2 then (bV (f_Reader_readSnap h) fun hq => f_Reader_readLine_b179 hq)
  else if j = 3 then (gd h 1 1 7 fun cq => bI (f_Reader_needNumber (1 : Int32) (9 : Int32) h) fun rq hq => lt (sI hq cq 14 rq) fun hq2 => f_Reader_readLine_b179 hq2)
  else (gd h 1 1 7 fun cq => bI (f_Reader_needNumber (0 : Int32) (999 : Int32) h) fun rq hq => lt (sI hq cq 15 rq) fun hq2 => f_Reader_readLine_b179 hq2)
theorem lineCj {b : Nat → Nat} {L u j : Nat} {h : AH} {t : LT} {D : DR} (ku : KU u) (x : XT b L h t) (d : DfC u h D) (g : DG D) (hj : j < 5) (c : tC t = 264 + j) (y : D.se.testBit j = false → ∀ h4, XT b L h4 (nxl b L t) → DfC u h4 (D.kn, D.dn, D.dv, D.ch, D.he, D.n1, D.n2, D.n3, D.n4, (D.se ||| 2 ^ j)) → ∃ h6, tlC j h4 = some h6 ∧ FrU u h4 h6 ∧ LC b L u h6 (lineR b L D t)) (n : ¬ D.se.testBit j = false → lineR b L D t = .error (er 2 t)) : ∃ h1, f_Reader_readLine h = some h1 ∧ FrU u h h1 ∧ LC b L u h1 (lineR b L D t) := by
  have u3 := ku.l
  have t1 := x.tok.1
  rw [c] at t1
  have h3 : ¬ tC t = 3 := by omega
  have m := may_ok (h := h) g.2.2.1 hj d.2.2.2.2.2.2.2
  have x0 := x.b8 (nI ((D.se ||| 2 ^ j) * 256))
  have d0 := b8D (S := D.se ||| 2 ^ j) u3 d
  have f0 : FrU u h (sI h 1 8 (nI ((D.se ||| 2 ^ j) * 256))) := f8 _
  generalize sI h 1 8 (nI ((D.se ||| 2 ^ j) * 256)) = h0 at m x0 d0 f0
  by_cases bt : D.se.testBit j = false
  · rw [if_pos bt] at m
    obtain ⟨h4, e4, f4, x4⟩ := x0.next h3
    obtain ⟨h6, e6, f6, l6⟩ := y bt h4 x4 (d0.n u3 f4)
    refine ⟨h6, ?_, (f0.t f4.u).t f6, l6⟩
    rw [f_Reader_readLine, lt_e, t1, m, bI_s, if_pos (show ¬ (1 : Int32) = 0 by decide), e4, bV_s]
    have : j = 0 ∨ j = 1 ∨ j = 2 ∨ j = 3 ∨ j = 4 := by omega
    rcases this with rfl | rfl | rfl | rfl | rfl
    · rw [if_neg (show ¬ nI (264 + 0) = (256 : Int32) by decide), if_neg (show ¬ nI (264 + 0) = (257 : Int32) by decide), if_pos (show nI (264 + 0) = (264 : Int32) by decide)]
      exact e6
    · rw [if_neg (show ¬ nI (264 + 1) = (256 : Int32) by decide), if_neg (show ¬ nI (264 + 1) = (257 : Int32) by decide), if_neg (show ¬ nI (264 + 1) = (264 : Int32) by decide), if_pos (show nI (264 + 1) = (265 : Int32) by decide)]
      exact e6
    · rw [if_neg (show ¬ nI (264 + 2) = (256 : Int32) by decide), if_neg (show ¬ nI (264 + 2) = (257 : Int32) by decide), if_neg (show ¬ nI (264 + 2) = (264 : Int32) by decide), if_neg (show ¬ nI (264 + 2) = (265 : Int32) by decide), if_pos (show nI (264 + 2) = (266 : Int32) by decide)]
      exact e6
    · rw [if_neg (show ¬ nI (264 + 3) = (256 : Int32) by decide), if_neg (show ¬ nI (264 + 3) = (257 : Int32) by decide), if_neg (show ¬ nI (264 + 3) = (264 : Int32) by decide), if_neg (show ¬ nI (264 + 3) = (265 : Int32) by decide), if_neg (show ¬ nI (264 + 3) = (266 : Int32) by decide), if_pos (show nI (264 + 3) = (267 : Int32) by decide)]
      exact e6
    · rw [if_neg (show ¬ nI (264 + 4) = (256 : Int32) by decide), if_neg (show ¬ nI (264 + 4) = (257 : Int32) by decide), if_neg (show ¬ nI (264 + 4) = (264 : Int32) by decide), if_neg (show ¬ nI (264 + 4) = (265 : Int32) by decide), if_neg (show ¬ nI (264 + 4) = (266 : Int32) by decide), if_neg (show ¬ nI (264 + 4) = (267 : Int32) by decide)]
      exact e6
  · rw [if_neg bt] at m
    refine noC (n bt) x0 f0 ?_
    rw [f_Reader_readLine, lt_e, t1, m, bI_s, if_neg (fun z => z rfl)]
theorem no_ {b : Nat → Nat} {L : Nat} {D : DR} {t : LT} (h0 : ¬ (tC t = 256 ∧ D.kn.length < 3)) (h1 : ¬ (tC t = 257 ∧ D.dn.length < 6)) (h : ∀ j, j < 5 → tC t = 264 + j → ¬ D.se.testBit j = false) : lineR b L D t = .error (er 2 t) := by
  unfold lineR
  rw [if_neg h0, if_neg h1, if_neg (fun z => h 0 (by omega) (by have := z.1; omega) z.2), if_neg (fun z => h 1 (by omega) (by have := z.1; omega) z.2), if_neg (fun z => h 2 (by omega) (by have := z.1; omega) z.2), if_neg (fun z => h 3 (by omega) (by have := z.1; omega) z.2), if_neg (fun z => h 4 (by omega) (by have := z.1; omega) z.2)]
theorem lineC {b : Nat → Nat} {L u : Nat} {h : AH} {t : LT} {D : DR} (ku : KU u) (x : XT b L h t) (d : DfC u h D) (g : DG D) : ∃ h1, f_Reader_readLine h = some h1 ∧ FrU u h h1 ∧ LC b L u h1 (lineR b L D t) := by
  have u3 := ku.l
  by_cases c0 : tC t = 256
  · exact lineC0 ku x d g c0
  by_cases c1 : tC t = 257
  · exact lineC1 ku x d g c1
  have nj : ∀ j, j < 5 → tC t = 264 + j → ¬ D.se.testBit j = false → lineR b L D t = .error (er 2 t) := fun j hj e n => no_ (fun z => c0 z.1) (fun z => c1 z.1) (fun i hi e2 => (by have : i = j := (by omega); rw [this]; exact n))
  by_cases c2 : tC t = 264 + 0
  · refine lineCj ku x d g (by omega) c2 (fun bt h4 x4 d4 => ?_) (nj 0 (by omega) c2)
    obtain ⟨d1, d2, d3, d4, d5, d6, d7, d8⟩ := d4
    have d5' : QF (u + 9) h4 (0, []) := by have := g.2.2.2.1 bt; rw [← this]; exact d5
    obtain ⟨h5, e5, f5, r5, m5⟩ := fmC_ok (by omega) ku.k9 x4 d5'
    have f5' : FrU u h4 h5 := f5.mn (fun c k z => by (try dsimp only [nxC, fmC] at z); dsimp only [lnC]; omega) (fun c k z => by (try dsimp only [nxD] at z); dsimp only [lnD]; omega) (fun _ z => z)
    refine ⟨h5, by rw [tlC, if_pos rfl, gd_ok _ d1 ku.k0]; exact e5, f5', ?_⟩
    unfold lineR
    rw [if_neg (fun z => c0 z.1), if_neg (fun z => c1 z.1), if_pos ⟨c2, bt⟩]
    unfold fmR
    cases q : eiR (nxl b L) 10 0 (nxl b L t, 0, []) with
    | error e => rw [q] at m5; exact m5
    | ok s =>
      rw [q] at m5
      exact thC m5.1 (fun _ => ⟨r5.trans d1, d2.f f5 (fun z => by (try dsimp only [nxC, nxD, nxR, fmC, lnC, lnD, lnR, dlC] at z); omega) (fun k z => by (try dsimp only [nxC, nxD, nxR, fmC, lnC, lnD, lnR, dlC] at z); omega), d3.f f5 (fun z => by (try dsimp only [nxC, nxD, nxR, fmC, lnC, lnD, lnR, dlC] at z); omega) (fun k z => by (try dsimp only [nxC, nxD, nxR, fmC, lnC, lnD, lnR, dlC] at z); omega), d4.f f5 (fun k j _ _ z => by (try dsimp only [nxC, fmC] at z); omega), m5.2, d6.f f5 (fun z => by (try dsimp only [nxC, nxD, nxR, fmC, lnC, lnD, lnR, dlC] at z); omega) (fun z => by (try dsimp only [nxC, nxD, nxR, fmC, lnC, lnD, lnR, dlC] at z); omega) (fun k z => by (try dsimp only [nxC, nxD, nxR, fmC, lnC, lnD, lnR, dlC] at z); omega) (fun k z => by (try dsimp only [nxC, nxD, nxR, fmC, lnC, lnD, lnR, dlC] at z); omega), d7.f f5 (fun z => by (try dsimp only [nxC, nxD, nxR, fmC, lnC, lnD, lnR, dlC] at z); omega) (fun z => by (try dsimp only [nxC, nxD, nxR, fmC, lnC, lnD, lnR, dlC] at z); omega) (fun z => by (try dsimp only [nxC, nxD, nxR, fmC, lnC, lnD, lnR, dlC] at z); omega) (fun z => by (try dsimp only [nxC, nxD, nxR, fmC, lnC, lnD, lnR, dlC] at z); omega), d8.f f5 (fun z => by (try dsimp only [nxC, nxD, nxR, fmC, lnC, lnD, lnR, dlC] at z); omega)⟩)
  by_cases c3 : tC t = 264 + 1
  · refine lineCj ku x d g (by omega) c3 (fun bt h4 x4 d4 => ?_) (nj 1 (by omega) c3)
    obtain ⟨d1, d2, d3, d4, d5, d6, d7, d8⟩ := d4
    have d6' : QF (u + 13) h4 (0, []) := by have := g.2.2.2.2.1 bt; rw [← this]; exact d6
    obtain ⟨h5, e5, f5, r5, m5⟩ := fmC_ok (by omega) ku.k13 x4 d6'
    have f5' : FrU u h4 h5 := f5.mn (fun c k z => by (try dsimp only [nxC, fmC] at z); dsimp only [lnC]; omega) (fun c k z => by (try dsimp only [nxD] at z); dsimp only [lnD]; omega) (fun _ z => z)
    refine ⟨h5, by rw [tlC, if_neg (by omega), if_pos rfl, gd_ok _ d1 ku.k0]; exact e5, f5', ?_⟩
    unfold lineR
    rw [if_neg (fun z => c0 z.1), if_neg (fun z => c1 z.1), if_neg (fun z => c2 z.1), if_pos ⟨c3, bt⟩]
    unfold fmR
    cases q : eiR (nxl b L) 10 0 (nxl b L t, 0, []) with
    | error e => rw [q] at m5; exact m5
    | ok s =>
      rw [q] at m5
      exact thC m5.1 (fun _ => ⟨r5.trans d1, d2.f f5 (fun z => by (try dsimp only [nxC, nxD, nxR, fmC, lnC, lnD, lnR, dlC] at z); omega) (fun k z => by (try dsimp only [nxC, nxD, nxR, fmC, lnC, lnD, lnR, dlC] at z); omega), d3.f f5 (fun z => by (try dsimp only [nxC, nxD, nxR, fmC, lnC, lnD, lnR, dlC] at z); omega) (fun k z => by (try dsimp only [nxC, nxD, nxR, fmC, lnC, lnD, lnR, dlC] at z); omega), d4.f f5 (fun k j _ _ z => by (try dsimp only [nxC, fmC] at z); omega), d5.f f5 (fun z => by (try dsimp only [nxC, nxD, nxR, fmC, lnC, lnD, lnR, dlC] at z); omega) (fun z => by (try dsimp only [nxC, nxD, nxR, fmC, lnC, lnD, lnR, dlC] at z); omega) (fun k z => by (try dsimp only [nxC, nxD, nxR, fmC, lnC, lnD, lnR, dlC] at z); omega) (fun k z => by (try dsimp only [nxC, nxD, nxR, fmC, lnC, lnD, lnR, dlC] at z); omega), m5.2, d7.f f5 (fun z => by (try dsimp only [nxC, nxD, nxR, fmC, lnC, lnD, lnR, dlC] at z); omega) (fun z => by (try dsimp only [nxC, nxD, nxR, fmC, lnC, lnD, lnR, dlC] at z); omega) (fun z => by (try dsimp only [nxC, nxD, nxR, fmC, lnC, lnD, lnR, dlC] at z); omega) (fun z => by (try dsimp only [nxC, nxD, nxR, fmC, lnC, lnD, lnR, dlC] at z); omega), d8.f f5 (fun z => by (try dsimp only [nxC, nxD, nxR, fmC, lnC, lnD, lnR, dlC] at z); omega)⟩)
  by_cases c4 : tC t = 264 + 2
  · refine lineCj ku x d g (by omega) c4 (fun bt h4 x4 d4 => ?_) (nj 2 (by omega) c4)
    obtain ⟨d1, d2, d3, d4, d5, d6, d7, d8⟩ := d4
    obtain ⟨h5, e5, f5, m5, w1, w2⟩ := snapC (x := .ok (nxl b L t)) x4 u3 d1 ku.k0
    obtain ⟨h6, e6, f6, c6⟩ := semiC m5
    have f5' : FrU u h4 h5 := f5.mn (fun c k z => by (try dsimp only [nxC] at z); dsimp only [lnC]; omega) (fun c k z => by (try dsimp only [nxD] at z); dsimp only [lnD]; omega) (fun _ z => absurd z id)
    refine ⟨h6, by rw [tlC, if_neg (by omega), if_neg (by omega), if_pos rfl, e5, bV_s, e6], f5'.t f6.u, ?_⟩
    unfold lineR
    rw [if_neg (fun z => c0 z.1), if_neg (fun z => c1 z.1), if_neg (fun z => c2 z.1), if_neg (fun z => c3 z.1), if_pos ⟨c4, bt⟩]
    exact thC c6 (fun _ => DfC.n (D := (D.kn, D.dn, D.dv, D.ch, D.he, (numV 0 100 (.ok (nxl b L t))), (numV 1 20 (needR b L 258 (numR b L 0 100 (.ok (nxl b L t))))), D.n3, D.n4, (D.se ||| 4))) ⟨by rw [f5.2.2.2 _ (fun z => z)]; exact d1, d2.f f5 (fun z => by (try dsimp only [nxC, nxD, nxR, fmC, lnC, lnD, lnR, dlC] at z); omega) (fun k z => by (try dsimp only [nxC, nxD, nxR, fmC, lnC, lnD, lnR, dlC] at z); omega), d3.f f5 (fun z => by (try dsimp only [nxC, nxD, nxR, fmC, lnC, lnD, lnR, dlC] at z); omega) (fun k z => by (try dsimp only [nxC, nxD, nxR, fmC, lnC, lnD, lnR, dlC] at z); omega), d4.f f5 (fun k j _ _ z => by (try dsimp only [nxC] at z); omega), d5.f f5 (fun z => by (try dsimp only [nxC, nxD, nxR, fmC, lnC, lnD, lnR, dlC] at z); omega) (fun z => by (try dsimp only [nxC, nxD, nxR, fmC, lnC, lnD, lnR, dlC] at z); omega) (fun k z => by (try dsimp only [nxC, nxD, nxR, fmC, lnC, lnD, lnR, dlC] at z); omega) (fun k z => by (try dsimp only [nxC, nxD, nxR, fmC, lnC, lnD, lnR, dlC] at z); omega), d6.f f5 (fun z => by (try dsimp only [nxC, nxD, nxR, fmC, lnC, lnD, lnR, dlC] at z); omega) (fun z => by (try dsimp only [nxC, nxD, nxR, fmC, lnC, lnD, lnR, dlC] at z); omega) (fun k z => by (try dsimp only [nxC, nxD, nxR, fmC, lnC, lnD, lnR, dlC] at z); omega) (fun k z => by (try dsimp only [nxC, nxD, nxR, fmC, lnC, lnD, lnR, dlC] at z); omega), ⟨w1, w2, by rw [f5.2.1 _ _ (fun z => by (try dsimp only [nxC, nxD, nxR, fmC, lnC, lnD, lnR, dlC] at z); omega)]; exact d7.2.2.1, by rw [f5.2.1 _ _ (fun z => by (try dsimp only [nxC, nxD, nxR, fmC, lnC, lnD, lnR, dlC] at z); omega)]; exact d7.2.2.2⟩, d8.f f5 (fun z => by (try dsimp only [nxC, nxD, nxR, fmC, lnC, lnD, lnR, dlC] at z); omega)⟩ u3 f6)
  by_cases c5 : tC t = 264 + 3
  · refine lineCj ku x d g (by omega) c5 (fun bt h4 x4 d4 => ?_) (nj 3 (by omega) c5)
    obtain ⟨d1, d2, d3, d4, d5, d6, d7, d8⟩ := d4
    obtain ⟨h5, e5, f5, m5, w1⟩ := oneC (k := 14) (lo := 1) (hi := 9) (x := .ok (nxl b L t)) x4 u3 d1 ku.k0 (by omega) (by omega) (fun h => f_Reader_readLine_b179 h)
    obtain ⟨h6, e6, f6, c6⟩ := semiC m5
    have f5' : FrU u h4 h5 := f5.mn (fun c k z => by (try dsimp only [nxC] at z); dsimp only [lnC]; omega) (fun c k z => by (try dsimp only [nxD] at z); dsimp only [lnD]; omega) (fun _ z => absurd z id)
    refine ⟨h6, ?_, f5'.t f6.u, ?_⟩
    · rw [tlC, if_neg (by omega), if_neg (by omega), if_neg (by omega), if_pos rfl, ← e6]
      exact e5
    unfold lineR
    rw [if_neg (fun z => c0 z.1), if_neg (fun z => c1 z.1), if_neg (fun z => c2 z.1), if_neg (fun z => c3 z.1), if_neg (fun z => c4 z.1), if_pos ⟨c5, bt⟩]
    exact thC c6 (fun _ => DfC.n (D := (D.kn, D.dn, D.dv, D.ch, D.he, D.n1, D.n2, (numV 1 9 (.ok (nxl b L t))), D.n4, (D.se ||| 8))) ⟨by rw [f5.2.2.2 _ (fun z => z)]; exact d1, d2.f f5 (fun z => by (try dsimp only [nxC, nxD, nxR, fmC, lnC, lnD, lnR, dlC] at z); omega) (fun k z => by (try dsimp only [nxC, nxD, nxR, fmC, lnC, lnD, lnR, dlC] at z); omega), d3.f f5 (fun z => by (try dsimp only [nxC, nxD, nxR, fmC, lnC, lnD, lnR, dlC] at z); omega) (fun k z => by (try dsimp only [nxC, nxD, nxR, fmC, lnC, lnD, lnR, dlC] at z); omega), d4.f f5 (fun k j _ _ z => by (try dsimp only [nxC] at z); omega), d5.f f5 (fun z => by (try dsimp only [nxC, nxD, nxR, fmC, lnC, lnD, lnR, dlC] at z); omega) (fun z => by (try dsimp only [nxC, nxD, nxR, fmC, lnC, lnD, lnR, dlC] at z); omega) (fun k z => by (try dsimp only [nxC, nxD, nxR, fmC, lnC, lnD, lnR, dlC] at z); omega) (fun k z => by (try dsimp only [nxC, nxD, nxR, fmC, lnC, lnD, lnR, dlC] at z); omega), d6.f f5 (fun z => by (try dsimp only [nxC, nxD, nxR, fmC, lnC, lnD, lnR, dlC] at z); omega) (fun z => by (try dsimp only [nxC, nxD, nxR, fmC, lnC, lnD, lnR, dlC] at z); omega) (fun k z => by (try dsimp only [nxC, nxD, nxR, fmC, lnC, lnD, lnR, dlC] at z); omega) (fun k z => by (try dsimp only [nxC, nxD, nxR, fmC, lnC, lnD, lnR, dlC] at z); omega), ⟨by rw [f5.2.1 _ _ (fun z => by (try dsimp only [nxC, nxD, nxR, fmC, lnC, lnD, lnR, dlC] at z); omega)]; exact d7.1, by rw [f5.2.1 _ _ (fun z => by (try dsimp only [nxC, nxD, nxR, fmC, lnC, lnD, lnR, dlC] at z); omega)]; exact d7.2.1, w1, by rw [f5.2.1 _ _ (fun z => by (try dsimp only [nxC, nxD, nxR, fmC, lnC, lnD, lnR, dlC] at z); omega)]; exact d7.2.2.2⟩, d8.f f5 (fun z => by (try dsimp only [nxC, nxD, nxR, fmC, lnC, lnD, lnR, dlC] at z); omega)⟩ u3 f6)
  by_cases c6 : tC t = 264 + 4
  · refine lineCj ku x d g (by omega) c6 (fun bt h4 x4 d4 => ?_) (nj 4 (by omega) c6)
    obtain ⟨d1, d2, d3, d4, d5, d6, d7, d8⟩ := d4
    obtain ⟨h5, e5, f5, m5, w1⟩ := oneC (k := 15) (lo := 0) (hi := 999) (x := .ok (nxl b L t)) x4 u3 d1 ku.k0 (by omega) (by omega) (fun h => f_Reader_readLine_b179 h)
    obtain ⟨h6, e6, f6, c7⟩ := semiC m5
    have f5' : FrU u h4 h5 := f5.mn (fun c k z => by (try dsimp only [nxC] at z); dsimp only [lnC]; omega) (fun c k z => by (try dsimp only [nxD] at z); dsimp only [lnD]; omega) (fun _ z => absurd z id)
    refine ⟨h6, ?_, f5'.t f6.u, ?_⟩
    · rw [tlC, if_neg (by omega), if_neg (by omega), if_neg (by omega), if_neg (by omega), ← e6]
      exact e5
    unfold lineR
    rw [if_neg (fun z => c0 z.1), if_neg (fun z => c1 z.1), if_neg (fun z => c2 z.1), if_neg (fun z => c3 z.1), if_neg (fun z => c4 z.1), if_neg (fun z => c5 z.1), if_pos ⟨c6, bt⟩]
    exact thC c7 (fun _ => DfC.n (D := (D.kn, D.dn, D.dv, D.ch, D.he, D.n1, D.n2, D.n3, (numV 0 999 (.ok (nxl b L t))), (D.se ||| 16))) ⟨by rw [f5.2.2.2 _ (fun z => z)]; exact d1, d2.f f5 (fun z => by (try dsimp only [nxC, nxD, nxR, fmC, lnC, lnD, lnR, dlC] at z); omega) (fun k z => by (try dsimp only [nxC, nxD, nxR, fmC, lnC, lnD, lnR, dlC] at z); omega), d3.f f5 (fun z => by (try dsimp only [nxC, nxD, nxR, fmC, lnC, lnD, lnR, dlC] at z); omega) (fun k z => by (try dsimp only [nxC, nxD, nxR, fmC, lnC, lnD, lnR, dlC] at z); omega), d4.f f5 (fun k j _ _ z => by (try dsimp only [nxC] at z); omega), d5.f f5 (fun z => by (try dsimp only [nxC, nxD, nxR, fmC, lnC, lnD, lnR, dlC] at z); omega) (fun z => by (try dsimp only [nxC, nxD, nxR, fmC, lnC, lnD, lnR, dlC] at z); omega) (fun k z => by (try dsimp only [nxC, nxD, nxR, fmC, lnC, lnD, lnR, dlC] at z); omega) (fun k z => by (try dsimp only [nxC, nxD, nxR, fmC, lnC, lnD, lnR, dlC] at z); omega), d6.f f5 (fun z => by (try dsimp only [nxC, nxD, nxR, fmC, lnC, lnD, lnR, dlC] at z); omega) (fun z => by (try dsimp only [nxC, nxD, nxR, fmC, lnC, lnD, lnR, dlC] at z); omega) (fun k z => by (try dsimp only [nxC, nxD, nxR, fmC, lnC, lnD, lnR, dlC] at z); omega) (fun k z => by (try dsimp only [nxC, nxD, nxR, fmC, lnC, lnD, lnR, dlC] at z); omega), ⟨by rw [f5.2.1 _ _ (fun z => by (try dsimp only [nxC, nxD, nxR, fmC, lnC, lnD, lnR, dlC] at z); omega)]; exact d7.1, by rw [f5.2.1 _ _ (fun z => by (try dsimp only [nxC, nxD, nxR, fmC, lnC, lnD, lnR, dlC] at z); omega)]; exact d7.2.1, by rw [f5.2.1 _ _ (fun z => by (try dsimp only [nxC, nxD, nxR, fmC, lnC, lnD, lnR, dlC] at z); omega)]; exact d7.2.2.1, w1⟩, d8.f f5 (fun z => by (try dsimp only [nxC, nxD, nxR, fmC, lnC, lnD, lnR, dlC] at z); omega)⟩ u3 f6)
  -- no line begins so
  obtain ⟨t1, t2⟩ := x.tok
  have k : ∀ n, n < 300 → ¬ tC t = n → ¬ nI (tC t) = nI n := fun n hn e z => e ((tk_eq t2 hn).mp z)
  refine noC (t := t) (no_ (fun z => c0 z.1) (fun z => c1 z.1) (fun j hj e => by omega)) x (FrL.rf _ _ _ h) ?_
  rw [f_Reader_readLine, lt_e, t1, f_Reader_mayStand, if_neg (show ¬ nI (tC t) = (256 : Int32) from k 256 (by omega) c0), if_neg (show ¬ nI (tC t) = (257 : Int32) from k 257 (by omega) c1), if_neg (show ¬ nI (tC t) = (264 : Int32) from k 264 (by omega) c2), if_neg (show ¬ nI (tC t) = (265 : Int32) from k 265 (by omega) c3), if_neg (show ¬ nI (tC t) = (266 : Int32) from k 266 (by omega) c4), if_neg (show ¬ nI (tC t) = (267 : Int32) from k 267 (by omega) c5), if_neg (show ¬ nI (tC t) = (268 : Int32) from k 268 (by omega) c6), bI_s, if_neg (fun z => z rfl)]
