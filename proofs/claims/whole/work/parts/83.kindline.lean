/-! ===== a line of a kind ===== -/
abbrev frY (u : Nat) : Nat → Nat → Prop := fun c k => nxC c k ∨ (c = u ∧ (k = 10 ∨ k = 11)) ∨ (u + 3 ≤ c ∧ c ≤ u + 8)
abbrev frYD (u : Nat) : Nat → Nat → Prop := fun c k => nxD c k ∨ c = u + 1 ∨ c = u + 2
abbrev FrY (u : Nat) (h h1 : AH) : Prop := FrL (frY u) (frYD u) nxR h h1
theorem FrN.y {u : Nat} {h h1 : AH} (f : FrN h h1) : FrY u h h1 := f.mn (fun _ _ z => Or.inl z) (fun _ _ z => Or.inl z) (fun _ z => z)
theorem NC.frl {C D : Nat → Nat → Prop} {R : Nat → Prop} {h h1 : AH} {cell : Nat} {l : List (List Nat)} (n : NC h cell l) (f : FrL C D R h h1) (a : ∀ k, ¬ D cell k) : NC h1 cell l := ⟨n.1, n.2.1, fun k hk => by rw [f.2.2.1 _ _ (a k)]; exact n.2.2 k hk⟩
/-- a name kept -/
theorem NC.add {h h1 : AH} {cell : Nat} {l : List (List Nat)} {w : List Nat} (n : NC h cell l) (c : ¬ nix w l < l.length) (w1 : LTR w) (w2 : w.length ≤ 8) (e : hL h1 cell l.length = Int64.ofNat (c5 w)) (o : ∀ k, k < l.length → hL h1 cell k = hL h cell k) : NC h1 cell (l ++ [w]) := by
  refine ⟨nix_new c n.1, fun x hx => ?_, fun k hk => ?_⟩
  · rw [List.mem_append] at hx
    rcases hx with hx | hx
    · exact n.2.1 x hx
    · rw [List.mem_singleton] at hx; rw [hx]; exact ⟨w1, w2⟩
  · have hk2 : k < l.length + 1 := by rw [List.length_append] at hk; exact hk
    by_cases q : k = l.length
    · subst q
      rw [e, List.getElem?_append_right (Nat.le_refl _), Nat.sub_self]; rfl
    · rw [o k (by omega), List.getElem?_append_left (by omega)]
      exact n.2.2 k (by omega)
theorem XT.o {b : Nat → Nat} {L : Nat} {h h1 : AH} {t : LT} (x : XT b L h t) (e : ∀ k, hI h1 1 k = hI h 1 k) (e2 : ∀ k, hI h1 2 k = hI h 2 k) (e7 : hL h1 1 7 = hL h 1 7) : XT b L h1 t := by
  obtain ⟨⟨⟨c1, c2, c3, c4⟩, r2, r3, r4, r5, r6⟩, w⟩ := x
  refine ⟨⟨⟨c1, (e _).trans c2, fun k hk => (e2 _).trans (c3 k hk), c4⟩, (e _).trans r2, r3, (e _).trans r4, fun z => ⟨(e _).trans (r5 z).1, (e _).trans (r5 z).2⟩, fun z => ?_⟩, w⟩
  obtain ⟨a1, a2, a3, a4, a5, a6⟩ := r6 z
  exact ⟨(e _).trans a1, (e _).trans a2, (e _).trans a3, a4, fun y => (e _).trans (a5 y), fun y => e7.trans (a6 y)⟩
theorem kindLineC {b : Nat → Nat} {L u : Nat} {h : AH} {t : LT} {kn : List (List Nat)} (r : XT b L h t) (u3 : 3 ≤ u) (hu : hR h 1 1 = some u) (ku : kdF u = .inr 7) (k1 : kdF (u + 1) = .inl (2, 3)) (n : NC h (u + 1) kn) (e10 : hI h u 10 = nI kn.length) (hl : kn.length < 3) : ∃ h1, f_Reader_readKind h = some h1 ∧ FrL (fun c k => nxC c k ∨ (c = u ∧ k = 10)) (fun c k => nxD c k ∨ (c = u + 1 ∧ k = kn.length)) nxR h h1 ∧ CT1 b L h1 (newR b L kn t) ∧ ((∃ t', newR b L kn t = .ok t') → NC h1 (u + 1) (kn ++ [tW t]) ∧ hI h1 u 10 = nI (kn.length + 1)) := by
  have g : ∀ {x y : AH}, FrN x y → FrL (fun c k => nxC c k ∨ (c = u ∧ k = 10)) (fun c k => nxD c k ∨ (c = u + 1 ∧ k = kn.length)) nxR x y := fun f => f.mn (fun _ _ z => Or.inl z) (fun _ _ z => Or.inl z) (fun _ z => z)
  obtain ⟨h1, e1, f1, x1⟩ := newC r k1 (by omega) n hl
  rw [f_Reader_readKind, gd_ok _ hu ku, gd_ok _ hu ku, e10, e1, bI_s]
  unfold newR
  by_cases h2 : tC t = 2
  · have h3 : ¬ tC t = 3 := by omega
    obtain ⟨v1, v2⟩ := r.2.1.1 h2
    rw [if_pos h2] at x1 ⊢
    by_cases c : nix (tW t) kn < kn.length
    · rw [if_pos c] at x1
      rw [if_neg (show ¬ (tC t = 2 ∧ ¬ nix (tW t) kn < kn.length) from fun z => z.2 c), if_pos rfl, if_pos c]
      unfold er at x1
      rw [if_neg h3] at x1
      exact ⟨h1, rfl, g f1, x1, fun ⟨_, z⟩ => (by cases z)⟩
    · rw [if_neg c] at x1
      subst x1
      have e7 := (r.1.2.2.2.2.2 h3).2.2.2.2.2 h2
      have y : (if tC t = 2 ∧ ¬ nix (tW t) kn < kn.length then (1 : Int32) else 0) = 1 := if_pos ⟨h2, c⟩
      rw [y, if_neg (show ¬ (1 : Int32) = 0 by decide), if_neg c, gd_ok _ hu ku, gd_ok _ hu ku, e10, gx_n _ hl (by omega), ix_n (by omega), lt_e, e7]
      have hu2 : hR (sL h1 (u + 1) kn.length (Int64.ofNat (c5 (tW t)))) 1 1 = some u := hu
      rw [gd_ok _ hu2 ku, hI_sL, e10, nI_1, lt_e]
      have f2 : FrL (fun c k => nxC c k ∨ (c = u ∧ k = 10)) (fun c k => nxD c k ∨ (c = u + 1 ∧ k = kn.length)) nxR h1 (sI (sL h1 (u + 1) kn.length (Int64.ofNat (c5 (tW t)))) u 10 (nI (kn.length + 1))) := ((FrL.rf _ _ _ h1).l (c := u + 1) (k := kn.length) (Or.inr ⟨rfl, rfl⟩) _).s (c := u) (k := 10) (Or.inr ⟨rfl, rfl⟩) _
      have n2 : NC (sI (sL h1 (u + 1) kn.length (Int64.ofNat (c5 (tW t)))) u 10 (nI (kn.length + 1))) (u + 1) (kn ++ [tW t]) := n.add c v1 v2 (by rw [hL_sI, hL_sL, if_pos ⟨rfl, rfl⟩]) (fun k hk => by rw [hL_sI, hL_sL, if_neg (by omega)])
      have r2 : XT b L (sI (sL h1 (u + 1) kn.length (Int64.ofNat (c5 (tW t)))) u 10 (nI (kn.length + 1))) t := r.o (fun k => by rw [hI_sI, if_neg (by omega)]; rfl) (fun k => by rw [hI_sI, if_neg (by omega)]; rfl) (by rw [hL_sI, hL_sL, if_neg (by omega)])
      have e2 : hI (sI (sL h1 (u + 1) kn.length (Int64.ofNat (c5 (tW t)))) u 10 (nI (kn.length + 1))) u 10 = nI (kn.length + 1) := hI_sI_s _ _ _ _
      generalize sI (sL h1 (u + 1) kn.length (Int64.ofNat (c5 (tW t)))) u 10 (nI (kn.length + 1)) = h4 at f2 n2 r2 e2 ⊢
      obtain ⟨h5, e5, f5, x5⟩ := r2.next h3
      refine ⟨h5, by rw [e5, bV_s], f2.t (g f5), x5, fun _ => ⟨n2.frl f5 (fun k => by show ¬ (u + 1 = 1 ∧ _); omega), ?_⟩⟩
      rw [f5.2.1 _ _ (by show ¬ (u = 1 ∧ _); omega)]; exact e2
  · rw [if_neg h2] at x1 ⊢
    have y : (if tC t = 2 ∧ ¬ nix (tW t) kn < kn.length then (1 : Int32) else 0) = 0 := if_neg (fun z => h2 z.1)
    rw [y, if_pos rfl]
    exact ⟨h1, rfl, g f1, x1, fun ⟨_, z⟩ => (by cases z)⟩
theorem kindLineM {b : Nat → Nat} {L : Nat} {h : AH} {t : LT} {kn : List (List Nat)} (r : YT1 b L h t) (h3 : ¬ tC t = 3) (n : NR h 0 kn) (hl : kn.length < 3) (e36 : hI h 383 36 = nI kn.length) : ∃ h1, f_M_readKind h = some h1 ∧ FrL (fun c k => frW c k ∨ (c = 383 ∧ k = 36)) (frND kn.length) nxR h h1 ∧ MT1 b L h1 (newR b L kn (nxl b L t)) ∧ ((∃ t', newR b L kn (nxl b L t) = .ok t') → NR h1 0 (kn ++ [tW (nxl b L t)]) ∧ hI h1 383 36 = nI (kn.length + 1)) := by
  obtain ⟨h1, e1, f1, x1, k1⟩ := newM r h3 n (by omega)
  rw [Nat.zero_add] at f1
  have f1' : FrL (fun c k => frW c k ∨ (c = 383 ∧ k = 36)) (frND kn.length) nxR h h1 := f1.mn (fun _ _ z => Or.inl z) (fun _ _ z => z) (fun _ z => z)
  have e1' : f_M_newName 0 (nI kn.length) h = some h1 := e1
  rw [f_M_readKind, e36, e1', bV_s]
  generalize nxl b L t = t' at x1 k1 ⊢
  cases hr : newR b L kn t' with
  | error e =>
    rw [hr] at x1
    have x1' : DJ b L h1 e := x1
    rw [if_pos x1'.v.1]
    exact ⟨h1, rfl, f1', x1', fun ⟨_, z⟩ => (by cases z)⟩
  | ok t2 =>
    rw [hr] at x1
    have x1' : YT1 b L h1 t2 := x1
    have q := k1 ⟨t2, hr⟩
    have e2 : hI h1 383 36 = nI kn.length := by rw [f1.2.1 _ _ (by show ¬ ((383 = 383 ∧ _) ∨ _); omega)]; exact e36
    rw [x1'.2.2.2.2.1, if_neg (fun z => z rfl), e2, nI_1, lt_e]
    have f2 : FrL (fun c k => frW c k ∨ (c = 383 ∧ k = 36)) (frND kn.length) nxR h1 (sI h1 383 36 (nI (kn.length + 1))) := (FrL.rf _ _ _ h1).s (c := 383) (k := 36) (Or.inr ⟨rfl, rfl⟩) _
    have o : ∀ k, ¬ k = 36 → hI (sI h1 383 36 (nI (kn.length + 1))) 383 k = hI h1 383 k := fun k hk => by rw [hI_sI, if_neg (by omega)]
    have mb : MBs b L (sI h1 383 36 (nI (kn.length + 1))) := ⟨x1'.1.1.1, (o _ (by omega)).trans x1'.1.1.2.1, fun k hk => by rw [hI_sI, if_neg (by omega)]; exact x1'.1.1.2.2.1 k hk, x1'.1.1.2.2.2⟩
    exact ⟨_, rfl, f1'.t f2, ⟨x1'.1.o mb (fun k hk => o _ (by omega)) rfl, x1'.2.1, x1'.2.2.1, x1'.2.2.2.1, (o _ (by omega)).trans x1'.2.2.2.2.1, (o _ (by omega)).trans x1'.2.2.2.2.2⟩, fun _ => ⟨q, hI_sI_s _ _ _ _⟩⟩
