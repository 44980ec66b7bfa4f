/-! ===== a new name, a kind named ===== -/
def kindR (b : Nat → Nat) (L : Nat) (kn : List (List Nat)) (x : Except (Nat × Nat) LT) : Except (Nat × Nat) LT := match x with
  | .ok t => if tC t = 2 then (if nix (tW t) kn < kn.length then .ok (nxl b L t) else .error (5, tP t)) else .error (er 2 t)
  | .error e => .error e
def kindV (kn : List (List Nat)) (x : Except (Nat × Nat) LT) : Nat := match x with
  | .ok t => if tC t = 2 ∧ nix (tW t) kn < kn.length then nix (tW t) kn else 0
  | .error _ => 0
theorem kind_l {b : Nat → Nat} {L u : Nat} {h : AH} {t : LT} {kn : List (List Nat)} (r : XT b L h t) (h2 : tC t = 2) (hu : hR h 1 1 = some u) (ku : kdF u = .inr 7) (n : NC h (u + 1) kn) (e10 : hI h u 10 = nI kn.length) (hl : kn.length ≤ 3) : ∀ (m i fu : Nat), m + i = kn.length → m < fu → i ≤ nix (tW t) kn → ∃ h1, f_Reader_needKind_l17 fu (nI i) h = some (nI (kindV kn (.ok t)), h1) ∧ FrN h h1 ∧ CT1 b L h1 (kindR b L kn (.ok t)) := by
  have w := r.2.1.1 h2
  have h3 : ¬ tC t = 3 := by omega
  have ew := (r.1.2.2.2.2.2 h3).2.2.2.2.2 h2
  have nl := nix_le (tW t) kn
  intro m
  induction m with
  | zero =>
    intro i fu hi hf hx
    obtain ⟨g, rfl⟩ : ∃ g, fu = g + 1 := ⟨fu - 1, by omega⟩
    have nn : ¬ nix (tW t) kn < kn.length := by omega
    rw [f_Reader_needKind_l17, gd_ok _ hu ku, e10, if_pos (nI_le (by omega) (by omega))]
    obtain ⟨h1, e1, f1, x1⟩ := r.fail (k := 5) (by omega) (by omega)
    unfold er at x1
    rw [if_neg h3] at x1
    refine ⟨h1, ?_, f1, ?_⟩
    · show _ = some (nI (if tC t = 2 ∧ nix (tW t) kn < kn.length then nix (tW t) kn else 0), h1)
      rw [show (5 : Int32) = nI 5 from rfl, e1, bV_s, if_neg (fun z => nn z.2)]; rfl
    · show CT1 b L h1 (if tC t = 2 then (if nix (tW t) kn < kn.length then .ok (nxl b L t) else .error (5, tP t)) else .error (er 2 t))
      rw [if_pos h2, if_neg nn]; exact x1
  | succ m ih =>
    intro i fu hi hf hx
    obtain ⟨g, rfl⟩ : ∃ g, fu = g + 1 := ⟨fu - 1, by omega⟩
    rw [f_Reader_needKind_l17, gd_ok _ hu ku, e10, if_neg (nI_ge (by omega) (by omega)), gd_ok _ hu ku, gx_n _ (show i < 3 by omega) (by omega), ix_n (by omega)]
    have e := n.eq w.1 w.2 (show i < kn.length by omega) ew
    by_cases c : i = nix (tW t) kn
    · rw [if_neg (fun z => z (e.mpr c))]
      obtain ⟨h1, e1, f1, x1⟩ := r.next h3
      have pp : nix (tW t) kn < kn.length := by omega
      refine ⟨h1, ?_, f1, ?_⟩
      · show _ = some (nI (if tC t = 2 ∧ nix (tW t) kn < kn.length then nix (tW t) kn else 0), h1)
        rw [e1, bV_s, if_pos ⟨h2, pp⟩, c]
      · show CT1 b L h1 (if tC t = 2 then (if nix (tW t) kn < kn.length then .ok (nxl b L t) else .error (5, tP t)) else .error (er 2 t))
        rw [if_pos h2, if_pos pp]; exact x1
    · rw [if_pos (fun z => c (e.mp z)), lt_e, nI_1]
      exact ih (i + 1) g (by omega) (by omega) (by omega)
theorem kindC {b : Nat → Nat} {L u : Nat} {h : AH} {x : Except (Nat × Nat) LT} {kn : List (List Nat)} (c : CT1 b L h x) (hu : hR h 1 1 = some u) (ku : kdF u = .inr 7) (n : NC h (u + 1) kn) (e10 : hI h u 10 = nI kn.length) (hl : kn.length ≤ 3) : ∃ h1, f_Reader_needKind h = some (nI (kindV kn x), h1) ∧ FrN h h1 ∧ CT1 b L h1 (kindR b L kn x) := by
  cases x with
  | error e =>
    have c' : DT b L h e := c
    obtain ⟨h1, e1, f1, x1⟩ := c'.fail 2
    exact ⟨h1, by rw [f_Reader_needKind, c'.2.2.2.2.2, if_neg (by decide), e1, bV_s]; rfl, f1, x1⟩
  | ok t =>
    have r : XT b L h t := c
    obtain ⟨t1, t2⟩ := r.tok
    rw [f_Reader_needKind, t1]
    by_cases h2 : tC t = 2
    · rw [if_pos (show nI (tC t) = (2 : Int32) by rw [h2]; rfl)]
      exact kind_l r h2 hu ku n e10 hl kn.length 0 FU rfl (by show kn.length < 1000000; omega) (Nat.zero_le _)
    · rw [if_neg (show ¬ nI (tC t) = (2 : Int32) from fun z => h2 ((tk_eq (k := 2) t2 (by omega)).mp z))]
      obtain ⟨h1, e1, f1, x1⟩ := r.fail (k := 2) (by omega) (by omega)
      refine ⟨h1, ?_, f1, ?_⟩
      · show _ = some (nI (if tC t = 2 ∧ nix (tW t) kn < kn.length then nix (tW t) kn else 0), h1)
        rw [show (2 : Int32) = nI 2 from rfl, e1, bV_s, if_neg (fun z => h2 z.1)]; rfl
      · show CT1 b L h1 (if tC t = 2 then (if nix (tW t) kn < kn.length then .ok (nxl b L t) else .error (5, tP t)) else .error (er 2 t))
        rw [if_neg h2]; exact x1
/-- a new name that must come -/
def newR (b : Nat → Nat) (L : Nat) (l : List (List Nat)) (t : LT) : Except (Nat × Nat) LT := if tC t = 2 then (if nix (tW t) l < l.length then .error (3, tP t) else .ok (nxl b L t)) else .error (er 2 t)
theorem nix_new {w : List Nat} {l : List (List Nat)} (h : ¬ nix w l < l.length) (nd : l.Nodup) : (l ++ [w]).Nodup := by
  have nl := nix_le w l
  rw [List.nodup_append]
  refine ⟨nd, by simp, fun a ha c hc => ?_⟩
  rw [List.mem_singleton] at hc
  rw [hc]
  intro e
  rw [e] at ha
  obtain ⟨i, hi, q⟩ := List.getElem_of_mem ha
  have := (nix_uq w l nd i hi).mp (by rw [List.getElem?_eq_getElem hi, q])
  omega
abbrev frND (k0 : Nat) : Nat → Nat → Prop := fun c k => tkD c k ∨ (c = 385 ∧ k = k0)
theorem newM {b : Nat → Nat} {L off : Nat} {h : AH} {t : LT} {l : List (List Nat)} (r : YT1 b L h t) (h3 : ¬ tC t = 3) (n : NR h off l) (ho : off + l.length < 9) : ∃ h1, f_M_newName (nI off) (nI l.length) h = some h1 ∧ FrL frW (frND (off + l.length)) nxR h h1 ∧ MT1 b L h1 (newR b L l (nxl b L t)) ∧ ((∃ t', newR b L l (nxl b L t) = .ok t') → NR h1 off (l ++ [tW (nxl b L t)])) := by
  obtain ⟨h1, e1, f1, r1⟩ := r.next h3
  have g : ∀ {x y : AH}, FrW x y → FrL frW (frND (off + l.length)) nxR x y := fun f => f.mn (fun _ _ z => z) (fun _ _ z => Or.inl z) (fun _ z => z)
  have n1 : NR h1 off l := ⟨n.1, n.2.1, fun k hk => by rw [f1.2.2.1 _ _ (by show ¬ (385 = 383 ∧ _); omega)]; exact n.2.2 k hk⟩
  generalize nxl b L t = t' at r1 ⊢
  rw [f_M_newName, e1, bV_s, isName_ok r1.1 r1.2.1.1 r1.2.1.2, bI_s]
  unfold newR
  by_cases h2 : tC t' = 2
  · have h3' : ¬ tC t' = 3 := by omega
    obtain ⟨v1, v2, v3⟩ := r1.2.1.1 (Or.inl h2)
    have e9 := (r1.1.2.2.2.2 h3').2.2.2 (Or.inl h2)
    have nl := nix_le (tW t') l
    rw [if_pos h2, if_pos (by decide), findM n1 v1 v2 e9 (by omega), bI_s, if_pos h2]
    by_cases c : nix (tW t') l < l.length
    · rw [if_pos c, if_neg (show ¬ nI (nix (tW t') l) < (0 : Int32) from n_nlt (b := 0) (by omega) (by omega)), if_pos c]
      obtain ⟨h5, e5, f5, x5, -⟩ := r1.wrong (j := 3) (by omega) (by omega)
      unfold er at x5
      rw [if_neg h3'] at x5
      have e5' : f_M_wrong 3 h1 = some h5 := e5
      exact ⟨h5, by rw [e5', bV_s, f_M_newName_b33, if_neg x5.v.2], g ((FrK.w f1).t f5), x5, fun ⟨_, z⟩ => (by cases z)⟩
    · rw [if_neg c, if_pos (by decide), if_neg c, f_M_newName_b33, r1.2.2.2.2.1, if_pos (Int32.le_refl _), nI_add, gx_n _ (show off + l.length < 9 by omega) (by omega), ix_n (by omega), lt_e, e9]
      have f2 : FrL frW (frND (off + l.length)) nxR h1 (sL h1 385 (off + l.length) (Int64.ofNat (c8 (tW t')))) := (FrL.rf _ _ _ h1).l (c := 385) (k := off + l.length) (Or.inr ⟨rfl, rfl⟩) _
      have r2 : YT1 b L (sL h1 385 (off + l.length) (Int64.ofNat (c8 (tW t')))) t' := ⟨r1.1.o ⟨r1.1.1.1, r1.1.1.2.1, r1.1.1.2.2.1, r1.1.1.2.2.2⟩ (fun k _ => rfl) (by rw [hL_sL, if_neg (by omega)]), r1.2⟩
      have n2 : NR (sL h1 385 (off + l.length) (Int64.ofNat (c8 (tW t')))) off (l ++ [tW t']) := by
        refine ⟨nix_new c n.1, fun x hx => ?_, fun k hk => ?_⟩
        · rw [List.mem_append] at hx
          rcases hx with hx | hx
          · exact n.2.1 x hx
          · rw [List.mem_singleton] at hx; rw [hx]; exact ⟨v1, v2⟩
        · have hk2 : k < l.length + 1 := by rw [List.length_append] at hk; exact hk
          rw [hL_sL]
          by_cases e : k = l.length
          · subst e
            rw [if_pos ⟨rfl, rfl⟩, List.getElem?_append_right (Nat.le_refl _), Nat.sub_self]; rfl
          · rw [if_neg (by omega), List.getElem?_append_left (by omega)]
            exact n1.2.2 k (by omega)
      generalize sL h1 385 (off + l.length) (Int64.ofNat (c8 (tW t'))) = h4 at f2 r2 n2
      obtain ⟨h5, e5, f5, x5⟩ := r2.next h3'
      exact ⟨h5, by rw [e5, bV_s], ((g (FrK.w f1)).t f2).t (g (FrK.w f5)), x5, fun _ => ⟨n2.1, n2.2.1, fun k hk => by rw [f5.2.2.1 _ _ (by show ¬ (385 = 383 ∧ _); omega)]; exact n2.2.2 k hk⟩⟩
  · rw [if_neg h2, if_neg (fun z => z rfl), if_neg h2]
    obtain ⟨h5, e5, f5, x5, -⟩ := r1.wrong (j := 2) (by omega) (by omega)
    have e5' : f_M_wrong 2 h1 = some h5 := e5
    exact ⟨h5, by rw [e5', bV_s, f_M_newName_b33, if_neg x5.v.2], g ((FrK.w f1).t f5), x5, fun ⟨_, z⟩ => (by cases z)⟩
