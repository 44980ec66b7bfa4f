/-! ===== the reference's steps of a line ===== -/
theorem nm_lt (b : Nat → Nat) (q : Nat) : ∀ n, (∀ k, q ≤ k → k < q + n → isDN (b k) = true) → nm b q n < 10 ^ n := by
  intro n
  induction n with
  | zero => intro _; exact Nat.one_pos
  | succ n ih =>
    intro h
    have a := ih (fun k h1 h2 => h k h1 (by omega))
    have d := h (q + n) (by omega) (by omega)
    unfold isDN at d
    simp at d
    rw [nm, Nat.pow_succ]
    omega
theorem lx_num (b : Nat → Nat) (L p : Nat) : tC (lx b L p) = 1 → tN (lx b L p) < 10000 := by
  unfold lx
  generalize hq : rn (fun k => isBN (b k)) L (L - p) p = q
  by_cases h1 : L ≤ q
  · rw [if_pos h1]; exact fun z => absurd (show (0 : Nat) = 1 from z) (by decide)
  rw [if_neg h1]
  by_cases h2 : isLN (b q) = true
  · rw [if_pos h2]
    generalize rn (fun k => isLN (b k)) L (L - q) q = e
    by_cases h8 : 8 < e - q
    · rw [show (if 8 < e - q then ((3 : Nat), q, q, 0, ([] : List Nat)) else (kwc (wl b q (e - q)), q, e, 0, wl b q (e - q))) = (3, q, q, 0, []) from if_pos h8]
      exact fun z => absurd (show (3 : Nat) = 1 from z) (by decide)
    · rw [show (if 8 < e - q then ((3 : Nat), q, q, 0, ([] : List Nat)) else (kwc (wl b q (e - q)), q, e, 0, wl b q (e - q))) = (kwc (wl b q (e - q)), q, e, 0, wl b q (e - q)) from if_neg h8]
      exact fun z => absurd z (kwc_lt _).2.2
  rw [if_neg h2]
  by_cases h3 : isDN (b q) = true
  · rw [if_pos h3]
    have e3 := rn_in (fun k => isDN (b k)) L (L - q) q
    generalize rn (fun k => isDN (b k)) L (L - q) q = e at e3
    by_cases h4 : 4 < e - q ∨ (e < L ∧ isLN (b e) = true)
    · rw [show (if 4 < e - q ∨ (e < L ∧ isLN (b e) = true) then ((3 : Nat), q, q, 0, ([] : List Nat)) else (1, q, e, nm b q (e - q), [])) = (3, q, q, 0, []) from if_pos h4]
      exact fun z => absurd (show (3 : Nat) = 1 from z) (by decide)
    · rw [show (if 4 < e - q ∨ (e < L ∧ isLN (b e) = true) then ((3 : Nat), q, q, 0, ([] : List Nat)) else (1, q, e, nm b q (e - q), [])) = (1, q, e, nm b q (e - q), []) from if_neg h4]
      intro _
      have a := nm_lt b q (e - q) (fun k h1 h2 => e3 k h1 (by omega))
      have p4 : 10 ^ (e - q) ≤ 10 ^ 4 := Nat.pow_le_pow_right (by omega) (by omega)
      have p4' : 10 ^ 4 = 10000 := by decide
      show nm b q (e - q) < 10000
      omega
  rw [if_neg h3]
  by_cases h4 : isSN (b q) = true
  · rw [if_pos h4]
    intro z
    have z' : b q = 1 := z
    rw [z'] at h4; exact absurd h4 (by decide)
  · rw [if_neg h4]; exact fun z => absurd (show (3 : Nat) = 1 from z) (by decide)
abbrev frW : Nat → Nat → Prop := fun c k => tkC c k ∨ (c = 383 ∧ (k = 2 ∨ k = 3))
abbrev FrW (h h1 : AH) : Prop := FrL frW tkD nxR h h1
theorem FrK.w {h h1 : AH} (f : FrK h h1) : FrW h h1 := f.mn (fun _ _ z => Or.inl z) (fun _ _ z => z) (fun _ z => z)
theorem MBs.frw {b : Nat → Nat} {L : Nat} {h h1 : AH} (c : MBs b L h) (f : FrW h h1) : MBs b L h1 := by
  refine ⟨c.1, ?_, fun k hk => ?_, c.2.2.2⟩
  · rw [f.2.1 _ _ (by show ¬ ((383 = 383 ∧ _) ∨ (383 = 383 ∧ _)); omega)]; exact c.2.1
  · rw [f.2.1 _ _ (by show ¬ ((384 = 383 ∧ _) ∨ (384 = 383 ∧ _)); omega)]; exact c.2.2.1 k hk
def YT1 (b : Nat → Nat) (L : Nat) (h : AH) (t : LT) : Prop := RM b L h t ∧ (TKV t ∧ tC t < 300) ∧ TG L t ∧ (tC t = 1 → tN t < 10000) ∧ hI h 383 2 = 0 ∧ hI h 383 3 = -1
def MT1 (b : Nat → Nat) (L : Nat) (h : AH) (x : Except (Nat × Nat) LT) : Prop := match x with
  | .ok t => YT1 b L h t
  | .error e => DJ b L h e
theorem YT1.next {b : Nat → Nat} {L : Nat} {h : AH} {t : LT} (x : YT1 b L h t) (h3 : ¬ tC t = 3) : ∃ h1, f_M_token h = some h1 ∧ FrK h h1 ∧ YT1 b L h1 (nxl b L t) := by
  obtain ⟨r, v, tg, n, f0, e33⟩ := x
  obtain ⟨r4, r5, -⟩ := r.2.2.2.2 h3
  obtain ⟨h1, q1, q2, q3⟩ := token_ok r.1 r5 r4
  have o : ∀ k, ¬ (k = 4 ∨ k = 6 ∨ k = 7 ∨ k = 8) → hI h1 383 k = hI h 383 k := fun k hk => q2.2.1 _ _ (fun z => hk z.2)
  exact ⟨h1, q1, q2, q3, lx_kw b L _, (lx_TG r5).1, lx_num b L _, (o 2 (by omega)).trans f0, (o 3 (by omega)).trans e33⟩
theorem YT1.wrong {b : Nat → Nat} {L : Nat} {h : AH} {t : LT} (x : YT1 b L h t) {j : Nat} (j1 : 1 ≤ j) (j2 : j < 100) : ∃ h1, f_M_wrong (nI j) h = some h1 ∧ FrW h h1 ∧ DJ b L h1 (er j t) ∧ ∀ k, ¬ k = 2 → ¬ k = 3 → hI h1 383 k = hI h 383 k := by
  obtain ⟨r, ⟨v, v2⟩, tg, n, f0, e33⟩ := x
  have go : ∀ n : Nat, 1 ≤ n → n < 100 → FrW h (sI (sI h 383 2 (nI n)) 383 3 (nI (tP t))) ∧ DJ b L (sI (sI h 383 2 (nI n)) 383 3 (nI (tP t))) (n, tP t) ∧ ∀ k, ¬ k = 2 → ¬ k = 3 → hI (sI (sI h 383 2 (nI n)) 383 3 (nI (tP t))) 383 k = hI h 383 k := fun n n1 n2 => by
    have f : FrW h (sI (sI h 383 2 (nI n)) 383 3 (nI (tP t))) := ((FrL.rf _ _ _ h).s (c := 383) (k := 2) (Or.inr ⟨rfl, by omega⟩) _).s (c := 383) (k := 3) (Or.inr ⟨rfl, by omega⟩) _
    refine ⟨f, ⟨r.1.frw f, ?_, n1, n2, hI_sI_s _ _ _ _⟩, fun k k2 k3 => ?_⟩
    · rw [hI_sI, if_neg (by omega), hI_sI_s]
    · rw [hI_sI, if_neg (by omega), hI_sI, if_neg (by omega)]
  have e7 : ∀ n : Nat, hI (sI h 383 2 (nI n)) 383 7 = nI (tP t) := fun n => by rw [hI_sI, if_neg (by omega)]; exact r.2.1
  rw [f_M_wrong, f0, if_pos (Int32.le_refl _), r.2.2.2.1]
  unfold er
  by_cases h3 : tC t = 3
  · rw [if_neg (show ¬ ¬ nI (srt (tC t)) = (3 : Int32) from fun z => z ((srt_k (k := 3) v2 (by omega) (by omega)).mpr h3)), if_pos h3, f_M_wrong_b22, lt_e, lt_e, show (1 : Int32) = nI 1 from rfl, e7]
    obtain ⟨g1, g2, g3⟩ := go 1 (by omega) (by omega)
    exact ⟨_, rfl, g1, g2, g3⟩
  · rw [if_pos (show ¬ nI (srt (tC t)) = (3 : Int32) from fun z => h3 ((srt_k (k := 3) v2 (by omega) (by omega)).mp z)), if_neg h3, f_M_wrong_b22, lt_e, lt_e, e7]
    obtain ⟨g1, g2, g3⟩ := go j j1 j2
    exact ⟨_, rfl, g1, g2, g3⟩
theorem DJ.wrong {b : Nat → Nat} {L : Nat} {h : AH} {e : Nat × Nat} (x : DJ b L h e) (k : Int32) : f_M_wrong k h = some h := by
  rw [f_M_wrong, if_neg x.v.2]
theorem wantM {b : Nat → Nat} {L : Nat} {h : AH} {x : Except (Nat × Nat) LT} (c : MT1 b L h x) {j : Nat} (hj : j < 19) {a : Int64} {l : List Nat} (hl : kwl[j]? = some l) (ha : a = Int64.ofNat (c8 l)) : ∃ h1, f_M_want a h = some h1 ∧ FrW h h1 ∧ MT1 b L h1 (needR b L (256 + j) x) := by
  cases x with
  | error e =>
    have c' : DJ b L h e := c
    exact ⟨h, by rw [f_M_want, if_neg c'.v.2], FrL.rf _ _ _ h, c⟩
  | ok t =>
    have r : YT1 b L h t := c
    rw [f_M_want, r.2.2.2.2.1, if_pos (Int32.le_refl _), isWord_ok r.1 r.2.1.1 r.2.1.2 hj hl ha, bI_s]
    show ∃ h1, _ ∧ _ ∧ MT1 b L h1 (if tC t = 256 + j then .ok (nxl b L t) else .error (er 2 t))
    by_cases e : tC t = 256 + j
    · rw [if_pos e, if_pos (by decide), if_pos e]
      obtain ⟨h1, e1, f1, x1⟩ := r.next (by omega)
      exact ⟨h1, by rw [e1, bV_s], FrK.w f1, x1⟩
    · rw [if_neg e, if_neg (fun z => z rfl), if_neg e]
      obtain ⟨h1, e1, f1, x1, -⟩ := r.wrong (j := 2) (by omega) (by omega)
      have e1' : f_M_wrong 2 h = some h1 := e1
      exact ⟨h1, by rw [e1', bV_s], f1, x1⟩
/-- the number that the reference gives matters only where nothing is wrong -/
theorem numM {b : Nat → Nat} {L lo hi : Nat} {h : AH} {x : Except (Nat × Nat) LT} (c : MT1 b L h x) (hl : lo < 100000) (hh : hi < 100000) : ∃ v h1, f_M_toldNumber (nI lo) (nI hi) h = some (v, h1) ∧ FrW h h1 ∧ MT1 b L h1 (numR b L lo hi x) ∧ ((∃ t', numR b L lo hi x = .ok t') → v = nI (numV lo hi x)) := by
  cases x with
  | error e =>
    have c' : DJ b L h e := c
    exact ⟨0, h, by rw [f_M_toldNumber, if_neg c'.v.2], FrL.rf _ _ _ h, c, fun ⟨_, z⟩ => by cases z⟩
  | ok t =>
    have r : YT1 b L h t := c
    have v := r.2.1
    have bad : ∀ k, 1 ≤ k → k < 100 → ∃ h1, (bV (f_M_wrong (nI k) h) fun hq1 => f_M_toldNumber_b46 (nI lo) (nI hi) hq1) = some (hI h 383 8, h1) ∧ FrW h h1 ∧ DJ b L h1 (er k t) := fun k k1 k2 => by
      obtain ⟨h1, e1, f1, x1, k8⟩ := r.wrong (j := k) k1 k2
      exact ⟨h1, by rw [e1, bV_s, f_M_toldNumber_b46, lt_e, if_pos x1.v.1, k8 8 (by omega) (by omega)], f1, x1⟩
    rw [f_M_toldNumber, r.2.2.2.2.1, if_pos (Int32.le_refl _), r.1.2.2.2.1]
    show ∃ v h1, _ ∧ _ ∧ MT1 b L h1 (if tC t = 1 then (if tN t < lo ∨ hi < tN t then .error (4, tP t) else .ok (nxl b L t)) else .error (er 2 t)) ∧ ((∃ t', (if tC t = 1 then (if tN t < lo ∨ hi < tN t then .error (4, tP t) else .ok (nxl b L t)) else .error (er 2 t) : Except (Nat × Nat) LT) = .ok t') → v = nI (if tC t = 1 ∧ lo ≤ tN t ∧ tN t ≤ hi then tN t else 0))
    by_cases e : tC t = 1
    · have h3 : ¬ tC t = 3 := by omega
      have n8 := (r.1.2.2.2.2 h3).2.2.1 e
      have n9 := r.2.2.2.1 e
      have bad2 : (tN t < lo ∨ hi < tN t) → ∃ v h1, f_M_toldNumber_b41 (nI lo) (nI hi) h = some (v, h1) ∧ FrW h h1 ∧ MT1 b L h1 (if tN t < lo ∨ hi < tN t then .error (4, tP t) else .ok (nxl b L t)) ∧ ((∃ t', (if tN t < lo ∨ hi < tN t then .error (4, tP t) else .ok (nxl b L t) : Except (Nat × Nat) LT) = .ok t') → v = nI (if tC t = 1 ∧ lo ≤ tN t ∧ tN t ≤ hi then tN t else 0)) := fun hb => by
        obtain ⟨h1, e1, f1, x1⟩ := bad 4 (by omega) (by omega)
        unfold er at x1
        rw [if_neg h3] at x1
        rw [if_pos hb]
        exact ⟨_, h1, e1, f1, x1, fun ⟨_, z⟩ => by cases z⟩
      rw [if_pos ((srt_2 v.2).mpr e), n8, if_pos e]
      by_cases a1 : tN t < lo
      · rw [if_pos (n_lt a1 (by omega))]
        exact bad2 (Or.inl a1)
      · rw [if_neg (n_nlt (by omega) (by omega))]
        by_cases a2 : hi < tN t
        · rw [if_neg (nI_ge a2 (by omega))]
          exact bad2 (Or.inr a2)
        · rw [if_pos (nI_le (by omega) (by omega)), f_M_toldNumber_b46, lt_e, r.2.2.2.2.1, if_neg (fun z => z rfl), n8]
          obtain ⟨h1, e1, f1, x1⟩ := r.next h3
          exact ⟨_, h1, by rw [e1, bV_s], FrK.w f1, by rw [if_neg (by omega)]; exact x1, fun _ => by rw [if_pos ⟨e, by omega, by omega⟩]⟩
    · rw [if_neg (fun z => e ((srt_2 v.2).mp z)), if_neg e]
      obtain ⟨h1, e1, f1, x1⟩ := bad 2 (by omega) (by omega)
      exact ⟨_, h1, e1, f1, x1, fun ⟨_, z⟩ => by cases z⟩
/-- a word and its number -/
def toldR (b : Nat → Nat) (L j lo hi : Nat) (x : Except (Nat × Nat) LT) : Except (Nat × Nat) LT := numR b L lo hi (needR b L (256 + j) x)
theorem toldM {b : Nat → Nat} {L lo hi : Nat} {h : AH} {x : Except (Nat × Nat) LT} (c : MT1 b L h x) {j : Nat} (hj : j < 19) {a : Int64} {l : List Nat} (hw : kwl[j]? = some l) (ha : a = Int64.ofNat (c8 l)) (hl : lo < 100000) (hh : hi < 100000) : ∃ v h1, f_M_told a (nI lo) (nI hi) h = some (v, h1) ∧ FrW h h1 ∧ MT1 b L h1 (toldR b L j lo hi x) ∧ ((∃ t', toldR b L j lo hi x = .ok t') → v = nI (numV lo hi (needR b L (256 + j) x))) := by
  obtain ⟨h1, e1, f1, c1⟩ := wantM c hj hw ha
  obtain ⟨v, h2, e2, f2, c2, k2⟩ := numM (lo := lo) (hi := hi) c1 hl hh
  exact ⟨v, h2, by rw [f_M_told, e1, bV_s, e2, bI_s], f1.t f2, c2, k2⟩
/-- a word that may come, and its number -/
def optR (b : Nat → Nat) (L k hi : Nat) (x : Except (Nat × Nat) LT) : Except (Nat × Nat) LT := if takeB k x = true then numR b L 0 hi (takeR b L k x) else x
def optV (b : Nat → Nat) (L k hi : Nat) (x : Except (Nat × Nat) LT) : Nat := if takeB k x = true then numV 0 hi (takeR b L k x) else 0
theorem optM {b : Nat → Nat} {L hi : Nat} {h : AH} {x : Except (Nat × Nat) LT} (c : MT1 b L h x) {j : Nat} (hj : j < 19) {a : Int64} {l : List Nat} (hw : kwl[j]? = some l) (ha : a = Int64.ofNat (c8 l)) (hh : hi < 100000) : ∃ v h1, f_M_option a (nI hi) h = some (v, h1) ∧ FrW h h1 ∧ MT1 b L h1 (optR b L (256 + j) hi x) ∧ ((∃ t', optR b L (256 + j) hi x = .ok t') → v = nI (optV b L (256 + j) hi x)) := by
  cases x with
  | error e =>
    have c' : DJ b L h e := c
    exact ⟨0, h, by rw [f_M_option, if_pos c'.v.1], FrL.rf _ _ _ h, c, fun _ => rfl⟩
  | ok t =>
    have r : YT1 b L h t := c
    rw [f_M_option, r.2.2.2.2.1, if_neg (fun z => z rfl), isWord_ok r.1 r.2.1.1 r.2.1.2 hj hw ha, bI_s]
    by_cases e : tC t = 256 + j
    · obtain ⟨v, h1, e1, f1, c1, k1⟩ := toldM (lo := 0) (hi := hi) c hj hw ha (by omega) hh
      have tb : takeB (256 + j) (.ok t) = true := by show decide (tC t = 256 + j) = true; rw [decide_eq_true_iff]; exact e
      have tr : takeR b L (256 + j) (.ok t) = needR b L (256 + j) (.ok t) := by
        show (if tC t = 256 + j then _ else _) = (if tC t = 256 + j then _ else _)
        rw [if_pos e, if_pos e]
      unfold optR optV
      rw [if_pos tb, if_pos tb, tr, if_pos e, if_neg (by decide)]
      have e1' : f_M_told a 0 (nI hi) h = some (v, h1) := e1
      exact ⟨v, h1, by rw [e1', bI_s], f1, c1, k1⟩
    · have tb : ¬ takeB (256 + j) (.ok t) = true := by show ¬ decide (tC t = 256 + j) = true; rw [decide_eq_true_iff]; exact e
      unfold optR optV
      rw [if_neg tb, if_neg tb, if_neg e, if_pos rfl]
      exact ⟨0, h, rfl, FrL.rf _ _ _ h, c, fun _ => rfl⟩
/-- the class's own of the same -/
theorem optC {b : Nat → Nat} {L k hi : Nat} {h : AH} {x : Except (Nat × Nat) LT} (c : CT1 b L h x) (hk : k < 300) (k3 : ¬ k = 3) (hh : hi < 100000) : ∃ h1, f_Reader_take (nI k) h = some (if takeB k x = true then 1 else 0, h1) ∧ FrN h h1 ∧ CT1 b L h1 (takeR b L k x) ∧ (¬ takeB k x = true → CT1 b L h1 (optR b L k hi x)) ∧ (takeB k x = true → ∃ h2, f_Reader_needNumber 0 (nI hi) h1 = some (nI (optV b L k hi x), h2) ∧ FrN h1 h2 ∧ CT1 b L h2 (optR b L k hi x)) := by
  obtain ⟨h1, e1, f1, c1⟩ := takeC c hk k3
  refine ⟨h1, e1, f1, c1, fun z => ?_, fun z => ?_⟩
  · unfold optR
    rw [if_neg z]
    cases x with
    | error e => exact c1
    | ok t =>
      have n : ¬ tC t = k := fun q => z (by show decide (tC t = k) = true; rw [decide_eq_true_iff]; exact q)
      have c1' : CT1 b L h1 (if tC t = k then .ok (nxl b L t) else .ok t) := c1
      rw [if_neg n] at c1'; exact c1'
  · obtain ⟨h2, e2, f2, c2⟩ := numC (lo := 0) (hi := hi) c1 (by omega) hh
    unfold optR optV
    rw [if_pos z, if_pos z]
    exact ⟨h2, e2, f2, c2⟩
