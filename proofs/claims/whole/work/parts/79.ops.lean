/-! ===== the class's steps of a line ===== -/
def XT (b : Nat → Nat) (L : Nat) (h : AH) (t : LT) : Prop := RC b L h t ∧ TKW t ∧ TKV t ∧ TG L t
def DT (b : Nat → Nat) (L : Nat) (h : AH) (e : Nat × Nat) : Prop := CBs b L h ∧ hI h 1 10 = nI e.1 ∧ 1 ≤ e.1 ∧ e.1 < 100 ∧ hI h 1 11 = nI e.2 ∧ hI h 1 4 = 3
theorem XT.tok {b : Nat → Nat} {L : Nat} {h : AH} {t : LT} (x : XT b L h t) : hI h 1 4 = nI (tC t) ∧ tC t < 300 := ⟨x.1.2.2.2.1, x.2.1.2.2⟩
theorem XT.next {b : Nat → Nat} {L : Nat} {h : AH} {t : LT} (x : XT b L h t) (h3 : ¬ tC t = 3) : ∃ h1, f_Reader_next h = some h1 ∧ FrN h h1 ∧ XT b L h1 (nxl b L t) := by
  obtain ⟨r, w, v, tg⟩ := x
  obtain ⟨r1, r2, r3, r4, r5⟩ := r.2.2.2.2.2 h3
  obtain ⟨h1, e1, f1, q1, q2⟩ := next_ok r.1 r4 r1 r2 r3
  exact ⟨h1, e1, f1, q1, q2, (lx_kw b L _).1, (lx_TG r4).1⟩
theorem DT.fail {b : Nat → Nat} {L : Nat} {h : AH} {e : Nat × Nat} (x : DT b L h e) (k : Int32) : ∃ h1, f_Reader_fail k h = some h1 ∧ FrN h h1 ∧ DT b L h1 e := by
  obtain ⟨c, x10, x1, x2, x11, x4⟩ := x
  have f : FrN h (sI h 1 4 3) := (FrL.rf _ _ _ h).s (c := 1) (k := 4) ⟨rfl, by omega⟩ 3
  refine ⟨_, by rw [f_Reader_fail, if_pos (by rw [x10]; exact fun z => by have := (n_inj (show e.1 < 2 ^ 31 by omega) (show 0 < 2 ^ 31 by omega)).mp z; omega), lt_e], f, c.fr f, ?_, x1, x2, ?_, hI_sI_s _ _ _ _⟩
  · rw [hI_sI, if_neg (by decide)]; exact x10
  · rw [hI_sI, if_neg (by decide)]; exact x11
theorem XT.fail {b : Nat → Nat} {L : Nat} {h : AH} {t : LT} (x : XT b L h t) {k : Nat} (k1 : 1 ≤ k) (k2 : k < 100) : ∃ h1, f_Reader_fail (nI k) h = some h1 ∧ FrN h h1 ∧ DT b L h1 (er k t) := by
  obtain ⟨r, w, v, tg⟩ := x
  unfold er
  by_cases h3 : tC t = 3
  · obtain ⟨r1, r2⟩ := r.2.2.2.2.1 h3
    rw [if_pos h3]
    exact DT.fail (e := (1, tP t)) ⟨r.1, r1, by show 1 ≤ 1; omega, by show 1 < 100; omega, r2, by rw [r.2.2.2.1, h3]; rfl⟩ _
  · obtain ⟨r1, r2, -⟩ := r.2.2.2.2.2 h3
    rw [if_neg h3]
    have f : FrN h (sI (sI (sI h 1 10 (nI k)) 1 11 (nI (tP t))) 1 4 3) := (((FrL.rf _ _ _ h).s (c := 1) (k := 10) ⟨rfl, by omega⟩ (nI k)).s (c := 1) (k := 11) ⟨rfl, by omega⟩ (nI (tP t))).s (c := 1) (k := 4) ⟨rfl, by omega⟩ 3
    have v5 : hI (sI h 1 10 (nI k)) 1 5 = nI (tP t) := by rw [hI_sI, if_neg (by decide)]; exact r.2.1
    refine ⟨_, by rw [f_Reader_fail, r1, if_neg (fun q => q rfl), lt_e, lt_e, lt_e, v5], f, r.1.fr f, ?_, k1, k2, ?_, hI_sI_s _ _ _ _⟩
    · rw [hI_sI, if_neg (by decide), hI_sI, if_neg (by decide), hI_sI_s]
    · rw [hI_sI, if_neg (by decide), hI_sI_s]
/-- alive at a token, or at fault -/
def CT1 (b : Nat → Nat) (L : Nat) (h : AH) (x : Except (Nat × Nat) LT) : Prop := match x with
  | .ok t => XT b L h t
  | .error e => DT b L h e
def nxE (b : Nat → Nat) (L : Nat) (x : Except (Nat × Nat) LT) : Except (Nat × Nat) LT := match x with
  | .ok t => .ok (nxl b L t)
  | .error e => .error e
/-- a token that must come -/
def needR (b : Nat → Nat) (L k : Nat) (x : Except (Nat × Nat) LT) : Except (Nat × Nat) LT := match x with
  | .ok t => if tC t = k then .ok (nxl b L t) else .error (er 2 t)
  | .error e => .error e
/-- a number that must come -/
def numR (b : Nat → Nat) (L lo hi : Nat) (x : Except (Nat × Nat) LT) : Except (Nat × Nat) LT := match x with
  | .ok t => if tC t = 1 then (if tN t < lo ∨ hi < tN t then .error (4, tP t) else .ok (nxl b L t)) else .error (er 2 t)
  | .error e => .error e
def numV (lo hi : Nat) (x : Except (Nat × Nat) LT) : Nat := match x with
  | .ok t => if tC t = 1 ∧ lo ≤ tN t ∧ tN t ≤ hi then tN t else 0
  | .error _ => 0
theorem needC {b : Nat → Nat} {L k : Nat} {h : AH} {x : Except (Nat × Nat) LT} (c : CT1 b L h x) (hk : k < 300) (k3 : ¬ k = 3) : ∃ h1, f_Reader_need (nI k) h = some h1 ∧ FrN h h1 ∧ CT1 b L h1 (needR b L k x) := by
  cases x with
  | error e =>
    have c' : DT b L h e := c
    obtain ⟨h1, e1, f1, x1⟩ := c'.fail 2
    exact ⟨h1, by rw [f_Reader_need, c'.2.2.2.2.2, if_pos (show ¬ (3 : Int32) = nI k from fun z => k3 ((tk_eq (c := 3) (by omega) hk).mp z).symm), e1, bV_s], f1, x1⟩
  | ok t =>
    have r : XT b L h t := c
    obtain ⟨t1, t2⟩ := r.tok
    rw [f_Reader_need, t1]
    show ∃ h1, _ ∧ _ ∧ CT1 b L h1 (if tC t = k then .ok (nxl b L t) else .error (er 2 t))
    by_cases e : tC t = k
    · rw [if_neg (by rw [e]; exact fun z => z rfl), if_pos e]
      obtain ⟨h1, e1, f1, x1⟩ := r.next (by rw [e]; exact k3)
      exact ⟨h1, by rw [e1, bV_s], f1, x1⟩
    · rw [if_pos (fun z => e ((tk_eq t2 hk).mp z)), if_neg e]
      obtain ⟨h1, e1, f1, x1⟩ := r.fail (k := 2) (by omega) (by omega)
      exact ⟨h1, by rw [show (2 : Int32) = nI 2 from rfl, e1, bV_s], f1, x1⟩
theorem numC {b : Nat → Nat} {L lo hi : Nat} {h : AH} {x : Except (Nat × Nat) LT} (c : CT1 b L h x) (hl : lo < 100000) (hh : hi < 100000) : ∃ h1, f_Reader_needNumber (nI lo) (nI hi) h = some (nI (numV lo hi x), h1) ∧ FrN h h1 ∧ CT1 b L h1 (numR b L lo hi x) := by
  cases x with
  | error e =>
    have c' : DT b L h e := c
    obtain ⟨h1, e1, f1, x1⟩ := c'.fail 2
    exact ⟨h1, by rw [f_Reader_needNumber, c'.2.2.2.2.2, if_neg (by decide), e1, bV_s]; rfl, f1, x1⟩
  | ok t =>
    have r : XT b L h t := c
    obtain ⟨t1, t2⟩ := r.tok
    rw [f_Reader_needNumber, t1]
    show ∃ h1, _ = some (nI (if tC t = 1 ∧ lo ≤ tN t ∧ tN t ≤ hi then tN t else 0), h1) ∧ _ ∧ CT1 b L h1 (if tC t = 1 then (if tN t < lo ∨ hi < tN t then .error (4, tP t) else .ok (nxl b L t)) else .error (er 2 t))
    by_cases e : tC t = 1
    · have h3 : ¬ tC t = 3 := by omega
      have n6 := (r.1.2.2.2.2.2 h3).2.2.2.2.1 e
      have n9 := r.2.1.2.1 e
      have bad : (tN t < lo ∨ hi < tN t) → ∃ h1, f_Reader_needNumber_b30 (nI lo) (nI hi) h = some (nI (if tC t = 1 ∧ lo ≤ tN t ∧ tN t ≤ hi then tN t else 0), h1) ∧ FrN h h1 ∧ CT1 b L h1 (if tN t < lo ∨ hi < tN t then .error (4, tP t) else .ok (nxl b L t)) := fun hb => by
        obtain ⟨h1, e1, f1, x1⟩ := r.fail (k := 4) (by omega) (by omega)
        unfold er at x1
        rw [if_neg h3] at x1
        refine ⟨h1, ?_, f1, by rw [if_pos hb]; exact x1⟩
        rw [f_Reader_needNumber_b30, show (4 : Int32) = nI 4 from rfl, e1, bV_s, if_neg (by omega)]
        rfl
      rw [if_pos (show nI (tC t) = (1 : Int32) by rw [e]; rfl), lt_e, n6, if_pos e]
      by_cases a1 : tN t < lo
      · rw [if_pos (n_lt a1 (by omega))]
        exact bad (Or.inl a1)
      · rw [if_neg (n_nlt (by omega) (by omega))]
        by_cases a2 : hi < tN t
        · rw [if_neg (nI_ge a2 (by omega))]
          exact bad (Or.inr a2)
        · rw [if_pos (nI_le (by omega) (by omega))]
          obtain ⟨h1, e1, f1, x1⟩ := r.next h3
          exact ⟨h1, by rw [e1, bV_s, if_pos ⟨e, by omega, by omega⟩], f1, by rw [if_neg (by omega)]; exact x1⟩
    · rw [if_neg (show ¬ nI (tC t) = (1 : Int32) from fun z => e ((tk_eq (k := 1) t2 (by omega)).mp z)), if_neg e]
      obtain ⟨h1, e1, f1, x1⟩ := r.fail (k := 2) (by omega) (by omega)
      refine ⟨h1, ?_, f1, x1⟩
      rw [show (2 : Int32) = nI 2 from rfl, e1, bV_s, if_neg (fun z => e z.1)]
      rfl
/-- a word that may come -/
def takeR (b : Nat → Nat) (L k : Nat) (x : Except (Nat × Nat) LT) : Except (Nat × Nat) LT := match x with
  | .ok t => if tC t = k then .ok (nxl b L t) else .ok t
  | .error e => .error e
def takeB (k : Nat) (x : Except (Nat × Nat) LT) : Bool := match x with
  | .ok t => decide (tC t = k)
  | .error _ => false
theorem takeC {b : Nat → Nat} {L k : Nat} {h : AH} {x : Except (Nat × Nat) LT} (c : CT1 b L h x) (hk : k < 300) (k3 : ¬ k = 3) : ∃ h1, f_Reader_take (nI k) h = some (if takeB k x = true then 1 else 0, h1) ∧ FrN h h1 ∧ CT1 b L h1 (takeR b L k x) := by
  cases x with
  | error e =>
    have c' : DT b L h e := c
    exact ⟨h, by rw [f_Reader_take, c'.2.2.2.2.2, if_neg (show ¬ (3 : Int32) = nI k from fun z => k3 ((tk_eq (c := 3) (by omega) hk).mp z).symm)]; rfl, FrL.rf _ _ _ h, c⟩
  | ok t =>
    have r : XT b L h t := c
    obtain ⟨t1, t2⟩ := r.tok
    rw [f_Reader_take, t1]
    show ∃ h1, _ = some (if decide (tC t = k) = true then 1 else 0, h1) ∧ _ ∧ CT1 b L h1 (if tC t = k then .ok (nxl b L t) else .ok t)
    by_cases e : tC t = k
    · rw [if_pos (by rw [e]), if_pos e, if_pos (by rw [decide_eq_true_iff]; exact e)]
      obtain ⟨h1, e1, f1, x1⟩ := r.next (by rw [e]; exact k3)
      exact ⟨h1, by rw [e1, bV_s], f1, x1⟩
    · rw [if_neg (fun z => e ((tk_eq t2 hk).mp z)), if_neg e, if_neg (by rw [decide_eq_true_iff]; exact e)]
      exact ⟨h, rfl, FrL.rf _ _ _ h, r⟩
