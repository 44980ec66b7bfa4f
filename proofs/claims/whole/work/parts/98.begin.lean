/-! ===== the beginning ===== -/
def hIn : Option AH := lt (nC hE (.inr 11)) fun h1 => bV (f_H_init 0 h1) fun h2 => ge (hN h2) 383 <| lt (nC h2 (.inr 12)) fun h3 => bV (f_M_init 383 h3) fun h4 => gp (stdB NN h4) <| some h4
abbrev chC (h : AH) : Prop := hR h 0 1 = some 3 ∧ hR h 0 2 = some 20 ∧ (hI h 3 11 = 0 ∧ hI h 12 3 = 0 ∧ hI h 16 3 = 0 ∧ hI h 3 12 = 0 ∧ hI h 3 13 = 1 ∧ hI h 3 14 = 3) ∧ (hI h 37 6 = 0 ∧ hI h 37 7 = 0 ∧ hI h 37 8 = 0 ∧ hI h 37 9 = 0) ∧ (hI h 53 1 = 0 ∧ hI h 53 2 = 0) ∧ (∀ i, i < 41 → hR h 54 i = some (55 + 7 * i)) ∧ (hI h 1 9 = 0 ∧ hI h 1 10 = 0 ∧ hI h 1 11 = -1) ∧ (hI h 3 10 = 0 ∧ hI h 12 4 = 0 ∧ hI h 16 4 = 0) ∧ hI h 380 1 = 0 ∧ (hI h 366 7 = -1 ∧ hI h 366 10 = 0 ∧ hI h 366 11 = 0) ∧ ∀ b, b < 3 → hI h 344 b = 0 ∧ hR h 343 b = some (345 + 7 * b)
abbrev chM (h : AH) : Prop := (hI h 383 43 = 0 ∧ hI h 391 0 = 0 ∧ hI h 391 1 = 0 ∧ hI h 383 44 = 0 ∧ hI h 383 45 = 1 ∧ hI h 383 46 = 3) ∧ (∀ k, k < 35 → hI h 405 k = 0) ∧ (hI h 383 53 = 0 ∧ hI h 383 54 = 0) ∧ (hI h 383 68 = 0 ∧ hI h 383 69 = 0) ∧ (∀ b, b < 3 → hI h 419 b = 0) ∧ hI h 383 1 = 0 ∧ (hI h 383 2 = 0 ∧ hI h 383 3 = -1) ∧ (hI h 383 42 = 0 ∧ hI h 383 23 = 0) ∧ hI h 383 57 = 0
theorem hIn_chk : (hIn.map fun h => decide (chC h) && decide (chM h)) = some true := by decide +kernel
theorem hIn_ok : ∃ h, hIn = some h ∧ chC h ∧ chM h := by
  have e := hIn_chk
  cases q : hIn with
  | none => rw [q] at e; cases e
  | some h =>
    rw [q] at e
    injection e with e
    rw [Bool.and_eq_true, decide_eq_true_iff, decide_eq_true_iff] at e
    exact ⟨h, rfl, e⟩
