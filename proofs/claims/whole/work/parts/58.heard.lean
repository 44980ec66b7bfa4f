/-! ===== heard, untell, later ===== -/
def heardP (E : ET) (a b : Int32) : Prop := (0 ≤ a ∧ a ≤ 40) ∧ (0 ≤ b ∧ b ≤ 99) ∧ eN E < 30
def heardE (E : ET) (a b d : Int32) : ET := (eN E + 1, upd (eHt E) (eN E) a, upd (eCh E) (eN E) b, upd (eHd E) (eN E) d, upd (eTl E) (eN E) (eTm E), upd (eUn E) (eN E) (-1), eTm E)
theorem heardE_w {E : ET} (w : EW E) {a b d : Int32} (p : heardP E a b) (hd : d = 0 ∨ d = 1) : EW (heardE E a b d) := by
  obtain ⟨w1, w2, w3⟩ := w
  refine ⟨by show eN E + 1 ≤ 30; have := p.2.2; omega, fun j hj => ?_, w3⟩
  have hj' : j < eN E + 1 := hj
  show (∃ g, g ≤ 40 ∧ upd (eHt E) (eN E) a j = nI g) ∧ (upd (eHd E) (eN E) d j = 0 ∨ upd (eHd E) (eN E) d j = 1) ∧ (upd (eUn E) (eN E) (-1) j = -1 ∨ 0 ≤ upd (eUn E) (eN E) (-1) j)
  rw [upd_a, upd_a, upd_a]
  by_cases e : j = eN E
  · rw [if_pos e, if_pos e, if_pos e]
    obtain ⟨g, hg, eg⟩ := inR_ix (n := 40) (by omega) p.1
    exact ⟨⟨g, hg, eg⟩, hd, Or.inl rfl⟩
  · rw [if_neg e, if_neg e, if_neg e]
    exact w2 j (by omega)
theorem upd_s1 {f : Nat → Int32} {h : AH} {c n : Nat} (a : ∀ j, j < n → hI h c j = f j) (v : Int32) : ∀ j, j < n + 1 → hI (sI h c n v) c j = upd f n v j := fun j hj => by
  rw [hI_sI, upd_a]
  by_cases e : j = n
  · rw [if_pos ⟨rfl, e⟩, if_pos e]
  · rw [if_neg (fun q => e q.2), if_neg e]; exact a j (by omega)
def heardS (E : ET) (a b : Int32) : Int32 := if (0 ≤ a ∧ a ≤ 40) ∧ (0 ≤ b ∧ b ≤ 99) ∧ eN E < 30 then nI (eN E) else -1
theorem H_heard_ok {E : ET} {h : AH} (w : EW E) (m : EH h E) (a b d : Int32) (hd : vp_nar .boolean d = d) : ∃ h1, f_H_heard a b d h = some (heardS E a b, h1) ∧ Fr [367, 368, 369, 370, 371] [(366, 10)] h h1 ∧ (heardP E a b → EH h1 (heardE E a b d)) ∧ (¬ heardP E a b → EH h1 E) := by
  have w1 := w.1
  obtain ⟨m1, m2, m3⟩ := m
  rw [f_H_heard, within_e, bI_s]
  unfold heardS heardP
  have no : ∀ q : ¬ ((0 ≤ a ∧ a ≤ 40) ∧ (0 ≤ b ∧ b ≤ 99) ∧ eN E < 30), ∃ h1, some ((-1 : Int32), h) = some (if (0 ≤ a ∧ a ≤ 40) ∧ (0 ≤ b ∧ b ≤ 99) ∧ eN E < 30 then nI (eN E) else -1, h1) ∧ Fr [367, 368, 369, 370, 371] [(366, 10)] h h1 ∧ ((0 ≤ a ∧ a ≤ 40) ∧ (0 ≤ b ∧ b ≤ 99) ∧ eN E < 30 → EH h1 (heardE E a b d)) ∧ (¬ ((0 ≤ a ∧ a ≤ 40) ∧ (0 ≤ b ∧ b ≤ 99) ∧ eN E < 30) → EH h1 E) := fun q => ⟨h, by rw [if_neg q], Fr.rf _ _ _, fun z => absurd z q, fun _ => ⟨m1, m2, m3⟩⟩
  by_cases ha : 0 ≤ a ∧ a ≤ 40
  · rw [if_pos ha, if_neg (by decide), within_e, bI_s]
    by_cases hb : 0 ≤ b ∧ b ≤ 99
    · rw [if_pos hb, if_pos (by decide), f_Ears_tell, m1]
      by_cases hn : eN E < 30
      · have g : ∀ K : Option (Int32 × AH), gx (nI (eN E)) 30 K = K := fun K => gx_n K hn (by omega)
        rw [if_pos (show nI (eN E) < 30 from n_lt (b := 30) hn (by omega)), g, lt_e, hI_sI_c _ _ _ _ 366 (by decide), m1, g, lt_e, hI_sI_c _ _ _ _ 366 (by decide), hI_sI_c _ _ _ _ 366 (by decide), m1, g, lt_e, hI_sI_c _ _ _ _ 366 (by decide), hI_sI_c _ _ _ _ 366 (by decide), hI_sI_c _ _ _ _ 366 (by decide), m1, m2, g, lt_e, hI_sI_c _ _ _ _ 366 (by decide), hI_sI_c _ _ _ _ 366 (by decide), hI_sI_c _ _ _ _ 366 (by decide), hI_sI_c _ _ _ _ 366 (by decide), m1, g, lt_e, hI_sI_c _ _ _ _ 366 (by decide), hI_sI_c _ _ _ _ 366 (by decide), hI_sI_c _ _ _ _ 366 (by decide), hI_sI_c _ _ _ _ 366 (by decide), hI_sI_c _ _ _ _ 366 (by decide), m1, lt_e, hI_sI_s, bI_s, nI_1, ix_n (show eN E < 2 ^ 31 by omega), if_pos ⟨ha, hb, hn⟩, nI_s1, hd]
        have c1 := fun j hj => (m3 j hj).1
        have c2 := fun j hj => (m3 j hj).2.1
        have c3 := fun j hj => (m3 j hj).2.2.1
        have c4 := fun j hj => (m3 j hj).2.2.2.1
        have c5 := fun j hj => (m3 j hj).2.2.2.2
        refine ⟨_, rfl, ((((((Fr.rf _ _ _).s (by simp) _ _).s (by simp) _ _).s (by simp) _ _).s (by simp) _ _).s (by simp) _ _).p (by simp) _, fun _ => ⟨hI_sI_s _ _ _ _, ?_, fun j hj => ?_⟩, fun q => absurd ⟨ha, hb, hn⟩ q⟩
        · rw [hI_sI, if_neg (by decide), hI_sI_c _ _ _ _ 366 (by decide), hI_sI_c _ _ _ _ 366 (by decide), hI_sI_c _ _ _ _ 366 (by decide), hI_sI_c _ _ _ _ 366 (by decide), hI_sI_c _ _ _ _ 366 (by decide)]
          exact m2
        · refine ⟨?_, ?_, ?_, ?_, ?_⟩
          · rw [hI_sI_c _ _ _ _ _ (by decide), hI_sI_c _ _ _ _ _ (by decide), hI_sI_c _ _ _ _ _ (by decide), hI_sI_c _ _ _ _ _ (by decide), hI_sI_c _ _ _ _ _ (by decide)]
            exact upd_s1 c1 a j hj
          · rw [hI_sI_c _ _ _ _ _ (by decide), hI_sI_c _ _ _ _ _ (by decide), hI_sI_c _ _ _ _ _ (by decide), hI_sI_c _ _ _ _ _ (by decide)]
            exact upd_s1 (fun j hj => by rw [hI_sI_c _ _ _ _ _ (by decide)]; exact c2 j hj) b j hj
          · rw [hI_sI_c _ _ _ _ _ (by decide), hI_sI_c _ _ _ _ _ (by decide), hI_sI_c _ _ _ _ _ (by decide)]
            exact upd_s1 (fun j hj => by rw [hI_sI_c _ _ _ _ _ (by decide), hI_sI_c _ _ _ _ _ (by decide)]; exact c3 j hj) d j hj
          · rw [hI_sI_c _ _ _ _ _ (by decide), hI_sI_c _ _ _ _ _ (by decide)]
            exact upd_s1 (fun j hj => by rw [hI_sI_c _ _ _ _ _ (by decide), hI_sI_c _ _ _ _ _ (by decide), hI_sI_c _ _ _ _ _ (by decide)]; exact c4 j hj) (eTm E) j hj
          · rw [hI_sI_c _ _ _ _ _ (by decide)]
            exact upd_s1 (fun j hj => by rw [hI_sI_c _ _ _ _ _ (by decide), hI_sI_c _ _ _ _ _ (by decide), hI_sI_c _ _ _ _ _ (by decide), hI_sI_c _ _ _ _ _ (by decide)]; exact c5 j hj) (-1) j hj
      · rw [if_neg (show ¬ nI (eN E) < 30 from n_nlt (b := 30) (by omega) (by omega)), bI_s]
        exact no (fun q => hn q.2.2)
    · rw [if_neg hb, if_neg (by decide)]
      exact no (fun q => hb q.2.1)
  · rw [if_neg ha, if_pos rfl]
    exact no (fun q => ha q.1)
theorem M_heard_ok {E : ET} {h : AH} (w : EW E) (m : EM h E) (a b d : Int32) (hd : vp_nar .boolean d = d) : ∃ h1, f_M_heard a b d h = some (heardS E a b, h1) ∧ Fr [413, 414, 415, 416, 417] [(383, 68)] h h1 ∧ (heardP E a b → EM h1 (heardE E a b d)) ∧ (¬ heardP E a b → EM h1 E) := by
  have w1 := w.1
  obtain ⟨m1, m2, m3⟩ := m
  rw [f_M_heard, isIn_e, bI_s]
  unfold heardS heardP
  have no : ∀ q : ¬ ((0 ≤ a ∧ a ≤ 40) ∧ (0 ≤ b ∧ b ≤ 99) ∧ eN E < 30), ∃ h1, some ((-1 : Int32), h) = some (if (0 ≤ a ∧ a ≤ 40) ∧ (0 ≤ b ∧ b ≤ 99) ∧ eN E < 30 then nI (eN E) else -1, h1) ∧ Fr [413, 414, 415, 416, 417] [(383, 68)] h h1 ∧ ((0 ≤ a ∧ a ≤ 40) ∧ (0 ≤ b ∧ b ≤ 99) ∧ eN E < 30 → EM h1 (heardE E a b d)) ∧ (¬ ((0 ≤ a ∧ a ≤ 40) ∧ (0 ≤ b ∧ b ≤ 99) ∧ eN E < 30) → EM h1 E) := fun q => ⟨h, by rw [if_neg q], Fr.rf _ _ _, fun z => absurd z q, fun _ => ⟨m1, m2, m3⟩⟩
  by_cases ha : 0 ≤ a ∧ a ≤ 40
  · rw [if_pos ha, if_neg (by decide), isIn_e, bI_s]
    by_cases hb : 0 ≤ b ∧ b ≤ 99
    · rw [if_pos hb, if_neg (by decide), m1]
      by_cases hn : eN E < 30
      · have g : ∀ K : Option (Int32 × AH), gx (nI (eN E)) 30 K = K := fun K => gx_n K hn (by omega)
        rw [if_pos (fun q => by have := (n_eqv (b := 30) (by omega) (by omega)).mp q; omega), g, lt_e, hI_sI_c _ _ _ _ 383 (by decide), m1, g, lt_e, hI_sI_c _ _ _ _ 383 (by decide), hI_sI_c _ _ _ _ 383 (by decide), m1, g, lt_e, hI_sI_c _ _ _ _ 383 (by decide), hI_sI_c _ _ _ _ 383 (by decide), hI_sI_c _ _ _ _ 383 (by decide), m1, m2, g, lt_e, hI_sI_c _ _ _ _ 383 (by decide), hI_sI_c _ _ _ _ 383 (by decide), hI_sI_c _ _ _ _ 383 (by decide), hI_sI_c _ _ _ _ 383 (by decide), m1, g, lt_e, hI_sI_c _ _ _ _ 383 (by decide), hI_sI_c _ _ _ _ 383 (by decide), hI_sI_c _ _ _ _ 383 (by decide), hI_sI_c _ _ _ _ 383 (by decide), hI_sI_c _ _ _ _ 383 (by decide), m1, lt_e, hI_sI_s, nI_1, ix_n (show eN E < 2 ^ 31 by omega), if_pos ⟨ha, hb, hn⟩, nI_s1, hd]
        have c1 := fun j hj => (m3 j hj).1
        have c2 := fun j hj => (m3 j hj).2.1
        have c3 := fun j hj => (m3 j hj).2.2.1
        have c4 := fun j hj => (m3 j hj).2.2.2.1
        have c5 := fun j hj => (m3 j hj).2.2.2.2
        refine ⟨_, rfl, ((((((Fr.rf _ _ _).s (by simp) _ _).s (by simp) _ _).s (by simp) _ _).s (by simp) _ _).s (by simp) _ _).p (by simp) _, fun _ => ⟨hI_sI_s _ _ _ _, ?_, fun j hj => ?_⟩, fun q => absurd ⟨ha, hb, hn⟩ q⟩
        · rw [hI_sI, if_neg (by decide), hI_sI_c _ _ _ _ 383 (by decide), hI_sI_c _ _ _ _ 383 (by decide), hI_sI_c _ _ _ _ 383 (by decide), hI_sI_c _ _ _ _ 383 (by decide), hI_sI_c _ _ _ _ 383 (by decide)]
          exact m2
        · refine ⟨?_, ?_, ?_, ?_, ?_⟩
          · rw [hI_sI_c _ _ _ _ _ (by decide), hI_sI_c _ _ _ _ _ (by decide), hI_sI_c _ _ _ _ _ (by decide), hI_sI_c _ _ _ _ _ (by decide), hI_sI_c _ _ _ _ _ (by decide)]
            exact upd_s1 c1 a j hj
          · rw [hI_sI_c _ _ _ _ _ (by decide), hI_sI_c _ _ _ _ _ (by decide), hI_sI_c _ _ _ _ _ (by decide), hI_sI_c _ _ _ _ _ (by decide)]
            exact upd_s1 (fun j hj => by rw [hI_sI_c _ _ _ _ _ (by decide)]; exact c2 j hj) b j hj
          · rw [hI_sI_c _ _ _ _ _ (by decide), hI_sI_c _ _ _ _ _ (by decide), hI_sI_c _ _ _ _ _ (by decide)]
            exact upd_s1 (fun j hj => by rw [hI_sI_c _ _ _ _ _ (by decide), hI_sI_c _ _ _ _ _ (by decide)]; exact c3 j hj) d j hj
          · rw [hI_sI_c _ _ _ _ _ (by decide), hI_sI_c _ _ _ _ _ (by decide)]
            exact upd_s1 (fun j hj => by rw [hI_sI_c _ _ _ _ _ (by decide), hI_sI_c _ _ _ _ _ (by decide), hI_sI_c _ _ _ _ _ (by decide)]; exact c4 j hj) (eTm E) j hj
          · rw [hI_sI_c _ _ _ _ _ (by decide)]
            exact upd_s1 (fun j hj => by rw [hI_sI_c _ _ _ _ _ (by decide), hI_sI_c _ _ _ _ _ (by decide), hI_sI_c _ _ _ _ _ (by decide), hI_sI_c _ _ _ _ _ (by decide)]; exact c5 j hj) (-1) j hj
      · have e30 : eN E = 30 := by omega
        rw [if_neg (show ¬ ¬ nI (eN E) = 30 from fun q => q (by rw [e30]; rfl))]
        exact no (fun q => hn q.2.2)
    · rw [if_neg hb, if_pos rfl]
      exact no (fun q => hb q.2.1)
  · rw [if_neg ha, if_pos rfl]
    exact no (fun q => ha q.1)
/-! untell -/
def untE (E : ET) (i : Nat) : ET := (eN E, eHt E, eCh E, eHd E, eTl E, upd (eUn E) i (eTm E), eTm E)
def unP (E : ET) (a : Int32) : Prop := (0 ≤ a ∧ a < nI (eN E)) ∧ eUn E (ix a) = -1
theorem untE_w {E : ET} (w : EW E) (i : Nat) : EW (untE E i) := by
  obtain ⟨w1, w2, w3⟩ := w
  refine ⟨w1, fun j hj => ?_, w3⟩
  obtain ⟨a, b, c⟩ := w2 j hj
  refine ⟨a, b, ?_⟩
  show upd (eUn E) i (eTm E) j = -1 ∨ 0 ≤ upd (eUn E) i (eTm E) j
  rw [upd_a]
  split
  · exact Or.inr (i_le.mpr w3.1)
  · exact c
theorem H_untell_ok {E : ET} {h : AH} (w : EW E) (m : EH h E) (a : Int32) : ∃ h1 r, f_H_untell a h = some (r, h1) ∧ Fr [371] [] h h1 ∧ ((unP E a ∧ r = 1 ∧ EH h1 (untE E (ix a))) ∨ (¬ unP E a ∧ r = 0 ∧ EH h1 E)) := by
  have w1 := w.1
  have mm := m
  obtain ⟨m1, m2, m3⟩ := m
  rw [f_H_untell, f_Ears_takeBack, m1]
  have no : ∀ q : ¬ unP E a, ∃ h1 r, (bI (some ((0 : Int32), h)) fun rq1 hq2 => gb rq1 <| some (rq1, hq2)) = some (r, h1) ∧ Fr [371] [] h h1 ∧ ((unP E a ∧ r = 1 ∧ EH h1 (untE E (ix a))) ∨ (¬ unP E a ∧ r = 0 ∧ EH h1 E)) := fun q => ⟨h, 0, by rw [bI_s, gb_0], Fr.rf _ _ _, Or.inr ⟨q, rfl, mm⟩⟩
  by_cases h0 : a < 0
  · rw [if_pos h0]
    exact no (fun q => Int32.not_le.mpr h0 q.1.1)
  · rw [if_neg h0]
    by_cases h1 : nI (eN E) ≤ a
    · rw [if_pos h1]
      exact no (fun q => Int32.not_lt.mpr h1 q.1.2)
    · rw [if_neg h1]
      rcases i_pl a (show eN E < 2 ^ 31 by omega) with q | q | ⟨j, hj, rfl⟩
      · exact absurd q h0
      · exact absurd q h1
      · rw [gx_n _ (show j < 30 by omega) (by omega), gx_n _ (show j < 30 by omega) (by omega), ix_n (show j < 2 ^ 31 by omega), (m3 j hj).2.2.2.2]
        by_cases hu : eUn E j = -1
        · rw [if_pos hu, lt_e, bI_s, gb_1, m2]
          refine ⟨_, 1, rfl, (Fr.rf _ _ _).s (by simp) _ _, Or.inl ⟨⟨⟨Int32.not_lt.mp h0, Int32.not_le.mp h1⟩, by rw [ix_n (show j < 2 ^ 31 by omega)]; exact hu⟩, rfl, by rw [hI_sI_c _ _ _ _ _ (by decide)]; exact m1, by rw [hI_sI_c _ _ _ _ _ (by decide)]; exact m2, fun i hi => ?_⟩⟩
          rw [hI_sI_c _ _ _ _ 367 (by decide), hI_sI_c _ _ _ _ 368 (by decide), hI_sI_c _ _ _ _ 369 (by decide), hI_sI_c _ _ _ _ 370 (by decide), hI_sI]
          obtain ⟨a1, a2, a3, a4, a5⟩ := m3 i hi
          refine ⟨a1, a2, a3, a4, ?_⟩
          show _ = upd (eUn E) j (eTm E) i
          rw [upd_a]
          by_cases e : i = j
          · rw [if_pos ⟨rfl, e⟩, if_pos e]
          · rw [if_neg (fun q => e q.2), if_neg e]; exact a5
        · rw [if_neg hu]
          have z := no (fun q => hu (by have := q.2; rw [ix_n (show j < 2 ^ 31 by omega)] at this; exact this))
          rw [ix_n (show j < 2 ^ 31 by omega)] at z
          exact z
theorem M_untell_ok {E : ET} {h : AH} (w : EW E) (m : EM h E) (a : Int32) : ∃ h1 r, f_M_untell a h = some (r, h1) ∧ Fr [416] [] h h1 ∧ ((unP E a ∧ r = 1 ∧ EM h1 (untE E (ix a))) ∨ (¬ unP E a ∧ r = 0 ∧ EM h1 E)) := by
  have w1 := w.1
  have mm := m
  obtain ⟨m1, m2, m3⟩ := m
  have en : (nI (eN E)).toInt = eN E := nI_toInt (by omega)
  have e1 : (1 : Int32).toInt = 1 := by decide
  have em : (nI (eN E) - 1).toInt = (eN E : Int) - 1 := by rw [i_sub (by omega) (by omega)]; omega
  have ei : (0 ≤ a ∧ a ≤ nI (eN E) - 1) ↔ (0 ≤ a ∧ a < nI (eN E)) := by rw [i_le, i_le, i_lt, em, en]; omega
  rw [f_M_untell, m1, isIn_e, bI_s]
  have no : ∀ q : ¬ unP E a, ∃ h1 r, some ((0 : Int32), h) = some (r, h1) ∧ Fr [416] [] h h1 ∧ ((unP E a ∧ r = 1 ∧ EM h1 (untE E (ix a))) ∨ (¬ unP E a ∧ r = 0 ∧ EM h1 E)) := fun q => ⟨h, 0, rfl, Fr.rf _ _ _, Or.inr ⟨q, rfl, mm⟩⟩
  by_cases h0 : 0 ≤ a ∧ a < nI (eN E)
  · rw [if_pos (ei.mpr h0), if_neg (by decide)]
    rcases i_pl a (show eN E < 2 ^ 31 by omega) with q | q | ⟨j, hj, rfl⟩
    · exact absurd h0.1 (Int32.not_le.mpr q)
    · exact absurd h0.2 (Int32.not_lt.mpr q)
    · rw [gx_n _ (show j < 30 by omega) (by omega), gx_n _ (show j < 30 by omega) (by omega), ix_n (show j < 2 ^ 31 by omega), (m3 j hj).2.2.2.2]
      by_cases hu : eUn E j = -1
      · rw [hu, if_pos (by decide), lt_e, m2]
        refine ⟨_, 1, rfl, (Fr.rf _ _ _).s (by simp) _ _, Or.inl ⟨⟨h0, by rw [ix_n (show j < 2 ^ 31 by omega)]; exact hu⟩, rfl, by rw [hI_sI_c _ _ _ _ _ (by decide)]; exact m1, by rw [hI_sI_c _ _ _ _ _ (by decide)]; exact m2, fun i hi => ?_⟩⟩
        rw [hI_sI_c _ _ _ _ 413 (by decide), hI_sI_c _ _ _ _ 414 (by decide), hI_sI_c _ _ _ _ 417 (by decide), hI_sI_c _ _ _ _ 415 (by decide), hI_sI]
        obtain ⟨a1, a2, a3, a4, a5⟩ := m3 i hi
        refine ⟨a1, a2, a3, a4, ?_⟩
        show _ = upd (eUn E) j (eTm E) i
        rw [upd_a]
        by_cases e : i = j
        · rw [if_pos ⟨rfl, e⟩, if_pos e]
        · rw [if_neg (fun q => e q.2), if_neg e]; exact a5
      · have := (w.2.1 j hj).2.2.resolve_left hu
        rw [if_neg (Int32.not_lt.mpr this)]
        have z := no (fun q => hu (by have := q.2; rw [ix_n (show j < 2 ^ 31 by omega)] at this; exact this))
        rw [ix_n (show j < 2 ^ 31 by omega)] at z
        exact z
  · rw [if_neg (fun q => h0 (ei.mp q)), if_pos rfl]
    exact no (fun q => h0 q.1)
/-! later -/
def latP (E : ET) (a : Int32) : Prop := (0 ≤ a ∧ a ≤ 1000) ∧ eTm E + a ≤ 100000
def latE (E : ET) (a : Int32) : ET := (eN E, eHt E, eCh E, eHd E, eTl E, eUn E, eTm E + a)
theorem latE_w {E : ET} (w : EW E) {a : Int32} (p : latP E a) : EW (latE E a) := by
  obtain ⟨w1, w2, w3⟩ := w
  have h0 := i_le.mp p.1.1
  have h1 := i_le.mp p.1.2
  have h2 := i_le.mp p.2
  have e0 : (0 : Int32).toInt = 0 := by decide
  have e1 : (1000 : Int32).toInt = 1000 := by decide
  have e2 : (100000 : Int32).toInt = 100000 := by decide
  refine ⟨w1, w2, ?_⟩
  show 0 ≤ (eTm E + a).toInt ∧ (eTm E + a).toInt ≤ 100000
  have ea : (eTm E + a).toInt = (eTm E).toInt + a.toInt := i_add (by omega) (by omega)
  omega
theorem H_later_ok {E : ET} {h : AH} (m : EH h E) (a : Int32) : ∃ h1 r, f_H_later a h = some (r, h1) ∧ Fr [] [(366, 11)] h h1 ∧ ((latP E a ∧ r = eTm E + a ∧ EH h1 (latE E a)) ∨ (¬ latP E a ∧ r = -1 ∧ EH h1 E)) := by
  have mm := m
  obtain ⟨m1, m2, m3⟩ := m
  rw [f_H_later, within_e, bI_s, m2]
  by_cases h0 : 0 ≤ a ∧ a ≤ 1000
  · rw [if_pos h0, if_neg (by decide)]
    by_cases h1 : eTm E + a ≤ 100000
    · rw [if_pos h1, lt_e, hI_sI_s]
      refine ⟨_, _, rfl, (Fr.rf _ _ _).p (by simp) _, Or.inl ⟨⟨h0, h1⟩, rfl, by rw [hI_sI, if_neg (by decide)]; exact m1, by rw [hI_sI_s]; rfl, fun j hj => ?_⟩⟩
      rw [hI_sI_c _ _ _ _ 367 (by decide), hI_sI_c _ _ _ _ 368 (by decide), hI_sI_c _ _ _ _ 369 (by decide), hI_sI_c _ _ _ _ 370 (by decide), hI_sI_c _ _ _ _ 371 (by decide)]
      exact m3 j hj
    · rw [if_neg h1]
      exact ⟨h, _, rfl, Fr.rf _ _ _, Or.inr ⟨fun q => h1 q.2, rfl, mm⟩⟩
  · rw [if_neg h0, if_pos rfl]
    exact ⟨h, _, rfl, Fr.rf _ _ _, Or.inr ⟨fun q => h0 q.1, rfl, mm⟩⟩
theorem M_later_ok {E : ET} {h : AH} (m : EM h E) (a : Int32) : ∃ h1 r, f_M_later a h = some (r, h1) ∧ Fr [] [(383, 69)] h h1 ∧ ((latP E a ∧ r = eTm E + a ∧ EM h1 (latE E a)) ∨ (¬ latP E a ∧ r = -1 ∧ EM h1 E)) := by
  have mm := m
  obtain ⟨m1, m2, m3⟩ := m
  rw [f_M_later, m2]
  by_cases h0 : a < 0
  · rw [if_pos h0]
    exact ⟨h, _, rfl, Fr.rf _ _ _, Or.inr ⟨fun q => Int32.not_le.mpr h0 q.1.1, rfl, mm⟩⟩
  · rw [if_neg h0]
    by_cases h2 : 1000 < a
    · rw [if_pos h2]
      exact ⟨h, _, rfl, Fr.rf _ _ _, Or.inr ⟨fun q => Int32.not_le.mpr h2 q.1.2, rfl, mm⟩⟩
    · rw [if_neg h2]
      by_cases h1 : eTm E + a ≤ 100000
      · rw [if_pos h1, lt_e, hI_sI_s]
        refine ⟨_, _, rfl, (Fr.rf _ _ _).p (by simp) _, Or.inl ⟨⟨⟨Int32.not_lt.mp h0, Int32.not_lt.mp h2⟩, h1⟩, rfl, by rw [hI_sI, if_neg (by decide)]; exact m1, by rw [hI_sI_s]; rfl, fun j hj => ?_⟩⟩
        rw [hI_sI_c _ _ _ _ 413 (by decide), hI_sI_c _ _ _ _ 414 (by decide), hI_sI_c _ _ _ _ 417 (by decide), hI_sI_c _ _ _ _ 415 (by decide), hI_sI_c _ _ _ _ 416 (by decide)]
        exact m3 j hj
      · rw [if_neg h1]
        exact ⟨h, _, rfl, Fr.rf _ _ _, Or.inr ⟨fun q => h1 q.2, rfl, mm⟩⟩
