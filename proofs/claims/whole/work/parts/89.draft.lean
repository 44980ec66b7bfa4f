/-! ===== a draft, and a line over it ===== -/
abbrev DR : Type := (List (List Nat)) × (List (List Nat)) × (Nat → Nat → Nat) × (Nat × List (Nat × Nat)) × (Nat × List (Nat × Nat)) × Nat × Nat × Nat × Nat × Nat
abbrev DR.kn (D : DR) : List (List Nat) := D.1
abbrev DR.dn (D : DR) : List (List Nat) := D.2.1
abbrev DR.dv (D : DR) : Nat → Nat → Nat := D.2.2.1
abbrev DR.ch (D : DR) : Nat × List (Nat × Nat) := D.2.2.2.1
abbrev DR.he (D : DR) : Nat × List (Nat × Nat) := D.2.2.2.2.1
abbrev DR.n1 (D : DR) : Nat := D.2.2.2.2.2.1
abbrev DR.n2 (D : DR) : Nat := D.2.2.2.2.2.2.1
abbrev DR.n3 (D : DR) : Nat := D.2.2.2.2.2.2.2.1
abbrev DR.n4 (D : DR) : Nat := D.2.2.2.2.2.2.2.2.1
abbrev DR.se (D : DR) : Nat := D.2.2.2.2.2.2.2.2.2
def thD (x : Except (Nat × Nat) LT) (D : DR) : Except (Nat × Nat) (LT × DR) := match x with
  | .ok t => .ok (t, D)
  | .error e => .error e
def fmR (b : Nat → Nat) (L : Nat) (t : LT) (g : Nat × List (Nat × Nat) → DR) : Except (Nat × Nat) (LT × DR) := match eiR (nxl b L) 10 0 (t, 0, []) with
  | .ok s => thD (needR b L 59 (.ok s.1)) (g s.2)
  | .error e => .error e
def dvN (b : Nat → Nat) (L : Nat) (D : DR) (t : LT) : Nat → Nat → Nat := fun k j => if k = D.dn.length then (if j = 0 then kindV D.kn (dl1 b L D.dn t) else if j = 1 then numV 0 9 (dl2 b L D.kn D.dn t) else if j = 2 then optV b L 260 99 (dl3 b L D.kn D.dn t) else if j = 3 then optV b L 261 9999 (dl4 b L D.kn D.dn t) else if j = 4 then optV b L 262 99 (dl5 b L D.kn D.dn t) else optV b L 263 9 (dl6 b L D.kn D.dn t)) else D.dv k j
def lineR (b : Nat → Nat) (L : Nat) (D : DR) (t : LT) : Except (Nat × Nat) (LT × DR) :=
  if tC t = 256 ∧ D.kn.length < 3 then thD (needR b L 59 (newR b L D.kn (nxl b L t))) ((D.kn ++ [tW (nxl b L t)]), D.dn, D.dv, D.ch, D.he, D.n1, D.n2, D.n3, D.n4, D.se)
  else if tC t = 257 ∧ D.dn.length < 6 then thD (needR b L 59 (dl7 b L D.kn D.dn (nxl b L t))) (D.kn, (D.dn ++ [tW (nxl b L t)]), (dvN b L D (nxl b L t)), D.ch, D.he, D.n1, D.n2, D.n3, D.n4, D.se)
  else if tC t = 264 ∧ D.se.testBit 0 = false then fmR b L (nxl b L t) (fun f => (D.kn, D.dn, D.dv, f, D.he, D.n1, D.n2, D.n3, D.n4, (D.se ||| 1)))
  else if tC t = 265 ∧ D.se.testBit 1 = false then fmR b L (nxl b L t) (fun f => (D.kn, D.dn, D.dv, D.ch, f, D.n1, D.n2, D.n3, D.n4, (D.se ||| 2)))
  else if tC t = 266 ∧ D.se.testBit 2 = false then thD (needR b L 59 (snapR b L (.ok (nxl b L t)))) (D.kn, D.dn, D.dv, D.ch, D.he, (numV 0 100 (.ok (nxl b L t))), (numV 1 20 (needR b L 258 (numR b L 0 100 (.ok (nxl b L t))))), D.n3, D.n4, (D.se ||| 4))
  else if tC t = 267 ∧ D.se.testBit 3 = false then thD (needR b L 59 (numR b L 1 9 (.ok (nxl b L t)))) (D.kn, D.dn, D.dv, D.ch, D.he, D.n1, D.n2, (numV 1 9 (.ok (nxl b L t))), D.n4, (D.se ||| 8))
  else if tC t = 268 ∧ D.se.testBit 4 = false then thD (needR b L 59 (numR b L 0 999 (.ok (nxl b L t)))) (D.kn, D.dn, D.dv, D.ch, D.he, D.n1, D.n2, D.n3, (numV 0 999 (.ok (nxl b L t))), (D.se ||| 16))
  else .error (er 2 t)
/-! a draft that may be told -/
def DG (D : DR) : Prop := D.kn.length ≤ 3 ∧ D.dn.length ≤ 6 ∧ D.se < 32 ∧ (D.se.testBit 0 = false → D.ch = (0, [])) ∧ (D.se.testBit 1 = false → D.he = (0, [])) ∧ (D.ch.1 ≤ 30 ∧ WFc (lcT D.ch.2)) ∧ (D.he.1 ≤ 30 ∧ WFc (lcT D.he.2)) ∧ (∀ k, k < D.dn.length → D.dv k 0 < 3 ∧ D.dv k 1 ≤ 9 ∧ D.dv k 2 ≤ 99 ∧ D.dv k 3 ≤ 9999 ∧ D.dv k 4 ≤ 99 ∧ D.dv k 5 ≤ 9) ∧ D.n1 ≤ 100 ∧ (1 ≤ D.n2 ∧ D.n2 ≤ 20) ∧ (1 ≤ D.n3 ∧ D.n3 ≤ 9) ∧ D.n4 ≤ 999
theorem kindV_b {kn : List (List Nat)} (h : kn.length ≤ 3) (x : Except (Nat × Nat) LT) : kindV kn x < 3 := by
  cases x with
  | error e => show 0 < 3; omega
  | ok t =>
    show (if tC t = 2 ∧ nix (tW t) kn < kn.length then nix (tW t) kn else 0) < 3
    by_cases c : tC t = 2 ∧ nix (tW t) kn < kn.length
    · rw [if_pos c]; omega
    · rw [if_neg c]; omega
theorem numV_b (hi : Nat) (x : Except (Nat × Nat) LT) : ∀ lo, numV lo hi x ≤ hi := by
  intro lo
  cases x with
  | error e => exact Nat.zero_le _
  | ok t =>
    show (if tC t = 1 ∧ lo ≤ tN t ∧ tN t ≤ hi then tN t else 0) ≤ hi
    by_cases c : tC t = 1 ∧ lo ≤ tN t ∧ tN t ≤ hi
    · rw [if_pos c]; exact c.2.2
    · rw [if_neg c]; exact Nat.zero_le _
theorem numV_lo {b : Nat → Nat} {L lo hi : Nat} {x : Except (Nat × Nat) LT} (h : ∃ t', numR b L lo hi x = .ok t') : lo ≤ numV lo hi x := by
  cases x with
  | error e => obtain ⟨t', z⟩ := h; cases z
  | ok t =>
    obtain ⟨t', z⟩ := h
    have z' : (if tC t = 1 then (if tN t < lo ∨ hi < tN t then .error (4, tP t) else .ok (nxl b L t)) else .error (er 2 t) : Except (Nat × Nat) LT) = .ok t' := z
    show lo ≤ (if tC t = 1 ∧ lo ≤ tN t ∧ tN t ≤ hi then tN t else 0)
    by_cases c : tC t = 1
    · rw [if_pos c] at z'
      by_cases c2 : tN t < lo ∨ hi < tN t
      · rw [if_pos c2] at z'; cases z'
      · rw [if_pos ⟨c, by omega, by omega⟩]; omega
    · rw [if_neg c] at z'; cases z'
theorem optV_b (b : Nat → Nat) (L k hi : Nat) (x : Except (Nat × Nat) LT) : optV b L k hi x ≤ hi := by
  unfold optV
  by_cases c : takeB k x = true
  · rw [if_pos c]; exact numV_b _ _ _
  · rw [if_neg c]; exact Nat.zero_le _
theorem thD_ok {x : Except (Nat × Nat) LT} {D : DR} {p : LT × DR} (h : thD x D = .ok p) : x = .ok p.1 ∧ p.2 = D := by
  cases x with
  | error e => cases h
  | ok t =>
    have : (Except.ok (t, D) : Except (Nat × Nat) (LT × DR)) = .ok p := h
    injection this with q
    rw [← q]; exact ⟨rfl, rfl⟩
theorem fmR_ok {b : Nat → Nat} {L : Nat} {t : LT} {g : Nat × List (Nat × Nat) → DR} {p : LT × DR} (h : fmR b L t g = .ok p) : ∃ s, eiR (nxl b L) 10 0 (t, 0, []) = .ok s ∧ needR b L 59 (.ok s.1) = .ok p.1 ∧ p.2 = g s.2 := by
  unfold fmR at h
  cases q : eiR (nxl b L) 10 0 (t, 0, []) with
  | error e => rw [q] at h; cases h
  | ok s =>
    rw [q] at h
    exact ⟨s, rfl, thD_ok h⟩
theorem se_w {S j : Nat} (h : S < 32) (hj : j < 5) : S ||| 2 ^ j < 32 ∧ ∀ i, i < 5 → (S ||| 2 ^ j).testBit i = (S.testBit i || decide (i = j)) := by
  have a : ∀ S : Fin 32, ∀ j : Fin 5, S.val ||| 2 ^ j.val < 32 ∧ ∀ i : Fin 5, (S.val ||| 2 ^ j.val).testBit i.val = (S.val.testBit i.val || decide (i.val = j.val)) := by decide
  exact ⟨(a ⟨S, h⟩ ⟨j, hj⟩).1, fun i hi => (a ⟨S, h⟩ ⟨j, hj⟩).2 ⟨i, hi⟩⟩
theorem line_G {b : Nat → Nat} {L : Nat} {D : DR} {t : LT} (g : DG D) (tg : TG L t) {p : LT × DR} (h : lineR b L D t = .ok p) : DG p.2 := by
  obtain ⟨g1, g2, g3, g4, g5, g6, g7, g8, g9, g10, g11, g12⟩ := g
  have nk := nxl_k b L t tg
  unfold lineR at h
  by_cases c0 : tC t = 256 ∧ D.kn.length < 3
  · rw [if_pos c0] at h
    rw [(thD_ok h).2]
    exact ⟨by show (D.kn ++ _).length ≤ 3; rw [List.length_append]; show D.kn.length + 1 ≤ 3; omega, g2, g3, g4, g5, g6, g7, g8, g9, g10, g11, g12⟩
  rw [if_neg c0] at h
  by_cases c1 : tC t = 257 ∧ D.dn.length < 6
  · rw [if_pos c1] at h
    rw [(thD_ok h).2]
    refine ⟨g1, by show (D.dn ++ _).length ≤ 6; rw [List.length_append]; show D.dn.length + 1 ≤ 6; omega, g3, g4, g5, g6, g7, fun k hk => ?_, g9, g10, g11, g12⟩
    have hk' : k < D.dn.length + 1 := by have : k < (D.dn ++ [tW (nxl b L t)]).length := hk; rw [List.length_append] at this; exact this
    show dvN b L D (nxl b L t) k 0 < 3 ∧ dvN b L D (nxl b L t) k 1 ≤ 9 ∧ dvN b L D (nxl b L t) k 2 ≤ 99 ∧ dvN b L D (nxl b L t) k 3 ≤ 9999 ∧ dvN b L D (nxl b L t) k 4 ≤ 99 ∧ dvN b L D (nxl b L t) k 5 ≤ 9
    unfold dvN
    by_cases e : k = D.dn.length
    · simp only [if_pos e]
      exact ⟨kindV_b g1 _, numV_b _ _ _, optV_b _ _ _ _ _, optV_b _ _ _ _ _, optV_b _ _ _ _ _, optV_b _ _ _ _ _⟩
    · simp only [if_neg e]
      exact g8 k (by omega)
  rw [if_neg c1] at h
  by_cases c2 : tC t = 264 ∧ D.se.testBit 0 = false
  · rw [if_pos c2] at h
    obtain ⟨s, e1, e2, e3⟩ := fmR_ok h
    obtain ⟨-, -, k3, k4, -⟩ := ei_t nk.1 e1
    obtain ⟨w1, w2⟩ := se_w (S := D.se) (j := 0) g3 (by omega)
    rw [e3]
    exact ⟨g1, g2, w1, fun z => by have := w2 0 (by omega); rw [show (D.se ||| 1) = D.se ||| 2 ^ 0 from rfl] at z; rw [this] at z; simp at z, fun z => by have := w2 1 (by omega); have z' : (D.se ||| 2 ^ 0).testBit 1 = false := z; rw [this] at z'; simp at z'; exact g5 z', ⟨k3, k4⟩, g7, g8, g9, g10, g11, g12⟩
  rw [if_neg c2] at h
  by_cases c3 : tC t = 265 ∧ D.se.testBit 1 = false
  · rw [if_pos c3] at h
    obtain ⟨s, e1, e2, e3⟩ := fmR_ok h
    obtain ⟨-, -, k3, k4, -⟩ := ei_t nk.1 e1
    obtain ⟨w1, w2⟩ := se_w (S := D.se) (j := 1) g3 (by omega)
    rw [e3]
    exact ⟨g1, g2, w1, fun z => by have := w2 0 (by omega); have z' : (D.se ||| 2 ^ 1).testBit 0 = false := z; rw [this, show decide (0 = 1) = false from rfl, Bool.or_false] at z'; exact g4 z', fun z => by have := w2 1 (by omega); have z' : (D.se ||| 2 ^ 1).testBit 1 = false := z; rw [this] at z'; simp at z', g6, ⟨k3, k4⟩, g8, g9, g10, g11, g12⟩
  rw [if_neg c3] at h
  have keep : ∀ j, j < 5 → 2 ≤ j → (D.se ||| 2 ^ j < 32) ∧ ((D.se ||| 2 ^ j).testBit 0 = false → D.ch = (0, [])) ∧ ((D.se ||| 2 ^ j).testBit 1 = false → D.he = (0, [])) := fun j h1 h2 => by
    obtain ⟨w1, w2⟩ := se_w (S := D.se) (j := j) g3 h1
    refine ⟨w1, fun z => ?_, fun z => ?_⟩
    · rw [w2 0 (by omega), show decide (0 = j) = false from decide_eq_false (by omega), Bool.or_false] at z; exact g4 z
    · rw [w2 1 (by omega), show decide (1 = j) = false from decide_eq_false (by omega), Bool.or_false] at z; exact g5 z
  by_cases c4 : tC t = 266 ∧ D.se.testBit 2 = false
  · rw [if_pos c4] at h
    obtain ⟨q1, q2⟩ := thD_ok h
    rw [q2]
    obtain ⟨w1, w2, w3⟩ := keep 2 (by omega) (by omega)
    exact ⟨g1, g2, w1, w2, w3, g6, g7, g8, numV_b 100 (.ok (nxl b L t)) 0, ⟨numV_lo (needR_k (k := 59) ⟨_, q1⟩), numV_b 20 (needR b L 258 (numR b L 0 100 (.ok (nxl b L t)))) 1⟩, g11, g12⟩
  rw [if_neg c4] at h
  by_cases c5 : tC t = 267 ∧ D.se.testBit 3 = false
  · rw [if_pos c5] at h
    obtain ⟨q1, q2⟩ := thD_ok h
    rw [q2]
    obtain ⟨w1, w2, w3⟩ := keep 3 (by omega) (by omega)
    exact ⟨g1, g2, w1, w2, w3, g6, g7, g8, g9, g10, ⟨numV_lo (needR_k (k := 59) ⟨_, q1⟩), numV_b 9 (.ok (nxl b L t)) 1⟩, g12⟩
  rw [if_neg c5] at h
  by_cases c6 : tC t = 268 ∧ D.se.testBit 4 = false
  · rw [if_pos c6] at h
    obtain ⟨q1, q2⟩ := thD_ok h
    rw [q2]
    obtain ⟨w1, w2, w3⟩ := keep 4 (by omega) (by omega)
    exact ⟨g1, g2, w1, w2, w3, g6, g7, g8, g9, g10, g11, numV_b 999 (.ok (nxl b L t)) 0⟩
  rw [if_neg c6] at h
  cases h
/-! a line takes a byte at least -/
def aft (L p : Nat) (x : Except (Nat × Nat) LT) : Prop := ∀ t, x = .ok t → TG L t ∧ p ≤ tP t
theorem aft_n {b : Nat → Nat} {L p : Nat} {t : LT} (tg : TG L t) (hp : p ≤ tP t) (h0 : ¬ tC t = 0) (h3 : ¬ tC t = 3) : aft L p (.ok (nxl b L t)) := fun t' e => by
  injection e with e
  have nk := nxl_k b L t tg
  have := tg.2.2 h0 h3
  rw [← e]; exact ⟨nk.1, by omega⟩
theorem aft_e {L p : Nat} {e : Nat × Nat} : aft L p (.error e) := fun t z => by cases z
theorem needR_a {b : Nat → Nat} {L p k : Nat} {x : Except (Nat × Nat) LT} (h : aft L p x) (k0 : ¬ k = 0) (k3 : ¬ k = 3) : aft L p (needR b L k x) := by
  cases x with
  | error e => exact aft_e
  | ok t =>
    obtain ⟨tg, hp⟩ := h t rfl
    show aft L p (if tC t = k then .ok (nxl b L t) else .error (er 2 t))
    by_cases e : tC t = k
    · rw [if_pos e]; exact aft_n tg hp (by omega) (by omega)
    · rw [if_neg e]; exact aft_e
theorem numR_a {b : Nat → Nat} {L p lo hi : Nat} {x : Except (Nat × Nat) LT} (h : aft L p x) : aft L p (numR b L lo hi x) := by
  cases x with
  | error e => exact aft_e
  | ok t =>
    obtain ⟨tg, hp⟩ := h t rfl
    show aft L p (if tC t = 1 then (if tN t < lo ∨ hi < tN t then .error (4, tP t) else .ok (nxl b L t)) else .error (er 2 t))
    by_cases e : tC t = 1
    · rw [if_pos e]
      by_cases c : tN t < lo ∨ hi < tN t
      · rw [if_pos c]; exact aft_e
      · rw [if_neg c]; exact aft_n tg hp (by omega) (by omega)
    · rw [if_neg e]; exact aft_e
theorem kindR_a {b : Nat → Nat} {L p : Nat} {kn : List (List Nat)} {x : Except (Nat × Nat) LT} (h : aft L p x) : aft L p (kindR b L kn x) := by
  cases x with
  | error e => exact aft_e
  | ok t =>
    obtain ⟨tg, hp⟩ := h t rfl
    show aft L p (if tC t = 2 then (if nix (tW t) kn < kn.length then .ok (nxl b L t) else .error (5, tP t)) else .error (er 2 t))
    by_cases e : tC t = 2
    · rw [if_pos e]
      by_cases c : nix (tW t) kn < kn.length
      · rw [if_pos c]; exact aft_n tg hp (by omega) (by omega)
      · rw [if_neg c]; exact aft_e
    · rw [if_neg e]; exact aft_e
theorem newR_a {b : Nat → Nat} {L p : Nat} {l : List (List Nat)} {t : LT} (tg : TG L t) (hp : p ≤ tP t) : aft L p (newR b L l t) := by
  unfold newR
  by_cases e : tC t = 2
  · rw [if_pos e]
    by_cases c : nix (tW t) l < l.length
    · rw [if_pos c]; exact aft_e
    · rw [if_neg c]; exact aft_n tg hp (by omega) (by omega)
  · rw [if_neg e]; exact aft_e
theorem optR_a {b : Nat → Nat} {L p k hi : Nat} {x : Except (Nat × Nat) LT} (h : aft L p x) (k0 : ¬ k = 0) (k3 : ¬ k = 3) : aft L p (optR b L k hi x) := by
  unfold optR
  by_cases c : takeB k x = true
  · rw [if_pos c]
    refine numR_a ?_
    cases x with
    | error e => exact aft_e
    | ok t =>
      obtain ⟨tg, hp⟩ := h t rfl
      show aft L p (if tC t = k then .ok (nxl b L t) else .ok t)
      by_cases e : tC t = k
      · rw [if_pos e]; exact aft_n tg hp (by omega) (by omega)
      · rw [if_neg e]; exact h
  · rw [if_neg c]; exact h
theorem dl7_a {b : Nat → Nat} {L p : Nat} {kn dn : List (List Nat)} {t : LT} (tg : TG L t) (hp : p ≤ tP t) : aft L p (dl7 b L kn dn t) := by
  unfold dl7 dl6 dl5 dl4 dl3 dl2 dl1
  exact optR_a (optR_a (optR_a (optR_a (numR_a (needR_a (kindR_a (needR_a (newR_a tg hp) (by omega) (by omega))) (by omega) (by omega))) (by omega) (by omega)) (by omega) (by omega)) (by omega) (by omega)) (by omega) (by omega)
theorem line_a {b : Nat → Nat} {L : Nat} {D : DR} {t : LT} (tg : TG L t) (h0 : ¬ tC t = 0) {p : LT × DR} (h : lineR b L D t = .ok p) : TG L p.1 ∧ tP t + 1 ≤ tP p.1 := by
  have nk := nxl_k b L t tg
  have st : ¬ tC t = 3 → TG L (nxl b L t) ∧ tP t + 1 ≤ tP (nxl b L t) := fun h3 => by
    have := tg.2.2 h0 h3
    exact ⟨nk.1, by omega⟩
  have a0 : ¬ tC t = 3 → aft L (tP t + 1) (.ok (nxl b L t)) := fun h3 t' e => by injection e with e; rw [← e]; exact st h3
  have go : ∀ {x : Except (Nat × Nat) LT} {E : DR}, aft L (tP t + 1) x → thD (needR b L 59 x) E = .ok p → TG L p.1 ∧ tP t + 1 ≤ tP p.1 := fun a q => needR_a a (by omega) (by omega) _ (thD_ok q).1
  have gf : ∀ {E : Nat × List (Nat × Nat) → DR}, ¬ tC t = 3 → fmR b L (nxl b L t) E = .ok p → TG L p.1 ∧ tP t + 1 ≤ tP p.1 := fun h3 q => by
    obtain ⟨s, e1, e2, -⟩ := fmR_ok q
    obtain ⟨k1, k2, -⟩ := ei_t nk.1 e1
    have := (st h3).2
    exact needR_a (x := .ok s.1) (fun t' e => by injection e with e; rw [← e]; exact ⟨k1, by omega⟩) (by omega) (by omega) _ e2
  unfold lineR at h
  by_cases c0 : tC t = 256 ∧ D.kn.length < 3
  · rw [if_pos c0] at h
    obtain ⟨s1, s2⟩ := st (by omega)
    exact go (newR_a s1 s2) h
  rw [if_neg c0] at h
  by_cases c1 : tC t = 257 ∧ D.dn.length < 6
  · rw [if_pos c1] at h
    obtain ⟨s1, s2⟩ := st (by omega)
    exact go (dl7_a s1 s2) h
  rw [if_neg c1] at h
  by_cases c2 : tC t = 264 ∧ D.se.testBit 0 = false
  · rw [if_pos c2] at h
    exact gf (by omega) h
  rw [if_neg c2] at h
  by_cases c3 : tC t = 265 ∧ D.se.testBit 1 = false
  · rw [if_pos c3] at h
    exact gf (by omega) h
  rw [if_neg c3] at h
  by_cases c4 : tC t = 266 ∧ D.se.testBit 2 = false
  · rw [if_pos c4] at h
    exact go (numR_a (needR_a (numR_a (a0 (by omega))) (by omega) (by omega))) h
  rw [if_neg c4] at h
  by_cases c5 : tC t = 267 ∧ D.se.testBit 3 = false
  · rw [if_pos c5] at h
    exact go (numR_a (a0 (by omega))) h
  rw [if_neg c5] at h
  by_cases c6 : tC t = 268 ∧ D.se.testBit 4 = false
  · rw [if_pos c6] at h
    exact go (numR_a (a0 (by omega))) h
  rw [if_neg c6] at h
  cases h
/-! the token behind a formula -/
def TKQ (t : LT) : Prop := TKV t ∧ tC t < 300 ∧ (tC t = 1 → tN t < 10000)
theorem lx_Q (b : Nat → Nat) (L p : Nat) : TKQ (lx b L p) := ⟨(lx_kw b L p).1, (lx_kw b L p).2, lx_num b L p⟩
theorem TKQ.w {t : LT} (q : TKQ t) : TKW t := ⟨fun h => ⟨(q.1 (Or.inl h)).1, (q.1 (Or.inl h)).2.1⟩, q.2.2, q.2.1⟩
theorem MR_q {nx : LT → LT} {Q : LT → Prop} (hq : ∀ t, Q (nx t)) : ∀ (n : Nat) (bo : Bool) (s : FS) (st : List Nat) (dp : Nat) (s' : FS), Q s.1 → MR nx n bo s st dp = .ok s' → Q s'.1 := by
  intro n
  induction n with
  | zero => intro bo s st dp s' q e; cases bo <;> cases e
  | succ n ih =>
    intro bo s st dp s' q e
    cases bo with
    | false =>
      rw [MR] at e
      split at e
      · split at e
        · cases e
        · exact ih _ _ _ _ _ (hq _) e
      · split at e
        · split at e
          · cases e
          · exact ih _ _ _ _ _ (hq _) e
        · split at e
          · cases e
          · exact ih _ _ _ _ _ (hq _) e
    | true =>
      rw [MR_t] at e
      split at e
      · exact ih _ _ _ _ _ (hq _) e
      · split at e
        · exact ih _ _ _ _ _ (hq _) e
        · split at e
          · cases e
          · injection e with e; rw [← e]; exact q
theorem ei_Q {b : Nat → Nat} {L : Nat} {t : LT} (tg : TG L t) (q : TKQ t) {s' : FS} (e : eiR (nxl b L) 10 0 (t, 0, []) = .ok s') : TKQ s'.1 := by
  rw [← form_eq (n := L + 3) (nxl_k b L) (s := (t, 0, [])) tg (by show 0 ≤ 30; omega) (Nat.le_refl _)] at e
  exact MR_q (fun t => lx_Q b L _) _ _ _ _ _ _ q e
