/-! ===== the reference's stack of operators ===== -/
theorem hasBr_l {h : AH} {st : List Nat} (k : SK h st) (hl : st.length < 150) : ∀ (m i fu : Nat) (x : Bool), m + i = st.length → m < fu → (x = true ↔ ∃ j, j < i ∧ hI h 392 j = 20) → f_M_hasBracket_l4 fu (if x = true then 1 else 0) (nI i) h = some (if (∃ j, j < st.length ∧ hI h 392 j = 20) then 1 else 0, h) := by
  intro m
  induction m with
  | zero =>
    intro i fu x hi hf hx
    obtain ⟨n, rfl⟩ : ∃ n, fu = n + 1 := ⟨fu - 1, by omega⟩
    have : i = st.length := by omega
    subst this
    rw [f_M_hasBracket_l4, k.1, if_pos (Int32.le_refl _)]
    by_cases c : x = true
    · rw [if_pos c, if_pos (hx.mp c)]; rfl
    · rw [if_neg c, if_neg (fun z => c (hx.mpr z))]; rfl
  | succ m ih =>
    intro i fu x hi hf hx
    obtain ⟨n, rfl⟩ : ∃ n, fu = n + 1 := ⟨fu - 1, by omega⟩
    rw [f_M_hasBracket_l4, k.1, if_neg (nI_ge (by omega) (by omega))]
    by_cases c : x = true
    · have e1 := ih (i + 1) n true (by omega) (by omega) ⟨fun _ => by obtain ⟨j, j1, j2⟩ := hx.mp c; exact ⟨j, by omega, j2⟩, fun _ => rfl⟩
      rw [if_pos rfl] at e1
      rw [if_pos c, if_pos (by decide), f_M_hasBracket_b27, lt_e, nI_1, e1]
    · rw [if_neg c, if_neg (fun z => z rfl), gx_n _ (show i < 160 by omega) (by omega), ix_n (by omega)]
      by_cases e : hI h 392 i = 20
      · have e1 := ih (i + 1) n true (by omega) (by omega) ⟨fun _ => ⟨i, by omega, e⟩, fun _ => rfl⟩
        rw [if_pos rfl] at e1
        rw [if_neg (fun z => z e), f_M_hasBracket_b27, lt_e, nI_1, e1]
      · have no : (∃ j, j < i + 1 ∧ hI h 392 j = 20) → False := by
          rintro ⟨j, j1, j2⟩
          by_cases q : j = i
          · rw [q] at j2; exact absurd j2 e
          · exact absurd (hx.mpr ⟨j, by omega, j2⟩) c
        have e1 := ih (i + 1) n false (by omega) (by omega) ⟨(fun z => (by cases z)), (fun z => (no z).elim)⟩
        rw [if_neg (by decide)] at e1
        rw [if_pos e, lt_e, nI_1, e1]
theorem hasBr_ok {h : AH} {st : List Nat} (k : SK h st) (hl : st.length < 150) : f_M_hasBracket h = some (if has20 st = true then 1 else 0, h) := by
  have e1 := hasBr_l k hl st.length 0 FU false rfl (by show st.length < 1000000; omega) ⟨(fun z => (by cases z)), (fun z => (by obtain ⟨j, j1, _⟩ := z; omega))⟩
  rw [if_neg (by decide)] at e1
  rw [f_M_hasBracket]
  show f_M_hasBracket_l4 FU 0 (nI 0) h = _
  rw [e1]
  have iff : (∃ j, j < st.length ∧ hI h 392 j = 20) ↔ has20 st = true := by
    unfold has20
    rw [decide_eq_true_iff]
    constructor
    · rintro ⟨j, j1, j2⟩
      have q := k.2.1 (st.length - 1 - j) (by omega)
      rw [show st.length - 1 - (st.length - 1 - j) = j by omega, j2] at q
      have hg : st[st.length - 1 - j]? = some (st[st.length - 1 - j]'(by omega)) := List.getElem?_eq_getElem (by omega)
      rw [hg] at q
      have m : st[st.length - 1 - j]'(by omega) ∈ st := List.getElem_mem _
      have := (n_inj (show 20 < 2 ^ 31 by omega) (show st[st.length - 1 - j]'(by omega) < 2 ^ 31 by have := k.2.2 _ m; omega)).mp q
      rw [this]; exact m
    · intro m
      obtain ⟨i, hi, e⟩ := List.getElem_of_mem m
      refine ⟨st.length - 1 - i, by omega, ?_⟩
      have q := k.2.1 i hi
      rw [q, List.getElem?_eq_getElem hi, e]; rfl
  by_cases c : has20 st = true
  · rw [if_pos (iff.mpr c), if_pos c]
  · rw [if_neg (fun z => c (iff.mp z)), if_neg c]
theorem hasRel_l {h : AH} : ∀ (st : List Nat) (fu : Nat), st.length < fu → st.length < 150 → (∀ j, j < st.length → hI h 392 (st.length - 1 - j) = nI ((st[j]?).getD 0)) → (∀ x ∈ st, x < 200) → f_M_hasRelation_l7 fu (nI st.length - 1) h = some (if hasRel st = true then 1 else 0, h) := by
  intro st
  induction st with
  | nil =>
    intro fu hf _ _ _
    obtain ⟨n, rfl⟩ : ∃ n, fu = n + 1 := ⟨fu - 1, by omega⟩
    rw [f_M_hasRelation_l7, if_pos (by decide), f_M_hasRelation_b41, if_pos (by decide)]; rfl
  | cons x r ih =>
    intro fu hf hl hk hx
    obtain ⟨n, rfl⟩ : ∃ n, fu = n + 1 := ⟨fu - 1, by omega⟩
    have hr : r.length < 149 := by simp at hl; omega
    have hf' : r.length < n := by simp at hf; omega
    have t1 := hk 0 (by simp)
    rw [show (x :: r).length - 1 - 0 = r.length by simp] at t1
    have t1 : hI h 392 r.length = nI x := t1
    have t2 := hx x (by simp)
    have ti := tig_in x
    have nn : ¬ nI r.length < 0 := n_nlt (b := 0) (by omega) (by omega)
    rw [show nI (x :: r).length - 1 = nI r.length from nI_s1 r.length, f_M_hasRelation_l7, if_neg nn, gx_n _ (show r.length < 160 by omega) (by omega), ix_n (by omega), t1, hasRel]
    have b41 : f_M_hasRelation_b41 (nI r.length) h = some (if x = 20 then 0 else if tig x = 4 then 1 else 0, h) := by
      rw [f_M_hasRelation_b41, if_neg nn, gx_n _ (show r.length < 160 by omega) (by omega), ix_n (by omega), t1]
      by_cases c : x = 20
      · rw [if_pos (show nI x = (20 : Int32) by rw [c]; rfl), if_pos c]
      · rw [if_neg (show ¬ nI x = (20 : Int32) from fun z => c ((tk_eq (k := 20) (by omega) (by omega)).mp z)), if_neg c, gx_n _ (show r.length < 160 by omega) (by omega), tight_ok (by omega), bI_s]
        by_cases c4 : tig x = 4
        · rw [if_neg (show ¬ ¬ nI (tig x) = (4 : Int32) from fun z => z (by rw [c4]; rfl)), if_pos c4]
        · rw [if_pos (show ¬ nI (tig x) = (4 : Int32) from fun z => c4 ((tk_eq (k := 4) (by omega) (by omega)).mp z)), if_neg c4]
    by_cases c : x = 20
    · rw [if_pos (show nI x = (20 : Int32) by rw [c]; rfl), b41, if_pos c, if_pos c]; rfl
    · rw [if_neg (show ¬ nI x = (20 : Int32) from fun z => c ((tk_eq (k := 20) (by omega) (by omega)).mp z)), gx_n _ (show r.length < 160 by omega) (by omega), tight_ok (by omega), bI_s, if_neg c]
      by_cases c4 : 4 < tig x
      · rw [if_neg (show ¬ nI (tig x) ≤ (4 : Int32) from nI_ge (a := 4) c4 (by omega)), if_pos c4, lt_e, show nI r.length + -1 = nI r.length - 1 by rw [Int32.sub_eq_add_neg]]
        refine ih n hf' (by omega) (fun j hj => ?_) (fun y hy => hx y (by simp [hy]))
        have := hk (j + 1) (by simp; omega)
        rw [show (x :: r).length - 1 - (j + 1) = r.length - 1 - j by simp; omega] at this
        rw [this]; simp
      · rw [if_pos (show nI (tig x) ≤ (4 : Int32) from nI_le (b := 4) (by omega) (by omega)), if_neg c4, b41, if_neg c]
        by_cases e4 : tig x = 4
        · rw [if_pos e4, if_pos (by simp [e4])]
        · rw [if_neg e4, if_neg (by simp [e4])]
theorem hasRel_ok {h : AH} {st : List Nat} (k : SK h st) (hl : st.length < 150) : f_M_hasRelation h = some (if hasRel st = true then 1 else 0, h) := by
  rw [f_M_hasRelation, lt_e, k.1]
  exact hasRel_l st FU (by show st.length < 1000000; omega) hl k.2.1 k.2.2
/-! the reference's code -/
abbrev clC (w : Nat) : Nat → Nat → Prop := fun c k => (c = 383 ∧ (k = 21 ∨ k = 25)) ∨ ((c = 386 ∨ c = 387) ∧ 320 * w ≤ k ∧ k < 320 * w + 320) ∨ (c = 388 ∧ k = w)
abbrev FrA (w : Nat) (h h1 : AH) : Prop := FrL (clC w) (fun _ _ => False) nxR h h1
def CD (h : AH) (w : Nat) (c : List (Nat × Nat)) : Prop := w < 2 ∧ hI h 383 20 = nI w ∧ hI h 388 w = nI c.length ∧ ∀ k, k < c.length → hI h 386 (320 * w + k) = nI ((c[k]?).getD (0, 0)).1 ∧ hI h 387 (320 * w + k) = nI ((c[k]?).getD (0, 0)).2
theorem nI_320 {w k : Nat} : (320 : Int32) * nI w + nI k = nI (320 * w + k) := by
  rw [show (320 : Int32) * nI w = nI (320 * w) from (Int32.ofNat_mul 320 w).symm, nI_add]
theorem Madd_ok {h : AH} {w : Nat} {c : List (Nat × Nat)} (d : CD h w c) (x : Nat × Nat) (hl : c.length < 320) : ∃ h1, f_M_add (nI x.1) (nI x.2) h = some h1 ∧ FrA w h h1 ∧ CD h1 w (c ++ [x]) ∧ (∀ k, hI h1 392 k = hI h 392 k) ∧ ∀ k, hI h1 383 k = hI h 383 k := by
  obtain ⟨w2, d1, d2, d3⟩ := d
  have w1 : hI (sI h 386 (320 * w + c.length) (nI x.1)) 383 20 = nI w := by rw [hI_sI, if_neg (by omega)]; exact d1
  have w3 : hI (sI h 386 (320 * w + c.length) (nI x.1)) 388 w = nI c.length := by rw [hI_sI, if_neg (by omega)]; exact d2
  have w4 : hI (sI (sI h 386 (320 * w + c.length) (nI x.1)) 387 (320 * w + c.length) (nI x.2)) 383 20 = nI w := by rw [hI_sI, if_neg (by omega)]; exact w1
  have w5 : hI (sI (sI h 386 (320 * w + c.length) (nI x.1)) 387 (320 * w + c.length) (nI x.2)) 388 w = nI c.length := by rw [hI_sI, if_neg (by omega)]; exact w3
  have f : FrA w h (sI (sI (sI h 386 (320 * w + c.length) (nI x.1)) 387 (320 * w + c.length) (nI x.2)) 388 w (nI (c.length + 1))) := (((FrL.rf _ _ _ h).s (c := 386) (k := 320 * w + c.length) (Or.inr (Or.inl ⟨Or.inl rfl, by omega, by omega⟩)) (nI x.1)).s (c := 387) (k := 320 * w + c.length) (Or.inr (Or.inl ⟨Or.inr rfl, by omega, by omega⟩)) (nI x.2)).s (c := 388) (k := w) (Or.inr (Or.inr ⟨rfl, rfl⟩)) (nI (c.length + 1))
  refine ⟨_, by rw [f_M_add, d1, gx_n _ w2 (by omega), ix_n (show w < 2 ^ 31 by omega), d2, nI_320, gx_n _ (show 320 * w + c.length < 640 by omega) (by omega), ix_n (by omega), lt_e, w1, gx_n _ w2 (by omega), ix_n (show w < 2 ^ 31 by omega), w3, nI_320, gx_n _ (show 320 * w + c.length < 640 by omega) (by omega), ix_n (by omega), lt_e, lt_e, w4, gx_n _ w2 (by omega), gx_n _ w2 (by omega), ix_n (show w < 2 ^ 31 by omega), w5, nI_1, lt_e], f, ⟨w2, ?_, ?_, fun k hk => ?_⟩, fun k => ?_, fun k => ?_⟩
  · rw [hI_sI, if_neg (by omega)]; exact w4
  · rw [hI_sI_s, List.length_append]; rfl
  · have hk2 : k < c.length + 1 := by rw [List.length_append] at hk; exact hk
    rw [hI_sI, if_neg (by omega), hI_sI, if_neg (by omega), hI_sI, hI_sI, if_neg (show ¬ (387 = 388 ∧ _) by omega), hI_sI]
    by_cases e : k = c.length
    · subst e
      rw [if_pos ⟨rfl, rfl⟩, if_pos ⟨rfl, rfl⟩, List.getElem?_append_right (Nat.le_refl _), Nat.sub_self]
      exact ⟨rfl, rfl⟩
    · rw [if_neg (by omega), if_neg (by omega), List.getElem?_append_left (by omega), hI_sI, if_neg (by omega)]
      exact d3 k (by omega)
  · rw [hI_sI, if_neg (by omega), hI_sI, if_neg (by omega), hI_sI, if_neg (by omega)]
  · rw [hI_sI, if_neg (by omega), hI_sI, if_neg (by omega), hI_sI, if_neg (by omega)]
theorem CD.o {h h1 : AH} {w : Nat} {c : List (Nat × Nat)} (d : CD h w c) (e : hI h1 383 20 = hI h 383 20) (e8 : ∀ k, hI h1 388 k = hI h 388 k) (e6 : ∀ k, hI h1 386 k = hI h 386 k) (e7 : ∀ k, hI h1 387 k = hI h 387 k) : CD h1 w c := ⟨d.1, e.trans d.2.1, (e8 _).trans d.2.2.1, fun k hk => ⟨(e6 _).trans (d.2.2.2 k hk).1, (e7 _).trans (d.2.2.2 k hk).2⟩⟩
theorem close_ok {w k : Nat} (hk : k < 200) : ∀ (st : List Nat) (c : List (Nat × Nat)) (dp fu : Nat) (h : AH), st.length < fu → st.length < 150 → c.length + st.length < 320 → c21 st ≤ dp → dp < 1000 → SK h st → CD h w c → hI h 383 25 = nI dp → ∃ h1, f_M_close_l0 (nI k) fu h = some h1 ∧ FrA w h h1 ∧ SK h1 (clP k st c dp).1 ∧ CD h1 w (clP k st c dp).2.1 ∧ hI h1 383 25 = nI (clP k st c dp).2.2 := by
  intro st
  induction st with
  | nil =>
    intro c dp fu h hf _ _ _ _ s d e
    obtain ⟨n, rfl⟩ : ∃ n, fu = n + 1 := ⟨fu - 1, by omega⟩
    rw [f_M_close_l0, if_pos (by rw [s.1]; exact Int32.le_refl _)]
    exact ⟨h, rfl, FrL.rf _ _ _ h, s, d, e⟩
  | cons x r ih =>
    intro c dp fu h hf hl hc h21 hd s d e
    obtain ⟨n, rfl⟩ : ∃ n, fu = n + 1 := ⟨fu - 1, by omega⟩
    have hr : r.length < 149 := by simp at hl; omega
    have hf' : r.length < n := by simp at hf; omega
    have hc' : c.length + r.length + 1 < 320 := by simp at hc; omega
    obtain ⟨t1, t2⟩ := s.top
    have ti := tig_in x
    rw [f_M_close_l0, s.1, if_neg (show ¬ nI (x :: r).length ≤ (0 : Int32) from nI_ge (a := 0) (by simp) (by omega)), show nI (x :: r).length - 1 = nI r.length from nI_s1 r.length, gx_n _ (show r.length < 160 by omega) (by omega), ix_n (by omega), t1, clP]
    by_cases c20 : x = 20
    · rw [if_pos (show nI x = (20 : Int32) by rw [c20]; rfl), if_pos (Or.inl c20)]
      exact ⟨h, rfl, FrL.rf _ _ _ h, s, d, e⟩
    · rw [if_neg (show ¬ nI x = (20 : Int32) from fun z => c20 ((tk_eq (k := 20) (by omega) (by omega)).mp z)), gx_n _ (show r.length < 160 by omega) (by omega), tight_ok (by omega), bI_s]
      by_cases ct : tig x < k
      · rw [if_pos (n_lt ct (by omega)), if_pos (Or.inr ct)]
        exact ⟨h, rfl, FrL.rf _ _ _ h, s, d, e⟩
      · rw [if_neg (n_nlt (by omega) (by omega)), if_neg (by omega), lt_e, s.1, show nI (x :: r).length - 1 = nI r.length from nI_s1 r.length]
        have f0 : FrA w h (sI h 383 21 (nI r.length)) := (FrL.rf _ _ _ h).s (c := 383) (k := 21) (Or.inl ⟨rfl, Or.inl rfl⟩) _
        have s0 : SK (sI h 383 21 (nI r.length)) r := s.pop (hI_sI_s _ _ _ _) (fun k _ => by rw [hI_sI, if_neg (by omega)])
        have d0 : CD (sI h 383 21 (nI r.length)) w c := d.o (by rw [hI_sI, if_neg (by omega)]) (fun k => by rw [hI_sI, if_neg (by omega)]) (fun k => by rw [hI_sI, if_neg (by omega)]) (fun k => by rw [hI_sI, if_neg (by omega)])
        have e0 : hI (sI h 383 21 (nI r.length)) 383 25 = nI dp := by rw [hI_sI, if_neg (by omega)]; exact e
        have x0 : hI (sI h 383 21 (nI r.length)) 392 r.length = nI x := by rw [hI_sI, if_neg (by omega)]; exact t1
        generalize sI h 383 21 (nI r.length) = h0 at f0 s0 d0 e0 x0 ⊢
        rw [s0.1, gx_n _ (show r.length < 160 by omega) (by omega), ix_n (by omega), x0]
        by_cases c21' : x = 21
        · have cc : c21 (x :: r) = c21 r + 1 := by unfold c21; simp [c21']
          rw [if_neg (show ¬ ¬ nI x = (21 : Int32) from fun z => z (by rw [c21']; rfl)), if_pos c21']
          obtain ⟨h1, e1, f1, d1, k1, k2⟩ := Madd_ok d0 (2, 0) (by omega)
          have e1' : f_M_add 2 0 h0 = some h1 := e1
          rw [e1', bV_s, lt_e, k2, e0, show nI dp - 1 = nI (dp - 1) by rw [show dp = (dp - 1) + 1 by omega]; exact nI_s1 (dp - 1)]
          have f2 : FrA w h1 (sI h1 383 25 (nI (dp - 1))) := (FrL.rf _ _ _ h1).s (c := 383) (k := 25) (Or.inl ⟨rfl, Or.inr rfl⟩) _
          obtain ⟨h3, e3, f3, a1, a2, a3⟩ := ih (c ++ [(2, 0)]) (dp - 1) n (sI h1 383 25 (nI (dp - 1))) hf' (by omega) (by rw [List.length_append]; show c.length + 1 + r.length < 320; omega) (by omega) (by omega) ⟨by rw [hI_sI, if_neg (by omega), k2]; exact s0.1, fun j hj => by rw [hI_sI, if_neg (by omega), k1]; exact s0.2.1 j hj, s0.2.2⟩ (d1.o (by rw [hI_sI, if_neg (by omega)]) (fun k => by rw [hI_sI, if_neg (by omega)]) (fun k => by rw [hI_sI, if_neg (by omega)]) (fun k => by rw [hI_sI, if_neg (by omega)])) (hI_sI_s _ _ _ _)
          have em : emi x = (2, 0) := by unfold emi; rw [if_pos c21']
          rw [em]
          exact ⟨h3, e3, ((f0.t f1).t f2).t f3, a1, a2, a3⟩
        · have cc : c21 (x :: r) = c21 r := by unfold c21; simp [c21']
          rw [if_pos (show ¬ nI x = (21 : Int32) from fun z => c21' ((tk_eq (k := 21) (by omega) (by omega)).mp z)), if_neg c21', gx_n _ (show r.length < 160 by omega) (by omega)]
          obtain ⟨h1, e1, f1, d1, k1, k2⟩ := Madd_ok d0 (3, x) (by omega)
          have e1' : f_M_add 3 (nI x) h0 = some h1 := e1
          rw [e1', bV_s]
          obtain ⟨h3, e3, f3, a1, a2, a3⟩ := ih (c ++ [(3, x)]) dp n h1 hf' (by omega) (by rw [List.length_append]; show c.length + 1 + r.length < 320; omega) (by omega) hd ⟨by rw [k2]; exact s0.1, fun j hj => by rw [k1]; exact s0.2.1 j hj, s0.2.2⟩ d1 (by rw [k2]; exact e0)
          have em : emi x = (3, x) := by unfold emi; rw [if_neg c21']
          rw [em]
          exact ⟨h3, e3, (f0.t f1).t f3, a1, a2, a3⟩
