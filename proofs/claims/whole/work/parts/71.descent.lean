/-! ===== the class reads formulas by descent ===== -/
abbrev fmC (q : Nat) : Nat → Nat → Prop := fun c k => nxC c k ∨ (c = q ∧ (k = 3 ∨ k = 4)) ∨ c = q + 1 ∨ c = q + 2
abbrev FrQ (q : Nat) (h h1 : AH) : Prop := FrL (fmC q) nxD nxR h h1
theorem FrN.q {q : Nat} {h h1 : AH} (f : FrN h h1) : FrQ q h h1 := f.mn (fun _ _ z => Or.inl z) (fun _ _ z => z) (fun _ z => z)
theorem CBs.frq {b : Nat → Nat} {L q : Nat} {h h1 : AH} (hq : 3 ≤ q) (c : CBs b L h) (f : FrQ q h h1) : CBs b L h1 := by
  refine ⟨c.1, ?_, fun k hk => ?_, c.2.2.2⟩
  · rw [f.2.1 _ _ (by show ¬ ((1 = 1 ∧ _) ∨ _); omega)]; exact c.2.1
  · rw [f.2.1 _ _ (by show ¬ ((2 = 1 ∧ _) ∨ _); omega)]; exact c.2.2.1 k hk
def FQ (q : Nat) (h : AH) : Prop := 3 ≤ q ∧ hR h 1 2 = some q ∧ kdF q = .inr 5
theorem FQ.f {q : Nat} {h h1 : AH} (d : FQ q h) (f : FrQ q h h1) : FQ q h1 := ⟨d.1, by rw [f.2.2.2 _ (fun z => z)]; exact d.2.1, d.2.2⟩
/-- the class within a formula, at a token, with so many units and such a code -/
def XC (b : Nat → Nat) (L q : Nat) (h : AH) (s : FS) : Prop := RC b L h s.1 ∧ TKW s.1 ∧ FQ q h ∧ hI h q 4 = nI s.2.1 ∧ s.2.1 ≤ 30 ∧ FC h q (lcT s.2.2)
/-- the class at fault within a formula -/
def DC (b : Nat → Nat) (L q : Nat) (h : AH) (e : Nat × Nat) : Prop := CBs b L h ∧ FQ q h ∧ hI h 1 10 = nI e.1 ∧ 1 ≤ e.1 ∧ e.1 < 100 ∧ hI h 1 11 = nI e.2 ∧ hI h 1 4 = 3 ∧ ∃ n, n ≤ 270 ∧ hI h q 3 = nI n
def Gd (s : FS) : Prop := (∃ k, runH s.2.2 0 = some k ∧ k ≤ s.2.1) ∧ s.2.2.length ≤ 9 * s.2.1
def nxl (b : Nat → Nat) (L : Nat) (t : LT) : LT := lx b L (tX t)
theorem FC.frl {C D : Nat → Nat → Prop} {R : Nat → Prop} {h h1 : AH} {q : Nat} {c : CT} (m : FC h q c) (f : FrL C D R h h1) (a : ¬ C q 3) (a1 : ∀ k, ¬ C (q + 1) k) (a2 : ∀ k, ¬ C (q + 2) k) : FC h1 q c := by
  refine ⟨by rw [f.2.1 _ _ a]; exact m.1, fun k hk => ⟨by rw [f.2.1 _ _ (a1 k)]; exact (m.2 k hk).1, fun z => by rw [f.2.1 _ _ (a2 k)]; exact (m.2 k hk).2 z⟩⟩
theorem XC.next {b : Nat → Nat} {L q : Nat} {h : AH} {s : FS} (x : XC b L q h s) (h3 : ¬ tC s.1 = 3) : ∃ h1, f_Reader_next h = some h1 ∧ FrQ q h h1 ∧ XC b L q h1 (nxl b L s.1, s.2.1, s.2.2) := by
  obtain ⟨r, w, d, u, u3, fc⟩ := x
  obtain ⟨r1, r2, r3, r4, r5⟩ := r.2.2.2.2.2 h3
  obtain ⟨h1, e1, f1, q1, q2⟩ := next_ok r.1 r4 r1 r2 r3
  have d1 := d.1
  refine ⟨h1, e1, f1.q, q1, q2, d.f f1.q, ?_, u3, fc.frl f1 (by show ¬ (q = 1 ∧ _); omega) (fun k => by show ¬ (q + 1 = 1 ∧ _); omega) (fun k => by show ¬ (q + 2 = 1 ∧ _); omega)⟩
  rw [f1.2.1 _ _ (by show ¬ (q = 1 ∧ _); omega)]; exact u
theorem XC.tok {b : Nat → Nat} {L q : Nat} {h : AH} {s : FS} (x : XC b L q h s) : hI h 1 4 = nI (tC s.1) ∧ tC s.1 < 300 := ⟨x.1.2.2.2.1, x.2.1.2.2⟩
theorem DC.dead {b : Nat → Nat} {L q : Nat} {h : AH} {e : Nat × Nat} (x : DC b L q h e) : f_Reader_next h = some h := by
  rw [f_Reader_next, if_neg (by rw [x.2.2.1]; exact fun z => by have := (n_inj (show e.1 < 2 ^ 31 by have := x.2.2.2.2.1; omega) (show 0 < 2 ^ 31 by omega)).mp z; have := x.2.2.2.1; omega)]
theorem DC.fail {b : Nat → Nat} {L q : Nat} {h : AH} {e : Nat × Nat} (x : DC b L q h e) (k : Int32) : ∃ h1, f_Reader_fail k h = some h1 ∧ FrQ q h h1 ∧ DC b L q h1 e := by
  obtain ⟨c, d, x10, x1, x2, x11, x4, n, hn, x3⟩ := x
  have f : FrQ q h (sI h 1 4 3) := (FrL.rf _ _ _ h).s (c := 1) (k := 4) (Or.inl ⟨rfl, by omega⟩) 3
  have d1 := d.1
  refine ⟨_, by rw [f_Reader_fail, if_pos (by rw [x10]; exact fun z => by have := (n_inj (show e.1 < 2 ^ 31 by omega) (show 0 < 2 ^ 31 by omega)).mp z; omega), lt_e], f, c.frq d1 f, d.f f, ?_, x1, x2, ?_, hI_sI_s _ _ _ _, n, hn, ?_⟩
  · rw [hI_sI, if_neg (by decide)]; exact x10
  · rw [hI_sI, if_neg (by decide)]; exact x11
  · rw [hI_sI, if_neg (by omega)]; exact x3
theorem XC.fail {b : Nat → Nat} {L q : Nat} {h : AH} {s : FS} (x : XC b L q h s) (hl : s.2.2.length ≤ 270) {k : Nat} (k1 : 1 ≤ k) (k2 : k < 100) : ∃ h1, f_Reader_fail (nI k) h = some h1 ∧ FrQ q h h1 ∧ DC b L q h1 (er k s.1) := by
  obtain ⟨r, w, d, u, u3, fc⟩ := x
  have d1 := d.1
  unfold er
  by_cases h3 : tC s.1 = 3
  · obtain ⟨r1, r2⟩ := r.2.2.2.2.1 h3
    rw [if_pos h3]
    exact DC.fail (e := (1, tP s.1)) ⟨r.1, d, r1, by show 1 ≤ 1; omega, by show 1 < 100; omega, r2, by rw [r.2.2.2.1, h3]; rfl, _, hl, fc.1⟩ _
  · obtain ⟨r1, r2, -⟩ := r.2.2.2.2.2 h3
    rw [if_neg h3]
    have f : FrQ q h (sI (sI (sI h 1 10 (nI k)) 1 11 (nI (tP s.1))) 1 4 3) := (((FrL.rf _ _ _ h).s (c := 1) (k := 10) (Or.inl ⟨rfl, by omega⟩) (nI k)).s (c := 1) (k := 11) (Or.inl ⟨rfl, by omega⟩) (nI (tP s.1))).s (c := 1) (k := 4) (Or.inl ⟨rfl, by omega⟩) 3
    have v5 : hI (sI h 1 10 (nI k)) 1 5 = nI (tP s.1) := by rw [hI_sI, if_neg (by decide)]; exact r.2.1
    refine ⟨_, by rw [f_Reader_fail, r1, if_neg (fun q => q rfl), lt_e, lt_e, lt_e, v5], f, r.1.frq d1 f, d.f f, ?_, k1, k2, ?_, hI_sI_s _ _ _ _, _, hl, ?_⟩
    · rw [hI_sI, if_neg (by decide), hI_sI, if_neg (by decide), hI_sI_s]
    · rw [hI_sI, if_neg (by decide), hI_sI_s]
    · rw [hI_sI, if_neg (by omega), hI_sI, if_neg (by omega), hI_sI, if_neg (by omega)]; exact fc.1
/-- one more step -/
theorem FC.add {h : AH} {q : Nat} {c : List (Nat × Nat)} {x : Nat × Nat} {a v : Int32} (fc : FC h q (lcT c)) (hl : c.length < 270) (ha : a = enc (nI x.1) (nI x.2)) (hv : x.1 = 0 → v = nI x.2) (h0 : x.1 < 4) : ∃ h1, f_Formula_add q a v h = some h1 ∧ FrL (fun c' k' => (c' = q ∧ k' = 3) ∨ c' = q + 1 ∨ c' = q + 2) (fun _ _ => False) nxR h h1 ∧ FC h1 q (lcT (c ++ [x])) := by
  have e3 : hI h q 3 = nI c.length := fc.1
  have f : FrL (fun c' k' => (c' = q ∧ k' = 3) ∨ c' = q + 1 ∨ c' = q + 2) (fun _ _ => False) nxR h (sI (sI (sI h (q + 1) c.length a) (q + 2) c.length v) q 3 (nI (c.length + 1))) := (((FrL.rf _ _ _ h).s (c := q + 1) (k := c.length) (Or.inr (Or.inl rfl)) a).s (c := q + 2) (k := c.length) (Or.inr (Or.inr rfl)) v).s (c := q) (k := 3) (Or.inl ⟨rfl, rfl⟩) (nI (c.length + 1))
  have w1 : hI (sI h (q + 1) c.length a) q 3 = nI c.length := by rw [hI_sI, if_neg (by omega)]; exact e3
  have w2 : hI (sI (sI h (q + 1) c.length a) (q + 2) c.length v) q 3 = nI c.length := by rw [hI_sI, if_neg (by omega)]; exact w1
  refine ⟨_, by rw [f_Formula_add, e3, if_neg (nI_ge hl (by omega)), gx_n _ hl (by omega), ix_n (by omega), lt_e, w1, gx_n _ hl (by omega), ix_n (by omega), lt_e, w2, nI_1, lt_e], f, ?_, fun k hk => ?_⟩
  · rw [hI_sI_s]
    show _ = nI (c ++ [x]).length
    rw [List.length_append]; rfl
  · have hk' : k < (c ++ [x]).length := hk
    rw [List.length_append] at hk'
    have hk2 : k < c.length + 1 := hk'
    rw [hI_sI, if_neg (by omega), hI_sI, if_neg (by omega), hI_sI, hI_sI, if_neg (show ¬ (q + 2 = q ∧ k = 3) by omega), hI_sI]
    show _ = enc (nI (((c ++ [x])[k]?).getD (0, 0)).1) (nI (((c ++ [x])[k]?).getD (0, 0)).2) ∧ (nI (((c ++ [x])[k]?).getD (0, 0)).1 = 0 → _ = nI (((c ++ [x])[k]?).getD (0, 0)).2)
    by_cases e : k = c.length
    · subst e
      rw [if_pos ⟨rfl, rfl⟩, if_pos ⟨rfl, rfl⟩, List.getElem?_append_right (Nat.le_refl _), Nat.sub_self]
      exact ⟨ha, fun z => hv ((n_inj (show x.1 < 2 ^ 31 by omega) (show 0 < 2 ^ 31 by omega)).mp z)⟩
    · rw [if_neg (fun z => e z.2), if_neg (fun z => e z.2), List.getElem?_append_left (by omega), hI_sI, if_neg (by omega)]
      exact fc.2 k (by show k < c.length; omega)
theorem XC.add {b : Nat → Nat} {L q : Nat} {h : AH} {s : FS} {x : Nat × Nat} {a v : Int32} (r : XC b L q h s) (hl : s.2.2.length < 270) (ha : a = enc (nI x.1) (nI x.2)) (hv : x.1 = 0 → v = nI x.2) (h0 : x.1 < 4) : ∃ h1, f_Formula_add q a v h = some h1 ∧ FrQ q h h1 ∧ XC b L q h1 (s.1, s.2.1, s.2.2 ++ [x]) := by
  obtain ⟨r, w, d, u, u3, fc⟩ := r
  have d1 := d.1
  obtain ⟨h1, e1, f1, fc1⟩ := fc.add hl ha hv h0
  have f2 : FrQ q h h1 := f1.mn (fun c k z => by show _ ∨ (c = q ∧ (k = 3 ∨ k = 4)) ∨ c = q + 1 ∨ c = q + 2; have z' : (c = q ∧ k = 3) ∨ c = q + 1 ∨ c = q + 2 := z; right; omega) (fun _ _ z => z.elim) (fun _ z => z)
  have k1 : ∀ k, hI h1 1 k = hI h 1 k := fun k => f1.2.1 _ _ (by show ¬ ((1 = q ∧ _) ∨ _); omega)
  have k2 : hL h1 1 7 = hL h 1 7 := f1.2.2.1 _ _ (fun z => z)
  refine ⟨h1, e1, f2, ⟨r.1.frq d1 f2, ?_, r.2.2.1, ?_, ?_, ?_⟩, w, d.f f2, ?_, u3, fc1⟩
  · rw [k1]; exact r.2.1
  · rw [k1]; exact r.2.2.2.1
  · rw [k1, k1]; exact r.2.2.2.2.1
  · rw [k1, k1, k1, k1, k2]; exact r.2.2.2.2.2
  · rw [f1.2.1 _ _ (by show ¬ ((q = q ∧ 4 = 3) ∨ _); omega)]; exact u
theorem DC.add {b : Nat → Nat} {L q : Nat} {h : AH} {e : Nat × Nat} (x : DC b L q h e) (a v : Int32) : ∃ h1, f_Formula_add q a v h = some h1 ∧ FrQ q h h1 ∧ DC b L q h1 e := by
  obtain ⟨c, d, x10, x1, x2, x11, x4, n, hn, x3⟩ := x
  have d1 := d.1
  by_cases h270 : n = 270
  · subst h270
    exact ⟨h, by rw [f_Formula_add, x3, if_pos (Int32.le_refl _)], FrL.rf _ _ _ h, c, d, x10, x1, x2, x11, x4, 270, hn, x3⟩
  · have hl : n < 270 := by omega
    have f : FrQ q h (sI (sI (sI h (q + 1) n a) (q + 2) n v) q 3 (nI (n + 1))) := (((FrL.rf _ _ _ h).s (c := q + 1) (k := n) (Or.inr (Or.inr (Or.inl rfl))) a).s (c := q + 2) (k := n) (Or.inr (Or.inr (Or.inr rfl))) v).s (c := q) (k := 3) (Or.inr (Or.inl ⟨rfl, Or.inl rfl⟩)) (nI (n + 1))
    have w1 : hI (sI h (q + 1) n a) q 3 = nI n := by rw [hI_sI, if_neg (by omega)]; exact x3
    have w2 : hI (sI (sI h (q + 1) n a) (q + 2) n v) q 3 = nI n := by rw [hI_sI, if_neg (by omega)]; exact w1
    have k1 : ∀ k, hI (sI (sI (sI h (q + 1) n a) (q + 2) n v) q 3 (nI (n + 1))) 1 k = hI h 1 k := fun k => by rw [hI_sI, if_neg (by omega), hI_sI, if_neg (by omega), hI_sI, if_neg (by omega)]
    refine ⟨_, by rw [f_Formula_add, x3, if_neg (nI_ge hl (by omega)), gx_n _ hl (by omega), ix_n (by omega), lt_e, w1, gx_n _ hl (by omega), ix_n (by omega), lt_e, w2, nI_1, lt_e], f, c.frq d1 f, d.f f, ?_, x1, x2, ?_, ?_, n + 1, by omega, hI_sI_s _ _ _ _⟩
    · rw [k1]; exact x10
    · rw [k1]; exact x11
    · rw [k1]; exact x4
/-- the class does what the descent says -/
def CSm (b : Nat → Nat) (L q : Nat) (X : FS → ER) (F : AH → Option AH) : Prop := (∀ h s, XC b L q h s → Gd s → ∃ h1, F h = some h1 ∧ FrQ q h h1 ∧ match X s with
    | .error e => DC b L q h1 e
    | .ok s' => XC b L q h1 s') ∧ ∀ h e, DC b L q h e → ∃ h1, F h = some h1 ∧ FrQ q h h1 ∧ DC b L q h1 e
theorem Gd.s {w : Nat} {X : FS → ER} {s s' : FS} (p : PQ w X) (g : Gd s) (e : X s = .ok s') : Gd s' ∧ s'.2.2.length + w ≤ 9 * s'.2.1 ∧ 1 ≤ s'.2.1 ∧ ∃ k, runH s'.2.2 0 = some (k + 1) ∧ k + 1 ≤ s'.2.1 ∧ runH s.2.2 0 = some k := by
  obtain ⟨⟨k, g1, g2⟩, g3⟩ := g
  have := p s k g1 g2
  rw [e] at this
  obtain ⟨q1, q2, q3⟩ := this
  exact ⟨⟨⟨k + 1, q1, q2⟩, by omega⟩, by omega, by omega, k, q1, q2, g1⟩
theorem Gd.n {t : LT} {s : FS} (g : Gd s) : Gd (t, s.2.1, s.2.2) := g
theorem Gd.u {t : LT} {s : FS} (g : Gd s) : Gd (t, s.2.1 + 1, s.2.2) := by
  obtain ⟨⟨k, g1, g2⟩, g3⟩ := g
  exact ⟨⟨k, g1, by show k ≤ s.2.1 + 1; omega⟩, by show s.2.2.length ≤ 9 * (s.2.1 + 1); omega⟩
theorem XC.u {b : Nat → Nat} {L q : Nat} {h : AH} {s : FS} (r : XC b L q h s) (hu : s.2.1 < 30) : FrQ q h (sI h q 4 (nI (s.2.1 + 1))) ∧ XC b L q (sI h q 4 (nI (s.2.1 + 1))) (s.1, s.2.1 + 1, s.2.2) := by
  obtain ⟨r, w, d, u, u3, fc⟩ := r
  have d1 := d.1
  have f1 : FrL (fun c k => c = q ∧ k = 4) (fun _ _ => False) nxR h (sI h q 4 (nI (s.2.1 + 1))) := (FrL.rf _ _ _ h).s (c := q) (k := 4) ⟨rfl, rfl⟩ _
  have f2 : FrQ q h (sI h q 4 (nI (s.2.1 + 1))) := f1.mn (fun c k z => Or.inr (Or.inl ⟨z.1, Or.inr z.2⟩)) (fun _ _ z => z.elim) (fun _ z => z)
  have k1 : ∀ k, hI (sI h q 4 (nI (s.2.1 + 1))) 1 k = hI h 1 k := fun k => f1.2.1 _ _ (by show ¬ (1 = q ∧ _); omega)
  have k2 : hL (sI h q 4 (nI (s.2.1 + 1))) 1 7 = hL h 1 7 := rfl
  refine ⟨f2, ⟨r.1.frq d1 f2, ?_, r.2.2.1, ?_, ?_, ?_⟩, w, d.f f2, hI_sI_s _ _ _ _, hu, fc.frl f1 (by show ¬ (q = q ∧ 3 = 4); omega) (fun k => by show ¬ (q + 1 = q ∧ _); omega) (fun k => by show ¬ (q + 2 = q ∧ _); omega)⟩
  · rw [k1]; exact r.2.1
  · rw [k1]; exact r.2.2.2.1
  · rw [k1, k1]; exact r.2.2.2.2.1
  · rw [k1, k1, k1, k1, k2]; exact r.2.2.2.2.2
theorem DC.u {b : Nat → Nat} {L q : Nat} {h : AH} {e : Nat × Nat} (x : DC b L q h e) (v : Int32) : FrQ q h (sI h q 4 v) ∧ DC b L q (sI h q 4 v) e := by
  obtain ⟨c, d, x10, x1, x2, x11, x4, n, hn, x3⟩ := x
  have d1 := d.1
  have f2 : FrQ q h (sI h q 4 v) := (FrL.rf _ _ _ h).s (c := q) (k := 4) (Or.inr (Or.inl ⟨rfl, Or.inr rfl⟩)) v
  refine ⟨f2, c.frq d1 f2, d.f f2, ?_, x1, x2, ?_, ?_, n, hn, ?_⟩
  · rw [hI_sI, if_neg (by omega)]; exact x10
  · rw [hI_sI, if_neg (by omega)]; exact x11
  · rw [hI_sI, if_neg (by omega)]; exact x4
  · rw [hI_sI, if_neg (by omega)]; exact x3
theorem tk_eq {c k : Nat} (hc : c < 300) (hk : k < 300) : nI c = nI k ↔ c = k := n_inj (by omega) (by omega)
theorem need_ok {b : Nat → Nat} {L q : Nat} {h : AH} {s : FS} (r : XC b L q h s) (hl : s.2.2.length ≤ 270) {k : Nat} (hk : k < 300) (k3 : ¬ k = 3) : ∃ h1, f_Reader_need (nI k) h = some h1 ∧ FrQ q h h1 ∧ if tC s.1 = k then XC b L q h1 (nxl b L s.1, s.2.1, s.2.2) else DC b L q h1 (er 2 s.1) := by
  obtain ⟨t1, t2⟩ := r.tok
  rw [f_Reader_need, t1]
  by_cases e : tC s.1 = k
  · rw [if_neg (by rw [e]; exact fun z => z rfl)]
    obtain ⟨h1, e1, f1, x1⟩ := r.next (by rw [e]; exact k3)
    exact ⟨h1, by rw [e1, bV_s], f1, by rw [if_pos e]; exact x1⟩
  · rw [if_pos (fun z => e ((tk_eq t2 hk).mp z))]
    obtain ⟨h1, e1, f1, x1⟩ := r.fail hl (k := 2) (by omega) (by omega)
    exact ⟨h1, by rw [show (2 : Int32) = nI 2 from rfl, e1, bV_s], f1, by rw [if_neg e]; exact x1⟩
theorem DC.need {b : Nat → Nat} {L q : Nat} {h : AH} {e : Nat × Nat} (x : DC b L q h e) {k : Nat} (hk : k < 300) (k3 : ¬ k = 3) : ∃ h1, f_Reader_need (nI k) h = some h1 ∧ FrQ q h h1 ∧ DC b L q h1 e := by
  have x4 := x.2.2.2.2.2.2.1
  obtain ⟨h1, e1, f1, x1⟩ := x.fail 2
  exact ⟨h1, by rw [f_Reader_need, x4, if_pos (show ¬ (3 : Int32) = nI k from fun z => k3 ((tk_eq (c := 3) (by omega) hk).mp z).symm), e1, bV_s], f1, x1⟩
theorem inner_ok {b : Nat → Nat} {L q d : Nat} {rE : Int32 → AH → Option AH} {X : FS → ER} (hd : d ≤ 7) {w : Nat} (p : d ≤ 6 → PQ w X) (hE : d ≤ 6 → CSm b L q X (fun h => rE (nI (d + 1)) h)) : (∀ h s, XC b L q h s → tC s.1 = 40 → Gd s → ∃ h1, f_Reader_readInner rE (nI d) h = some h1 ∧ FrQ q h h1 ∧ match (if 6 < d then .error (er 2 s.1) else match X (nxl b L s.1, s.2.1, s.2.2) with
      | .error e => .error e
      | .ok s' => if tC s'.1 = 41 then .ok (nxl b L s'.1, s'.2.1, s'.2.2) else .error (er 2 s'.1) : ER) with
    | .error e => DC b L q h1 e
    | .ok s' => XC b L q h1 s') := by
  intro h s r h40 g
  have gl := g.2
  have u3 := r.2.2.2.2.1
  rw [f_Reader_readInner]
  by_cases h6 : 6 < d
  · rw [if_neg (show ¬ nI d ≤ (6 : Int32) from nI_ge (a := 6) h6 (by omega))]
    obtain ⟨h1, e1, f1, x1⟩ := r.fail (by omega) (k := 2) (by omega) (by omega)
    exact ⟨h1, by rw [show (2 : Int32) = nI 2 from rfl, e1, bV_s], f1, by rw [if_pos h6]; exact x1⟩
  · rw [if_pos (show nI d ≤ 6 from nI_le (b := 6) (by omega) (by omega)), if_neg h6]
    obtain ⟨h1, e1, f1, x1⟩ := r.next (by rw [h40]; omega)
    obtain ⟨h2, e2, f2, x2⟩ := (hE (by omega)).1 h1 _ x1 g.n
    have e2' : rE (nI (d + 1)) h1 = some h2 := e2
    rw [e1, bV_s, nI_1, e2', bV_s]
    cases hr : X (nxl b L s.1, s.2.1, s.2.2) with
    | error e =>
      rw [hr] at x2
      obtain ⟨h3, e3, f3, x3⟩ := x2.need (k := 41) (by omega) (by omega)
      exact ⟨h3, by rw [show (41 : Int32) = nI 41 from rfl, e3, bV_s], (f1.t f2).t f3, x3⟩
    | ok s2 =>
      rw [hr] at x2
      have gs := Gd.s (p (by omega)) g.n hr
      have u32 := x2.2.2.2.2.1
      obtain ⟨h3, e3, f3, x3⟩ := need_ok x2 (by have := gs.1.2; omega) (k := 41) (by omega) (by omega)
      refine ⟨h3, by rw [show (41 : Int32) = nI 41 from rfl, e3, bV_s], (f1.t f2).t f3, ?_⟩
      show match (if tC s2.1 = 41 then .ok (nxl b L s2.1, s2.2.1, s2.2.2) else .error (er 2 s2.1) : ER) with | .error e => _ | .ok s' => _
      by_cases h41 : tC s2.1 = 41
      · rw [if_pos h41] at x3 ⊢; exact x3
      · rw [if_neg h41] at x3 ⊢; exact x3
theorem askT_c {c : Nat} (h : ¬ askT c = 0) : ¬ c = 1 ∧ ¬ c = 40 ∧ ¬ c = 3 ∧ (c = 259 ∨ c = 260 ∨ c = 265 ∨ c = 272 ∨ c = 273 ∨ c = 274) := by
  unfold askT at h
  repeat' split at h
  all_goals omega
theorem unit_c {b : Nat → Nat} {L q d : Nat} {rE : Int32 → AH → Option AH} {X : FS → ER} (hd : d ≤ 7) {w : Nat} (p : d ≤ 6 → PQ w X) (hE : d ≤ 6 → CSm b L q X (fun h => rE (nI (d + 1)) h)) : CSm b L q (unitR (nxl b L) X d) (f_Reader_readUnit rE (nI d)) := by
  refine ⟨fun h s r g => ?_, fun h e x => ?_⟩
  · have gl := g.2
    obtain ⟨t1, t2⟩ := r.tok
    have u3 := r.2.2.2.2.1
    have uv := r.2.2.2.1
    rw [f_Reader_readUnit, gd_ok _ r.2.2.1.2.1 r.2.2.1.2.2, uv]
    unfold unitR
    by_cases hu : 30 ≤ s.2.1
    · rw [if_neg (show ¬ nI s.2.1 < (30 : Int32) from n_nlt (b := 30) hu (by omega)), if_pos hu]
      obtain ⟨h1, e1, f1, x1⟩ := r.fail (by omega) (k := 2) (by omega) (by omega)
      exact ⟨h1, by rw [show (2 : Int32) = nI 2 from rfl, e1, bV_s], f1, x1⟩
    · rw [if_pos (show nI s.2.1 < (30 : Int32) from n_lt (b := 30) (by omega) (by omega)), if_neg hu, gd_ok _ r.2.2.1.2.1 r.2.2.1.2.2, lt_e, uv, nI_1]
      obtain ⟨f0, x0⟩ := r.u (by omega)
      generalize sI h q 4 (nI (s.2.1 + 1)) = h0 at f0 x0 ⊢
      have t1' : hI h0 1 4 = nI (tC s.1) := x0.tok.1
      rw [t1', gd_ok _ x0.2.2.1.2.1 x0.2.2.1.2.2]
      have leaf : ∀ (x : Nat × Nat) (a : Nat), tC s.1 = a → ¬ a = 3 → nI a = enc (nI x.1) (nI x.2) → (x.1 = 0 → hI h0 1 6 = nI x.2) → x.1 < 4 → ∃ h1, (bV (f_Formula_add q (nI a) (hI h0 1 6) h0) fun hq6 => bV (f_Reader_next hq6) fun hq7 => some hq7) = some h1 ∧ FrQ q h h1 ∧ XC b L q h1 (nxl b L s.1, s.2.1 + 1, s.2.2 ++ [x]) := fun x a ha a3 h1 h2 h3 => by
        obtain ⟨h4, e4, f4, x4⟩ := x0.add (x := x) (by show s.2.2.length < 270; omega) h1 h2 h3
        obtain ⟨h5, e5, f5, x5⟩ := x4.next (by show ¬ tC s.1 = 3; omega)
        exact ⟨h5, by rw [e4, bV_s, e5, bV_s], (f0.t f4).t f5, x5⟩
      by_cases c1 : tC s.1 = 1
      · rw [if_pos (show nI (tC s.1) = (1 : Int32) by rw [c1]; rfl), if_pos c1]
        have n6 := (x0.1.2.2.2.2.2 (by show ¬ tC s.1 = 3; omega)).2.2.2.2.1 c1
        obtain ⟨h1, e1, f1, x1⟩ := leaf (0, tN s.1) 1 c1 (by omega) (by show nI 1 = enc (nI 0) (nI (tN s.1)); unfold enc; rw [if_pos (show nI 0 = 0 from rfl)]; rfl) (fun _ => n6) (by show 0 < 4; omega)
        exact ⟨h1, by rw [c1]; exact e1, f1, x1⟩
      · rw [if_neg (show ¬ nI (tC s.1) = (1 : Int32) from fun z => c1 ((tk_eq (k := 1) t2 (by omega)).mp z)), if_neg c1]
        by_cases ca : askT (tC s.1) = 0
        · rw [if_neg (show ¬ ¬ askT (tC s.1) = 0 from fun z => z ca)]
          have nk : ∀ k, k < 300 → ¬ askT k = 0 → ¬ nI (tC s.1) = nI k := fun k hk ha z => by
            rw [(tk_eq t2 hk).mp z] at ca; exact ha ca
          by_cases c40 : tC s.1 = 40
          · rw [if_pos (show nI (tC s.1) = (40 : Int32) by rw [c40]; rfl), if_pos c40]
            obtain ⟨h1, e1, f1, x1⟩ := inner_ok (rE := rE) hd p hE h0 _ x0 c40 g.u
            exact ⟨h1, by rw [e1, bV_s], f0.t f1, x1⟩
          · rw [if_neg (show ¬ nI (tC s.1) = (40 : Int32) from fun z => c40 ((tk_eq (k := 40) t2 (by omega)).mp z)), if_neg c40, if_neg (show ¬ nI (tC s.1) = (259 : Int32) from nk 259 (by omega) (by decide)), if_neg (show ¬ nI (tC s.1) = (260 : Int32) from nk 260 (by omega) (by decide)), if_neg (show ¬ nI (tC s.1) = (265 : Int32) from nk 265 (by omega) (by decide)), if_neg (show ¬ nI (tC s.1) = (272 : Int32) from nk 272 (by omega) (by decide)), if_neg (show ¬ nI (tC s.1) = (273 : Int32) from nk 273 (by omega) (by decide)), if_neg (show ¬ nI (tC s.1) = (274 : Int32) from nk 274 (by omega) (by decide))]
            obtain ⟨h1, e1, f1, x1⟩ := x0.fail (by show s.2.2.length ≤ 270; omega) (k := 2) (by omega) (by omega)
            exact ⟨h1, by rw [show (2 : Int32) = nI 2 from rfl, e1, bV_s], f0.t f1, x1⟩
        · rw [if_pos (show ¬ askT (tC s.1) = 0 from ca)]
          obtain ⟨-, c40, -, cc⟩ := askT_c ca
          rw [if_neg (show ¬ nI (tC s.1) = (40 : Int32) from fun z => c40 ((tk_eq (k := 40) t2 (by omega)).mp z))]
          rcases cc with e | e | e | e | e | e <;> rw [e]
          · exact leaf (1, 1) 259 e (by omega) (by decide) (fun z => absurd z (by decide)) (by decide)
          · exact leaf (1, 2) 260 e (by omega) (by decide) (fun z => absurd z (by decide)) (by decide)
          · exact leaf (1, 0) 265 e (by omega) (by decide) (fun z => absurd z (by decide)) (by decide)
          · exact leaf (1, 3) 272 e (by omega) (by decide) (fun z => absurd z (by decide)) (by decide)
          · exact leaf (1, 4) 273 e (by omega) (by decide) (fun z => absurd z (by decide)) (by decide)
          · exact leaf (1, 5) 274 e (by omega) (by decide) (fun z => absurd z (by decide)) (by decide)
  · rw [f_Reader_readUnit, gd_ok _ x.2.1.2.1 x.2.1.2.2]
    by_cases hu : hI h q 4 < 30
    · rw [if_pos hu, gd_ok _ x.2.1.2.1 x.2.1.2.2, lt_e]
      obtain ⟨f0, x0⟩ := x.u (hI h q 4 + 1)
      generalize sI h q 4 (hI h q 4 + 1) = h0 at f0 x0 ⊢
      rw [x0.2.2.2.2.2.2.1, if_neg (by decide), if_neg (by decide), if_neg (by decide), if_neg (by decide), if_neg (by decide), if_neg (by decide), if_neg (by decide), if_neg (by decide)]
      obtain ⟨h1, e1, f1, x1⟩ := x0.fail 2
      exact ⟨h1, by rw [e1, bV_s], f0.t f1, x1⟩
    · rw [if_neg hu]
      obtain ⟨h1, e1, f1, x1⟩ := x.fail 2
      exact ⟨h1, by rw [e1, bV_s], f1, x1⟩
