/-! ===== the reference's line ===== -/
abbrev lvC : Nat → Nat → Prop := fun c k => (c = 383 ∧ (k = 2 ∨ k = 3 ∨ k = 4 ∨ (6 ≤ k ∧ k ≤ 8) ∨ (20 ≤ k ∧ k ≤ 22) ∨ k = 24 ∨ k = 25 ∨ (36 ≤ k ∧ k ≤ 41) ∨ (47 ≤ k ∧ k ≤ 49))) ∨ (386 ≤ c ∧ c ≤ 388) ∨ c = 392 ∨ c = 394 ∨ (396 ≤ c ∧ c ≤ 401)
abbrev lvD : Nat → Nat → Prop := fun c k => (c = 383 ∧ k = 9) ∨ c = 385
abbrev FrV (h h1 : AH) : Prop := FrL lvC lvD nxR h h1
theorem FrL.v {h h1 : AH} (f : FrW h h1) : FrV h h1 := f.mn (fun c k z => by (try dsimp only [frW, tkC] at z); dsimp only [lvC]; omega) (fun c k z => by (try dsimp only [tkD] at z); dsimp only [lvD]; omega) (fun _ z => z)
def fB (b : Bool) : Int32 := if b = true then 1 else 0
def NK (h : AH) (l : List (List Nat)) : Prop := NR h 0 l ∧ hI h 383 36 = nI l.length
def ND (h : AH) (l : List (List Nat)) : Prop := NR h 3 l ∧ hI h 383 37 = nI l.length
def NV (h : AH) (n : Nat) (v : Nat → Nat → Nat) : Prop := ∀ k j, k < n → j < 6 → hI h (396 + j) k = nI (v k j)
def NF (h : AH) (w : Nat) (c : List (Nat × Nat)) : Prop := hI h 388 w = nI c.length ∧ ∀ k, k < c.length → hI h 386 (320 * w + k) = nI ((c[k]?).getD (0, 0)).1 ∧ hI h 387 (320 * w + k) = nI ((c[k]?).getD (0, 0)).2
def NU (h : AH) (u : Nat) : Prop := hI h 383 22 = nI u
def NS (h : AH) (a b c d : Nat) : Prop := hI h 383 38 = nI a ∧ hI h 383 39 = nI b ∧ hI h 383 40 = nI c ∧ hI h 383 41 = nI d
def NB (h : AH) (s : Nat) : Prop := hI h 394 0 = fB (s.testBit 0) ∧ hI h 394 1 = fB (s.testBit 1) ∧ hI h 383 47 = fB (s.testBit 2) ∧ hI h 383 48 = fB (s.testBit 3) ∧ hI h 383 49 = fB (s.testBit 4)
def DfM (h : AH) (D : DR) : Prop := NK h D.kn ∧ ND h D.dn ∧ NV h D.dn.length D.dv ∧ (D.se.testBit 0 = true → NF h 0 D.ch.2) ∧ (D.se.testBit 1 = true → NF h 1 D.he.2) ∧ NU h (D.ch.1 + D.he.1) ∧ NS h D.n1 D.n2 D.n3 D.n4 ∧ NB h D.se
section
variable {C D : Nat → Nat → Prop} {R : Nat → Prop} {h h1 : AH}
theorem NR.f {off : Nat} {l : List (List Nat)} (n : NR h off l) (f : FrL C D R h h1) (a : ∀ k, k < l.length → ¬ D 385 (off + k)) : NR h1 off l := ⟨n.1, n.2.1, fun k hk => by rw [f.2.2.1 _ _ (a k hk)]; exact n.2.2 k hk⟩
theorem NK.f {l : List (List Nat)} (p : NK h l) (f : FrL C D R h h1) (a : ¬ C 383 36) (b : ∀ k, k < l.length → ¬ D 385 (0 + k)) : NK h1 l := ⟨p.1.f f b, by rw [f.2.1 _ _ a]; exact p.2⟩
theorem ND.f {l : List (List Nat)} (p : ND h l) (f : FrL C D R h h1) (a : ¬ C 383 37) (b : ∀ k, k < l.length → ¬ D 385 (3 + k)) : ND h1 l := ⟨p.1.f f b, by rw [f.2.1 _ _ a]; exact p.2⟩
theorem NV.f {n : Nat} {v : Nat → Nat → Nat} (p : NV h n v) (f : FrL C D R h h1) (a : ∀ k j, k < n → j < 6 → ¬ C (396 + j) k) : NV h1 n v := fun k j hk hj => by rw [f.2.1 _ _ (a k j hk hj)]; exact p k j hk hj
theorem NF.f {w : Nat} {c : List (Nat × Nat)} (p : NF h w c) (f : FrL C D R h h1) (a : ¬ C 388 w) (a6 : ∀ k, k < c.length → ¬ C 386 (320 * w + k)) (a7 : ∀ k, k < c.length → ¬ C 387 (320 * w + k)) : NF h1 w c := ⟨by rw [f.2.1 _ _ a]; exact p.1, fun k hk => ⟨by rw [f.2.1 _ _ (a6 k hk)]; exact (p.2 k hk).1, by rw [f.2.1 _ _ (a7 k hk)]; exact (p.2 k hk).2⟩⟩
theorem NU.f {u : Nat} (p : NU h u) (f : FrL C D R h h1) (a : ¬ C 383 22) : NU h1 u := by unfold NU; rw [f.2.1 _ _ a]; exact p
theorem NS.f {a b c d : Nat} (p : NS h a b c d) (f : FrL C D R h h1) (a2 : ¬ C 383 38) (a3 : ¬ C 383 39) (a4 : ¬ C 383 40) (a5 : ¬ C 383 41) : NS h1 a b c d := ⟨by rw [f.2.1 _ _ a2]; exact p.1, by rw [f.2.1 _ _ a3]; exact p.2.1, by rw [f.2.1 _ _ a4]; exact p.2.2.1, by rw [f.2.1 _ _ a5]; exact p.2.2.2⟩
theorem NB.f {s : Nat} (p : NB h s) (f : FrL C D R h h1) (a0 : ¬ C 394 0) (a1 : ¬ C 394 1) (a2 : ¬ C 383 47) (a3 : ¬ C 383 48) (a4 : ¬ C 383 49) : NB h1 s := ⟨by rw [f.2.1 _ _ a0]; exact p.1, by rw [f.2.1 _ _ a1]; exact p.2.1, by rw [f.2.1 _ _ a2]; exact p.2.2.1, by rw [f.2.1 _ _ a3]; exact p.2.2.2.1, by rw [f.2.1 _ _ a4]; exact p.2.2.2.2⟩
end
theorem DfM.w {h h1 : AH} {D : DR} (d : DfM h D) (f : FrW h h1) : DfM h1 D := by
  obtain ⟨d1, d2, d3, d4, d5, d6, d7, d8⟩ := d
  exact ⟨d1.f f (fun z => by (try dsimp only [frW, tkC, tkD, frND, frG, frC, dlM, nxR, lvC, lvD] at z); omega) (fun k hk z => by (try dsimp only [frW, tkC, tkD, frND, frG, frC, dlM, nxR, lvC, lvD] at z); omega), d2.f f (fun z => by (try dsimp only [frW, tkC, tkD, frND, frG, frC, dlM, nxR, lvC, lvD] at z); omega) (fun k hk z => by (try dsimp only [frW, tkC, tkD, frND, frG, frC, dlM, nxR, lvC, lvD] at z); omega), d3.f f (fun k j hk hj z => by (try dsimp only [frW, tkC, tkD, frND, frG, frC, dlM, nxR, lvC, lvD] at z); omega), fun z => (d4 z).f f (fun z => by (try dsimp only [frW, tkC, tkD, frND, frG, frC, dlM, nxR, lvC, lvD] at z); omega) (fun k hk z => by (try dsimp only [frW, tkC, tkD, frND, frG, frC, dlM, nxR, lvC, lvD] at z); omega) (fun k hk z => by (try dsimp only [frW, tkC, tkD, frND, frG, frC, dlM, nxR, lvC, lvD] at z); omega), fun z => (d5 z).f f (fun z => by (try dsimp only [frW, tkC, tkD, frND, frG, frC, dlM, nxR, lvC, lvD] at z); omega) (fun k hk z => by (try dsimp only [frW, tkC, tkD, frND, frG, frC, dlM, nxR, lvC, lvD] at z); omega) (fun k hk z => by (try dsimp only [frW, tkC, tkD, frND, frG, frC, dlM, nxR, lvC, lvD] at z); omega), d6.f f (fun z => by (try dsimp only [frW, tkC, tkD, frND, frG, frC, dlM, nxR, lvC, lvD] at z); omega), d7.f f (fun z => by (try dsimp only [frW, tkC, tkD, frND, frG, frC, dlM, nxR, lvC, lvD] at z); omega) (fun z => by (try dsimp only [frW, tkC, tkD, frND, frG, frC, dlM, nxR, lvC, lvD] at z); omega) (fun z => by (try dsimp only [frW, tkC, tkD, frND, frG, frC, dlM, nxR, lvC, lvD] at z); omega) (fun z => by (try dsimp only [frW, tkC, tkD, frND, frG, frC, dlM, nxR, lvC, lvD] at z); omega), d8.f f (fun z => by (try dsimp only [frW, tkC, tkD, frND, frG, frC, dlM, nxR, lvC, lvD] at z); omega) (fun z => by (try dsimp only [frW, tkC, tkD, frND, frG, frC, dlM, nxR, lvC, lvD] at z); omega) (fun z => by (try dsimp only [frW, tkC, tkD, frND, frG, frC, dlM, nxR, lvC, lvD] at z); omega) (fun z => by (try dsimp only [frW, tkC, tkD, frND, frG, frC, dlM, nxR, lvC, lvD] at z); omega) (fun z => by (try dsimp only [frW, tkC, tkD, frND, frG, frC, dlM, nxR, lvC, lvD] at z); omega)⟩
/-- after a line -/
def LN (b : Nat → Nat) (L : Nat) (h : AH) (x : Except (Nat × Nat) (LT × DR)) : Prop := match x with
  | .ok p => YT1 b L h p.1 ∧ DfM h p.2
  | .error e => DJ b L h e
theorem thM {b : Nat → Nat} {L : Nat} {h : AH} {x : Except (Nat × Nat) LT} {D : DR} (c : MT1 b L h x) (d : (∃ t', x = .ok t') → DfM h D) : LN b L h (thD x D) := by
  cases x with
  | ok t => exact ⟨c, d ⟨t, rfl⟩⟩
  | error e => exact c
def lr6 (b : Nat → Nat) (L : Nat) (D : DR) (t : LT) : Except (Nat × Nat) (LT × DR) := if tC t = 268 ∧ D.se.testBit 4 = false then thD (needR b L 59 (numR b L 0 999 (.ok (nxl b L t)))) (D.kn, D.dn, D.dv, D.ch, D.he, D.n1, D.n2, D.n3, (numV 0 999 (.ok (nxl b L t))), (D.se ||| 16)) else .error (er 2 t)
def lr5 (b : Nat → Nat) (L : Nat) (D : DR) (t : LT) : Except (Nat × Nat) (LT × DR) := if tC t = 267 ∧ D.se.testBit 3 = false then thD (needR b L 59 (numR b L 1 9 (.ok (nxl b L t)))) (D.kn, D.dn, D.dv, D.ch, D.he, D.n1, D.n2, (numV 1 9 (.ok (nxl b L t))), D.n4, (D.se ||| 8)) else lr6 b L D t
def lr4 (b : Nat → Nat) (L : Nat) (D : DR) (t : LT) : Except (Nat × Nat) (LT × DR) := if tC t = 266 ∧ D.se.testBit 2 = false then thD (needR b L 59 (snapR b L (.ok (nxl b L t)))) (D.kn, D.dn, D.dv, D.ch, D.he, (numV 0 100 (.ok (nxl b L t))), (numV 1 20 (needR b L 258 (numR b L 0 100 (.ok (nxl b L t))))), D.n3, D.n4, (D.se ||| 4)) else lr5 b L D t
def lr3 (b : Nat → Nat) (L : Nat) (D : DR) (t : LT) : Except (Nat × Nat) (LT × DR) := if tC t = 265 ∧ D.se.testBit 1 = false then fmR b L (nxl b L t) (fun f => (D.kn, D.dn, D.dv, D.ch, f, D.n1, D.n2, D.n3, D.n4, (D.se ||| 2))) else lr4 b L D t
def lr2 (b : Nat → Nat) (L : Nat) (D : DR) (t : LT) : Except (Nat × Nat) (LT × DR) := if tC t = 264 ∧ D.se.testBit 0 = false then fmR b L (nxl b L t) (fun f => (D.kn, D.dn, D.dv, f, D.he, D.n1, D.n2, D.n3, D.n4, (D.se ||| 1))) else lr3 b L D t
def lr1 (b : Nat → Nat) (L : Nat) (D : DR) (t : LT) : Except (Nat × Nat) (LT × DR) := if tC t = 257 ∧ D.dn.length < 6 then thD (needR b L 59 (dl7 b L D.kn D.dn (nxl b L t))) (D.kn, (D.dn ++ [tW (nxl b L t)]), (dvN b L D (nxl b L t)), D.ch, D.he, D.n1, D.n2, D.n3, D.n4, D.se) else lr2 b L D t
theorem lr_e (b : Nat → Nat) (L : Nat) (D : DR) (t : LT) : lineR b L D t = if tC t = 256 ∧ D.kn.length < 3 then thD (needR b L 59 (newR b L D.kn (nxl b L t))) ((D.kn ++ [tW (nxl b L t)]), D.dn, D.dv, D.ch, D.he, D.n1, D.n2, D.n3, D.n4, D.se) else lr1 b L D t := rfl
theorem stM {b : Nat → Nat} {L : Nat} {h : AH} {t : LT} (r : YT1 b L h t) {j : Nat} (hj : j < 19) {a : Int64} {l : List Nat} (hl : kwl[j]? = some l) (ha : a = Int64.ofNat (c8 l)) (P : AH → Prop) [∀ h, Decidable (P h)] (B K : AH → Option AH) : (bI (f_M_isWord a h) fun rq hq => if rq = 0 then B hq else if P hq then B hq else K hq) = if tC t = 256 + j ∧ ¬ P h then K h else B h := by
  rw [isWord_ok r.1 r.2.1.1 r.2.1.2 hj hl ha, bI_s]
  by_cases c : tC t = 256 + j
  · rw [if_pos c, if_neg (show ¬ (1 : Int32) = 0 by decide)]
    by_cases p : P h
    · rw [if_pos p, if_neg (fun z => z.2 p)]
    · rw [if_neg p, if_pos ⟨c, p⟩]
  · rw [if_neg c, if_pos rfl, if_neg (fun z => c z.1)]
theorem fB_0 (b : Bool) : ¬ ¬ fB b = 0 ↔ b = false := by cases b <;> decide
theorem b237M {b : Nat → Nat} {L : Nat} {h : AH} {t : LT} (x : YT1 b L h t) : ∃ h1, f_M_readLine_b237 h = some h1 ∧ FrV h h1 ∧ DJ b L h1 (er 2 t) := by
  obtain ⟨h1, e1, f1, x1, -⟩ := x.wrong (j := 2) (by omega) (by omega)
  have e1' : f_M_wrong 2 h = some h1 := e1
  exact ⟨h1, by rw [f_M_readLine_b237, e1', bV_s, f_M_readLine_b242, if_pos x1.v.1, f_M_readLine_b263, if_pos x1.v.1], f1.v, x1⟩
theorem NB.s {h : AH} {s j k : Nat} (hs : s < 32) (n : NB h s) (hj : (j = 2 ∧ k = 47) ∨ (j = 3 ∧ k = 48) ∨ (j = 4 ∧ k = 49)) : NB (sI h 383 k 1) (s ||| 2 ^ j) := by
  obtain ⟨n0, n1, n2, n3, n4⟩ := n
  obtain ⟨-, w⟩ := se_w (S := s) (j := j) hs (by omega)
  rcases hj with ⟨rfl, rfl⟩ | ⟨rfl, rfl⟩ | ⟨rfl, rfl⟩
  · refine ⟨?_, ?_, ?_, ?_, ?_⟩
    · rw [hI_sI, if_neg (by omega), w 0 (by omega), n0]; congr 1; simp
    · rw [hI_sI, if_neg (by omega), w 1 (by omega), n1]; congr 1; simp
    · rw [hI_sI_s, w 2 (by omega)]; simp [fB]
    · rw [hI_sI, if_neg (by omega), w 3 (by omega), n3]; congr 1; simp
    · rw [hI_sI, if_neg (by omega), w 4 (by omega), n4]; congr 1; simp
  · refine ⟨?_, ?_, ?_, ?_, ?_⟩
    · rw [hI_sI, if_neg (by omega), w 0 (by omega), n0]; congr 1; simp
    · rw [hI_sI, if_neg (by omega), w 1 (by omega), n1]; congr 1; simp
    · rw [hI_sI, if_neg (by omega), w 2 (by omega), n2]; congr 1; simp
    · rw [hI_sI_s, w 3 (by omega)]; simp [fB]
    · rw [hI_sI, if_neg (by omega), w 4 (by omega), n4]; congr 1; simp
  · refine ⟨?_, ?_, ?_, ?_, ?_⟩
    · rw [hI_sI, if_neg (by omega), w 0 (by omega), n0]; congr 1; simp
    · rw [hI_sI, if_neg (by omega), w 1 (by omega), n1]; congr 1; simp
    · rw [hI_sI, if_neg (by omega), w 2 (by omega), n2]; congr 1; simp
    · rw [hI_sI, if_neg (by omega), w 3 (by omega), n3]; congr 1; simp
    · rw [hI_sI_s, w 4 (by omega)]; simp [fB]
theorem DfM.s {h : AH} {D : DR} {j k : Nat} (g3 : D.se < 32) (d : DfM h D) (hj : (j = 2 ∧ k = 47) ∨ (j = 3 ∧ k = 48) ∨ (j = 4 ∧ k = 49)) : DfM (sI h 383 k 1) (D.kn, D.dn, D.dv, D.ch, D.he, D.n1, D.n2, D.n3, D.n4, (D.se ||| 2 ^ j)) ∧ FrV h (sI h 383 k 1) := by
  obtain ⟨d1, d2, d3, d4, d5, d6, d7, d8⟩ := d
  have f : FrL (fun c i => c = 383 ∧ i = k) (fun _ _ => False) nxR h (sI h 383 k 1) := (FrL.rf _ _ _ h).s (c := 383) (k := k) ⟨rfl, rfl⟩ _
  obtain ⟨-, w⟩ := se_w (S := D.se) (j := j) g3 (by omega)
  refine ⟨⟨d1.f f (fun z => by (try dsimp only [frW, tkC, tkD, frND, frG, frC, dlM, nxR, lvC, lvD] at z); omega) (fun _ _ z => z), d2.f f (fun z => by (try dsimp only [frW, tkC, tkD, frND, frG, frC, dlM, nxR, lvC, lvD] at z); omega) (fun _ _ z => z), d3.f f (fun k j hk hj z => by (try dsimp only [frW, tkC, tkD, frND, frG, frC, dlM, nxR, lvC, lvD] at z); omega), fun z => (d4 ?_).f f (fun z => by (try dsimp only [frW, tkC, tkD, frND, frG, frC, dlM, nxR, lvC, lvD] at z); omega) (fun k hk z => by (try dsimp only [frW, tkC, tkD, frND, frG, frC, dlM, nxR, lvC, lvD] at z); omega) (fun k hk z => by (try dsimp only [frW, tkC, tkD, frND, frG, frC, dlM, nxR, lvC, lvD] at z); omega), fun z => (d5 ?_).f f (fun z => by (try dsimp only [frW, tkC, tkD, frND, frG, frC, dlM, nxR, lvC, lvD] at z); omega) (fun k hk z => by (try dsimp only [frW, tkC, tkD, frND, frG, frC, dlM, nxR, lvC, lvD] at z); omega) (fun k hk z => by (try dsimp only [frW, tkC, tkD, frND, frG, frC, dlM, nxR, lvC, lvD] at z); omega), d6.f f (fun z => by (try dsimp only [frW, tkC, tkD, frND, frG, frC, dlM, nxR, lvC, lvD] at z); omega), d7.f f (fun z => by (try dsimp only [frW, tkC, tkD, frND, frG, frC, dlM, nxR, lvC, lvD] at z); omega) (fun z => by (try dsimp only [frW, tkC, tkD, frND, frG, frC, dlM, nxR, lvC, lvD] at z); omega) (fun z => by (try dsimp only [frW, tkC, tkD, frND, frG, frC, dlM, nxR, lvC, lvD] at z); omega) (fun z => by (try dsimp only [frW, tkC, tkD, frND, frG, frC, dlM, nxR, lvC, lvD] at z); omega), d8.s g3 hj⟩, f.mn (fun c i z => by (try dsimp only at z); dsimp only [lvC]; omega) (fun _ _ z => absurd z id) (fun _ z => z)⟩
  · have z' : (D.se ||| 2 ^ j).testBit 0 = true := z
    rw [w 0 (by omega), show decide (0 = j) = false from decide_eq_false (by omega), Bool.or_false] at z'; exact z'
  · have z' : (D.se ||| 2 ^ j).testBit 1 = true := z
    rw [w 1 (by omega), show decide (1 = j) = false from decide_eq_false (by omega), Bool.or_false] at z'; exact z'
theorem b197M {b : Nat → Nat} {L : Nat} {h : AH} {t : LT} {D : DR} (x : YT1 b L h t) (d : DfM h D) (g : DG D) : ∃ h1, f_M_readLine_b197 h = some h1 ∧ FrV h h1 ∧ LN b L h1 (lr6 b L D t) := by
  have v := d.2.2.2.2.2.2.2.2.2.2.2
  unfold lr6
  rw [f_M_readLine_b197, stM x (j := 12) (l := [100, 114, 97, 119]) (by omega) rfl (by decide) (fun h => ¬ hI h 383 49 = 0) f_M_readLine_b237 (fun hq2 => lt (sI hq2 383 49 (1 : Int32)) fun hq3 => bI (f_M_told (1685217655 : Int64) (0 : Int32) (999 : Int32) hq3) fun rq4 hq5 => lt (sI hq5 383 41 rq4) fun hq6 => f_M_readLine_b242 hq6)]
  by_cases c : tC t = 268 ∧ D.se.testBit 4 = false
  · rw [if_pos (show tC t = 256 + 12 ∧ ¬ ¬ hI h 383 49 = 0 from ⟨c.1, by rw [v]; exact (fB_0 _).mpr c.2⟩), if_pos c, lt_e]
    obtain ⟨d0, f0⟩ := d.s (j := 4) (k := 49) g.2.2.1 (by omega)
    have x0 : YT1 b L (sI h 383 49 1) t := MT1.s (x := .ok t) x (by omega) (by omega) 1
    generalize sI h 383 49 1 = h0 at d0 f0 x0
    obtain ⟨h1, e1, f1, c1, w1⟩ := oneM (k := 41) (lo := 0) (hi := 999) (j := 12) (a := 1685217655) (l := [100, 114, 97, 119]) x0 c.1 (by omega) rfl (by decide) (by omega) (by omega) (by omega) (fun h => f_M_readLine_b242 h)
    obtain ⟨h2, e2, f2, c2⟩ := semiM c1
    have f1' : FrV h0 h1 := f1.mn (fun c k z => by (try dsimp only [frW, tkC, tkD, frND, frG, frC, dlM, nxR, lvC, lvD] at z); dsimp only [lvC]; omega) (fun c k z => by (try dsimp only [frW, tkC, tkD, frND, frG, frC, dlM, nxR, lvC, lvD] at z); dsimp only [lvD]; omega) (fun _ z => z)
    refine ⟨h2, by rw [← e2]; exact e1, (f0.t f1').t f2.v, thM c2 (fun ok => ?_)⟩
    obtain ⟨d1, d2, d3, d4, d5, d6, d7, d8⟩ := d0
    exact DfM.w (D := (D.kn, D.dn, D.dv, D.ch, D.he, D.n1, D.n2, D.n3, (numV 0 999 (.ok (nxl b L t))), (D.se ||| 16))) ⟨d1.f f1 (fun z => by (try dsimp only [frW, tkC, tkD, frND, frG, frC, dlM, nxR, lvC, lvD] at z); omega) (fun k hk z => by (try dsimp only [frW, tkC, tkD, frND, frG, frC, dlM, nxR, lvC, lvD] at z); omega), d2.f f1 (fun z => by (try dsimp only [frW, tkC, tkD, frND, frG, frC, dlM, nxR, lvC, lvD] at z); omega) (fun k hk z => by (try dsimp only [frW, tkC, tkD, frND, frG, frC, dlM, nxR, lvC, lvD] at z); omega), d3.f f1 (fun k j hk hj z => by (try dsimp only [frW, tkC, tkD, frND, frG, frC, dlM, nxR, lvC, lvD] at z); omega), fun z => (d4 z).f f1 (fun z => by (try dsimp only [frW, tkC, tkD, frND, frG, frC, dlM, nxR, lvC, lvD] at z); omega) (fun k hk z => by (try dsimp only [frW, tkC, tkD, frND, frG, frC, dlM, nxR, lvC, lvD] at z); omega) (fun k hk z => by (try dsimp only [frW, tkC, tkD, frND, frG, frC, dlM, nxR, lvC, lvD] at z); omega), fun z => (d5 z).f f1 (fun z => by (try dsimp only [frW, tkC, tkD, frND, frG, frC, dlM, nxR, lvC, lvD] at z); omega) (fun k hk z => by (try dsimp only [frW, tkC, tkD, frND, frG, frC, dlM, nxR, lvC, lvD] at z); omega) (fun k hk z => by (try dsimp only [frW, tkC, tkD, frND, frG, frC, dlM, nxR, lvC, lvD] at z); omega), d6.f f1 (fun z => by (try dsimp only [frW, tkC, tkD, frND, frG, frC, dlM, nxR, lvC, lvD] at z); omega), ⟨by rw [f1.2.1 _ _ (fun z => by (try dsimp only [frW, tkC, tkD, frND, frG, frC, dlM, nxR, lvC, lvD] at z); omega)]; exact d7.1, by rw [f1.2.1 _ _ (fun z => by (try dsimp only [frW, tkC, tkD, frND, frG, frC, dlM, nxR, lvC, lvD] at z); omega)]; exact d7.2.1, by rw [f1.2.1 _ _ (fun z => by (try dsimp only [frW, tkC, tkD, frND, frG, frC, dlM, nxR, lvC, lvD] at z); omega)]; exact d7.2.2.1, w1 (needR_k ok)⟩, d8.f f1 (fun z => by (try dsimp only [frW, tkC, tkD, frND, frG, frC, dlM, nxR, lvC, lvD] at z); omega) (fun z => by (try dsimp only [frW, tkC, tkD, frND, frG, frC, dlM, nxR, lvC, lvD] at z); omega) (fun z => by (try dsimp only [frW, tkC, tkD, frND, frG, frC, dlM, nxR, lvC, lvD] at z); omega) (fun z => by (try dsimp only [frW, tkC, tkD, frND, frG, frC, dlM, nxR, lvC, lvD] at z); omega) (fun z => by (try dsimp only [frW, tkC, tkD, frND, frG, frC, dlM, nxR, lvC, lvD] at z); omega)⟩ f2
  · rw [if_neg (show ¬ (tC t = 256 + 12 ∧ ¬ ¬ hI h 383 49 = 0) from fun z => c ⟨z.1, (fB_0 _).mp (by rw [← v]; exact z.2)⟩), if_neg c]
    exact b237M x
theorem b158M {b : Nat → Nat} {L : Nat} {h : AH} {t : LT} {D : DR} (x : YT1 b L h t) (d : DfM h D) (g : DG D) : ∃ h1, f_M_readLine_b158 h = some h1 ∧ FrV h h1 ∧ LN b L h1 (lr5 b L D t) := by
  have v := d.2.2.2.2.2.2.2.2.2.2.1
  unfold lr5
  rw [f_M_readLine_b158, stM x (j := 11) (l := [99, 97, 114, 116]) (by omega) rfl (by decide) (fun h => ¬ hI h 383 48 = 0) f_M_readLine_b197 (fun hq2 => lt (sI hq2 383 48 (1 : Int32)) fun hq3 => bI (f_M_told (1667330676 : Int64) (1 : Int32) (9 : Int32) hq3) fun rq4 hq5 => lt (sI hq5 383 40 rq4) fun hq6 => f_M_readLine_b242 hq6)]
  by_cases c : tC t = 267 ∧ D.se.testBit 3 = false
  · rw [if_pos (show tC t = 256 + 11 ∧ ¬ ¬ hI h 383 48 = 0 from ⟨c.1, by rw [v]; exact (fB_0 _).mpr c.2⟩), if_pos c, lt_e]
    obtain ⟨d0, f0⟩ := d.s (j := 3) (k := 48) g.2.2.1 (by omega)
    have x0 : YT1 b L (sI h 383 48 1) t := MT1.s (x := .ok t) x (by omega) (by omega) 1
    generalize sI h 383 48 1 = h0 at d0 f0 x0
    obtain ⟨h1, e1, f1, c1, w1⟩ := oneM (k := 40) (lo := 1) (hi := 9) (j := 11) (a := 1667330676) (l := [99, 97, 114, 116]) x0 c.1 (by omega) rfl (by decide) (by omega) (by omega) (by omega) (fun h => f_M_readLine_b242 h)
    obtain ⟨h2, e2, f2, c2⟩ := semiM c1
    have f1' : FrV h0 h1 := f1.mn (fun c k z => by (try dsimp only [frW, tkC, tkD, frND, frG, frC, dlM, nxR, lvC, lvD] at z); dsimp only [lvC]; omega) (fun c k z => by (try dsimp only [frW, tkC, tkD, frND, frG, frC, dlM, nxR, lvC, lvD] at z); dsimp only [lvD]; omega) (fun _ z => z)
    refine ⟨h2, by rw [← e2]; exact e1, (f0.t f1').t f2.v, thM c2 (fun ok => ?_)⟩
    obtain ⟨d1, d2, d3, d4, d5, d6, d7, d8⟩ := d0
    exact DfM.w (D := (D.kn, D.dn, D.dv, D.ch, D.he, D.n1, D.n2, (numV 1 9 (.ok (nxl b L t))), D.n4, (D.se ||| 8))) ⟨d1.f f1 (fun z => by (try dsimp only [frW, tkC, tkD, frND, frG, frC, dlM, nxR, lvC, lvD] at z); omega) (fun k hk z => by (try dsimp only [frW, tkC, tkD, frND, frG, frC, dlM, nxR, lvC, lvD] at z); omega), d2.f f1 (fun z => by (try dsimp only [frW, tkC, tkD, frND, frG, frC, dlM, nxR, lvC, lvD] at z); omega) (fun k hk z => by (try dsimp only [frW, tkC, tkD, frND, frG, frC, dlM, nxR, lvC, lvD] at z); omega), d3.f f1 (fun k j hk hj z => by (try dsimp only [frW, tkC, tkD, frND, frG, frC, dlM, nxR, lvC, lvD] at z); omega), fun z => (d4 z).f f1 (fun z => by (try dsimp only [frW, tkC, tkD, frND, frG, frC, dlM, nxR, lvC, lvD] at z); omega) (fun k hk z => by (try dsimp only [frW, tkC, tkD, frND, frG, frC, dlM, nxR, lvC, lvD] at z); omega) (fun k hk z => by (try dsimp only [frW, tkC, tkD, frND, frG, frC, dlM, nxR, lvC, lvD] at z); omega), fun z => (d5 z).f f1 (fun z => by (try dsimp only [frW, tkC, tkD, frND, frG, frC, dlM, nxR, lvC, lvD] at z); omega) (fun k hk z => by (try dsimp only [frW, tkC, tkD, frND, frG, frC, dlM, nxR, lvC, lvD] at z); omega) (fun k hk z => by (try dsimp only [frW, tkC, tkD, frND, frG, frC, dlM, nxR, lvC, lvD] at z); omega), d6.f f1 (fun z => by (try dsimp only [frW, tkC, tkD, frND, frG, frC, dlM, nxR, lvC, lvD] at z); omega), ⟨by rw [f1.2.1 _ _ (fun z => by (try dsimp only [frW, tkC, tkD, frND, frG, frC, dlM, nxR, lvC, lvD] at z); omega)]; exact d7.1, by rw [f1.2.1 _ _ (fun z => by (try dsimp only [frW, tkC, tkD, frND, frG, frC, dlM, nxR, lvC, lvD] at z); omega)]; exact d7.2.1, w1 (needR_k ok), by rw [f1.2.1 _ _ (fun z => by (try dsimp only [frW, tkC, tkD, frND, frG, frC, dlM, nxR, lvC, lvD] at z); omega)]; exact d7.2.2.2⟩, d8.f f1 (fun z => by (try dsimp only [frW, tkC, tkD, frND, frG, frC, dlM, nxR, lvC, lvD] at z); omega) (fun z => by (try dsimp only [frW, tkC, tkD, frND, frG, frC, dlM, nxR, lvC, lvD] at z); omega) (fun z => by (try dsimp only [frW, tkC, tkD, frND, frG, frC, dlM, nxR, lvC, lvD] at z); omega) (fun z => by (try dsimp only [frW, tkC, tkD, frND, frG, frC, dlM, nxR, lvC, lvD] at z); omega) (fun z => by (try dsimp only [frW, tkC, tkD, frND, frG, frC, dlM, nxR, lvC, lvD] at z); omega)⟩ f2
  · rw [if_neg (show ¬ (tC t = 256 + 11 ∧ ¬ ¬ hI h 383 48 = 0) from fun z => c ⟨z.1, (fB_0 _).mp (by rw [← v]; exact z.2)⟩), if_neg c]
    exact b197M x d g
theorem b105M {b : Nat → Nat} {L : Nat} {h : AH} {t : LT} {D : DR} (x : YT1 b L h t) (d : DfM h D) (g : DG D) : ∃ h1, f_M_readLine_b105 h = some h1 ∧ FrV h h1 ∧ LN b L h1 (lr4 b L D t) := by
  have v := d.2.2.2.2.2.2.2.2.2.1
  unfold lr4
  rw [f_M_readLine_b105, stM x (j := 10) (l := [115, 110, 97, 112]) (by omega) rfl (by decide) (fun h => ¬ hI h 383 47 = 0) f_M_readLine_b158 (fun hq2 => lt (sI hq2 383 47 (1 : Int32)) fun hq3 => bI (f_M_told (1936613744 : Int64) (0 : Int32) (100 : Int32) hq3) fun rq4 hq5 => lt (sI hq5 383 38 rq4) fun hq6 => bI (f_M_told (28518 : Int64) (1 : Int32) (20 : Int32) hq6) fun rq7 hq8 => lt (sI hq8 383 39 rq7) fun hq9 => f_M_readLine_b242 hq9)]
  by_cases c : tC t = 266 ∧ D.se.testBit 2 = false
  · rw [if_pos (show tC t = 256 + 10 ∧ ¬ ¬ hI h 383 47 = 0 from ⟨c.1, by rw [v]; exact (fB_0 _).mpr c.2⟩), if_pos c, lt_e]
    obtain ⟨d0, f0⟩ := d.s (j := 2) (k := 47) g.2.2.1 (by omega)
    have x0 : YT1 b L (sI h 383 47 1) t := MT1.s (x := .ok t) x (by omega) (by omega) 1
    generalize sI h 383 47 1 = h0 at d0 f0 x0
    obtain ⟨h1, e1, f1, c1, w1⟩ := snapM x0 c.1 (fun h => f_M_readLine_b242 h)
    obtain ⟨h2, e2, f2, c2⟩ := semiM c1
    have f1' : FrV h0 h1 := f1.mn (fun c k z => by (try dsimp only [frW, tkC, tkD, frND, frG, frC, dlM, nxR, lvC, lvD] at z); dsimp only [lvC]; omega) (fun c k z => by (try dsimp only [frW, tkC, tkD, frND, frG, frC, dlM, nxR, lvC, lvD] at z); dsimp only [lvD]; omega) (fun _ z => z)
    refine ⟨h2, by rw [← e2]; exact e1, (f0.t f1').t f2.v, thM c2 (fun ok => ?_)⟩
    obtain ⟨d1, d2, d3, d4, d5, d6, d7, d8⟩ := d0
    obtain ⟨w2, w3⟩ := w1 (needR_k ok)
    exact DfM.w (D := (D.kn, D.dn, D.dv, D.ch, D.he, (numV 0 100 (.ok (nxl b L t))), (numV 1 20 (needR b L 258 (numR b L 0 100 (.ok (nxl b L t))))), D.n3, D.n4, (D.se ||| 4))) ⟨d1.f f1 (fun z => by (try dsimp only [frW, tkC, tkD, frND, frG, frC, dlM, nxR, lvC, lvD] at z); omega) (fun k hk z => by (try dsimp only [frW, tkC, tkD, frND, frG, frC, dlM, nxR, lvC, lvD] at z); omega), d2.f f1 (fun z => by (try dsimp only [frW, tkC, tkD, frND, frG, frC, dlM, nxR, lvC, lvD] at z); omega) (fun k hk z => by (try dsimp only [frW, tkC, tkD, frND, frG, frC, dlM, nxR, lvC, lvD] at z); omega), d3.f f1 (fun k j hk hj z => by (try dsimp only [frW, tkC, tkD, frND, frG, frC, dlM, nxR, lvC, lvD] at z); omega), fun z => (d4 z).f f1 (fun z => by (try dsimp only [frW, tkC, tkD, frND, frG, frC, dlM, nxR, lvC, lvD] at z); omega) (fun k hk z => by (try dsimp only [frW, tkC, tkD, frND, frG, frC, dlM, nxR, lvC, lvD] at z); omega) (fun k hk z => by (try dsimp only [frW, tkC, tkD, frND, frG, frC, dlM, nxR, lvC, lvD] at z); omega), fun z => (d5 z).f f1 (fun z => by (try dsimp only [frW, tkC, tkD, frND, frG, frC, dlM, nxR, lvC, lvD] at z); omega) (fun k hk z => by (try dsimp only [frW, tkC, tkD, frND, frG, frC, dlM, nxR, lvC, lvD] at z); omega) (fun k hk z => by (try dsimp only [frW, tkC, tkD, frND, frG, frC, dlM, nxR, lvC, lvD] at z); omega), d6.f f1 (fun z => by (try dsimp only [frW, tkC, tkD, frND, frG, frC, dlM, nxR, lvC, lvD] at z); omega), ⟨w2, w3, by rw [f1.2.1 _ _ (fun z => by (try dsimp only [frW, tkC, tkD, frND, frG, frC, dlM, nxR, lvC, lvD] at z); omega)]; exact d7.2.2.1, by rw [f1.2.1 _ _ (fun z => by (try dsimp only [frW, tkC, tkD, frND, frG, frC, dlM, nxR, lvC, lvD] at z); omega)]; exact d7.2.2.2⟩, d8.f f1 (fun z => by (try dsimp only [frW, tkC, tkD, frND, frG, frC, dlM, nxR, lvC, lvD] at z); omega) (fun z => by (try dsimp only [frW, tkC, tkD, frND, frG, frC, dlM, nxR, lvC, lvD] at z); omega) (fun z => by (try dsimp only [frW, tkC, tkD, frND, frG, frC, dlM, nxR, lvC, lvD] at z); omega) (fun z => by (try dsimp only [frW, tkC, tkD, frND, frG, frC, dlM, nxR, lvC, lvD] at z); omega) (fun z => by (try dsimp only [frW, tkC, tkD, frND, frG, frC, dlM, nxR, lvC, lvD] at z); omega)⟩ f2
  · rw [if_neg (show ¬ (tC t = 256 + 10 ∧ ¬ ¬ hI h 383 47 = 0) from fun z => c ⟨z.1, (fB_0 _).mp (by rw [← v]; exact z.2)⟩), if_neg c]
    exact b158M x d g
/-- a formula of a line -/
theorem fmM_ok {b : Nat → Nat} {L w u0 : Nat} {h : AH} {t : LT} (hw : w < 2) (hu0 : u0 ≤ 30) (x : YT1 b L h t) (h3 : ¬ tC t = 3) (e22 : NU h u0) : ∃ h1 h2, (bV (f_M_formula (nI w) h) fun hq => f_M_readLine_b242 hq) = some h2 ∧ FrL (frG w) tkD nxR h h1 ∧ FrW h1 h2 ∧ hI h1 394 w = 1 ∧ match eiR (nxl b L) 10 0 (nxl b L t, 0, []) with
    | .error e => DJ b L h2 e
    | .ok s => MT1 b L h2 (needR b L 59 (.ok s.1)) ∧ NF h1 w s.2.2 ∧ NU h1 (u0 + s.2.1) := by
  obtain ⟨r, v, tg, n, f0, e33⟩ := x
  obtain ⟨h1, e1, f1, v1, m1⟩ := Mform_ok hw hu0 r h3 tg f0 e22 e33
  have v1' : hI h1 394 w = 1 := v1.trans (by decide)
  rw [e1, bV_s]
  have nk := nxl_k b L t tg
  cases q : eiR (nxl b L) 10 0 (nxl b L t, 0, []) with
  | error e =>
    rw [q] at m1
    obtain ⟨h2, e2, f2, c2⟩ := semiM (x := .error e) (show DJ b L h1 e from m1)
    exact ⟨h1, h2, e2, f1, f2, v1', c2⟩
  | ok s =>
    rw [q] at m1
    obtain ⟨m1, m2, m3, m4, m5, m6⟩ := m1
    obtain ⟨h2, e2, f2, c2⟩ := semiM (x := .ok s.1) (show YT1 b L h1 s.1 from ⟨m1, m2, (ei_t nk.1 q).1, (ei_Q nk.1 (lx_Q b L _) q).2.2, m3, m6⟩)
    exact ⟨h1, h2, e2, f1, f2, v1', c2, m4.2.2, m5⟩
theorem NB.g {h h1 : AH} {s w : Nat} (hs : s < 32) (hw : w < 2) (n : NB h s) (f : FrL (frG w) tkD nxR h h1) (e : hI h1 394 w = 1) : NB h1 (s ||| 2 ^ w) := by
  obtain ⟨n0, n1, n2, n3, n4⟩ := n
  obtain ⟨-, y⟩ := se_w (S := s) (j := w) hs (by omega)
  have k2 : hI h1 383 47 = fB ((s ||| 2 ^ w).testBit 2) := by rw [f.2.1 _ _ (fun z => by (try dsimp only [frW, tkC, tkD, frND, frG, frC, dlM, nxR, lvC, lvD] at z); omega), y 2 (by omega), show decide (2 = w) = false from decide_eq_false (by omega), Bool.or_false]; exact n2
  have k3 : hI h1 383 48 = fB ((s ||| 2 ^ w).testBit 3) := by rw [f.2.1 _ _ (fun z => by (try dsimp only [frW, tkC, tkD, frND, frG, frC, dlM, nxR, lvC, lvD] at z); omega), y 3 (by omega), show decide (3 = w) = false from decide_eq_false (by omega), Bool.or_false]; exact n3
  have k4 : hI h1 383 49 = fB ((s ||| 2 ^ w).testBit 4) := by rw [f.2.1 _ _ (fun z => by (try dsimp only [frW, tkC, tkD, frND, frG, frC, dlM, nxR, lvC, lvD] at z); omega), y 4 (by omega), show decide (4 = w) = false from decide_eq_false (by omega), Bool.or_false]; exact n4
  have : w = 0 ∨ w = 1 := by omega
  rcases this with rfl | rfl
  · refine ⟨?_, ?_, k2, k3, k4⟩
    · rw [e, y 0 (by omega)]; simp [fB]
    · rw [f.2.1 _ _ (fun z => by (try dsimp only [frW, tkC, tkD, frND, frG, frC, dlM, nxR, lvC, lvD] at z); omega), y 1 (by omega), show decide (1 = 0) = false from decide_eq_false (by omega), Bool.or_false]; exact n1
  · refine ⟨?_, ?_, k2, k3, k4⟩
    · rw [f.2.1 _ _ (fun z => by (try dsimp only [frW, tkC, tkD, frND, frG, frC, dlM, nxR, lvC, lvD] at z); omega), y 0 (by omega), show decide (0 = 1) = false from decide_eq_false (by omega), Bool.or_false]; exact n0
    · rw [e, y 1 (by omega)]; simp [fB]
theorem b78M {b : Nat → Nat} {L : Nat} {h : AH} {t : LT} {D : DR} (x : YT1 b L h t) (d : DfM h D) (g : DG D) : ∃ h1, f_M_readLine_b78 h = some h1 ∧ FrV h h1 ∧ LN b L h1 (lr3 b L D t) := by
  have v := d.2.2.2.2.2.2.2.2.1
  unfold lr3
  rw [f_M_readLine_b78, stM x (j := 9) (l := [104, 101, 97, 116]) (by omega) rfl (by decide) (fun h => ¬ hI h 394 1 = 0) f_M_readLine_b105 (fun hq2 => bV (f_M_formula (1 : Int32) hq2) fun hq3 => f_M_readLine_b242 hq3)]
  by_cases c : tC t = 265 ∧ D.se.testBit 1 = false
  · rw [if_pos (show tC t = 256 + 9 ∧ ¬ ¬ hI h 394 1 = 0 from ⟨c.1, by rw [v]; exact (fB_0 _).mpr c.2⟩), if_pos c]
    obtain ⟨d1, d2, d3, d4, d5, d6, d7, d8⟩ := d
    have h0 := g.2.2.2.2.1 c.2
    have hc := g.2.2.2.2.2.1
    have lc : D.ch.2.length ≤ 270 := hc.2.1
    obtain ⟨h1, h2, e1, f1, f2, v1, m1⟩ := fmM_ok (w := 1) (u0 := D.ch.1 + D.he.1) (by omega) (by rw [h0]; exact hc.1) x (by omega) d6
    have f1' : FrV h h1 := f1.mn (fun c k z => by (try dsimp only [frW, tkC, tkD, frND, frG, frC, dlM, nxR, lvC, lvD] at z); dsimp only [lvC]; omega) (fun c k z => by (try dsimp only [frW, tkC, tkD, frND, frG, frC, dlM, nxR, lvC, lvD] at z); dsimp only [lvD]; omega) (fun _ z => z)
    refine ⟨h2, e1, f1'.t f2.v, ?_⟩
    unfold fmR
    cases q : eiR (nxl b L) 10 0 (nxl b L t, 0, []) with
    | error e => rw [q] at m1; exact m1
    | ok s =>
      rw [q] at m1
      obtain ⟨m1, m2, m3⟩ := m1
      have y := (se_w (S := D.se) (j := 1) g.2.2.1 (by omega)).2 0 (by omega)
      refine thM m1 (fun _ => DfM.w (D := (D.kn, D.dn, D.dv, D.ch, s.2, D.n1, D.n2, D.n3, D.n4, (D.se ||| 2))) ⟨d1.f f1 (fun z => by (try dsimp only [frW, tkC, tkD, frND, frG, frC, dlM, nxR, lvC, lvD] at z); omega) (fun k hk z => by (try dsimp only [frW, tkC, tkD, frND, frG, frC, dlM, nxR, lvC, lvD] at z); omega), d2.f f1 (fun z => by (try dsimp only [frW, tkC, tkD, frND, frG, frC, dlM, nxR, lvC, lvD] at z); omega) (fun k hk z => by (try dsimp only [frW, tkC, tkD, frND, frG, frC, dlM, nxR, lvC, lvD] at z); omega), d3.f f1 (fun k j hk hj z => by (try dsimp only [frW, tkC, tkD, frND, frG, frC, dlM, nxR, lvC, lvD] at z); omega), fun z => (d4 ?_).f f1 (fun z => by (try dsimp only [frW, tkC, tkD, frND, frG, frC, dlM, nxR, lvC, lvD] at z); omega) (fun k hk z => by (try dsimp only [frW, tkC, tkD, frND, frG, frC, dlM, nxR, lvC, lvD] at z); omega) (fun k hk z => by (try dsimp only [frW, tkC, tkD, frND, frG, frC, dlM, nxR, lvC, lvD] at z); omega), fun _ => m2, ?_, d7.f f1 (fun z => by (try dsimp only [frW, tkC, tkD, frND, frG, frC, dlM, nxR, lvC, lvD] at z); omega) (fun z => by (try dsimp only [frW, tkC, tkD, frND, frG, frC, dlM, nxR, lvC, lvD] at z); omega) (fun z => by (try dsimp only [frW, tkC, tkD, frND, frG, frC, dlM, nxR, lvC, lvD] at z); omega) (fun z => by (try dsimp only [frW, tkC, tkD, frND, frG, frC, dlM, nxR, lvC, lvD] at z); omega), d8.g g.2.2.1 (by omega) f1 v1⟩ f2)
      · have z' : (D.se ||| 2 ^ 1).testBit 0 = true := z
        rw [y] at z'; simpa using z'
      · rw [h0, Nat.add_zero] at m3; exact m3
  · rw [if_neg (show ¬ (tC t = 256 + 9 ∧ ¬ ¬ hI h 394 1 = 0) from fun z => c ⟨z.1, (fB_0 _).mp (by rw [← v]; exact z.2)⟩), if_neg c]
    exact b105M x d g
theorem b51M {b : Nat → Nat} {L : Nat} {h : AH} {t : LT} {D : DR} (x : YT1 b L h t) (d : DfM h D) (g : DG D) : ∃ h1, f_M_readLine_b51 h = some h1 ∧ FrV h h1 ∧ LN b L h1 (lr2 b L D t) := by
  have v := d.2.2.2.2.2.2.2.1
  unfold lr2
  rw [f_M_readLine_b51, stM x (j := 8) (l := [99, 104, 105, 114, 112, 115]) (by omega) rfl (by decide) (fun h => ¬ hI h 394 0 = 0) f_M_readLine_b78 (fun hq2 => bV (f_M_formula (0 : Int32) hq2) fun hq3 => f_M_readLine_b242 hq3)]
  by_cases c : tC t = 264 ∧ D.se.testBit 0 = false
  · rw [if_pos (show tC t = 256 + 8 ∧ ¬ ¬ hI h 394 0 = 0 from ⟨c.1, by rw [v]; exact (fB_0 _).mpr c.2⟩), if_pos c]
    obtain ⟨d1, d2, d3, d4, d5, d6, d7, d8⟩ := d
    have h0 := g.2.2.2.1 c.2
    have hc := g.2.2.2.2.2.2.1
    have lc : D.he.2.length ≤ 270 := hc.2.1
    obtain ⟨h1, h2, e1, f1, f2, v1, m1⟩ := fmM_ok (w := 0) (u0 := D.ch.1 + D.he.1) (by omega) (by rw [h0, Nat.zero_add]; exact hc.1) x (by omega) d6
    have f1' : FrV h h1 := f1.mn (fun c k z => by (try dsimp only [frW, tkC, tkD, frND, frG, frC, dlM, nxR, lvC, lvD] at z); dsimp only [lvC]; omega) (fun c k z => by (try dsimp only [frW, tkC, tkD, frND, frG, frC, dlM, nxR, lvC, lvD] at z); dsimp only [lvD]; omega) (fun _ z => z)
    refine ⟨h2, e1, f1'.t f2.v, ?_⟩
    unfold fmR
    cases q : eiR (nxl b L) 10 0 (nxl b L t, 0, []) with
    | error e => rw [q] at m1; exact m1
    | ok s =>
      rw [q] at m1
      obtain ⟨m1, m2, m3⟩ := m1
      have y := (se_w (S := D.se) (j := 0) g.2.2.1 (by omega)).2 1 (by omega)
      refine thM m1 (fun _ => DfM.w (D := (D.kn, D.dn, D.dv, s.2, D.he, D.n1, D.n2, D.n3, D.n4, (D.se ||| 1))) ⟨d1.f f1 (fun z => by (try dsimp only [frW, tkC, tkD, frND, frG, frC, dlM, nxR, lvC, lvD] at z); omega) (fun k hk z => by (try dsimp only [frW, tkC, tkD, frND, frG, frC, dlM, nxR, lvC, lvD] at z); omega), d2.f f1 (fun z => by (try dsimp only [frW, tkC, tkD, frND, frG, frC, dlM, nxR, lvC, lvD] at z); omega) (fun k hk z => by (try dsimp only [frW, tkC, tkD, frND, frG, frC, dlM, nxR, lvC, lvD] at z); omega), d3.f f1 (fun k j hk hj z => by (try dsimp only [frW, tkC, tkD, frND, frG, frC, dlM, nxR, lvC, lvD] at z); omega), fun _ => m2, fun z => (d5 ?_).f f1 (fun z => by (try dsimp only [frW, tkC, tkD, frND, frG, frC, dlM, nxR, lvC, lvD] at z); omega) (fun k hk z => by (try dsimp only [frW, tkC, tkD, frND, frG, frC, dlM, nxR, lvC, lvD] at z); omega) (fun k hk z => by (try dsimp only [frW, tkC, tkD, frND, frG, frC, dlM, nxR, lvC, lvD] at z); omega), ?_, d7.f f1 (fun z => by (try dsimp only [frW, tkC, tkD, frND, frG, frC, dlM, nxR, lvC, lvD] at z); omega) (fun z => by (try dsimp only [frW, tkC, tkD, frND, frG, frC, dlM, nxR, lvC, lvD] at z); omega) (fun z => by (try dsimp only [frW, tkC, tkD, frND, frG, frC, dlM, nxR, lvC, lvD] at z); omega) (fun z => by (try dsimp only [frW, tkC, tkD, frND, frG, frC, dlM, nxR, lvC, lvD] at z); omega), d8.g g.2.2.1 (by omega) f1 v1⟩ f2)
      · have z' : (D.se ||| 2 ^ 0).testBit 1 = true := z
        rw [y] at z'; simpa using z'
      · rw [h0, Nat.zero_add, Nat.add_comm] at m3; exact m3
  · rw [if_neg (show ¬ (tC t = 256 + 8 ∧ ¬ ¬ hI h 394 0 = 0) from fun z => c ⟨z.1, (fB_0 _).mp (by rw [← v]; exact z.2)⟩), if_neg c]
    exact b78M x d g
theorem b25M {b : Nat → Nat} {L : Nat} {h : AH} {t : LT} {D : DR} (x : YT1 b L h t) (d : DfM h D) (g : DG D) : ∃ h1, f_M_readLine_b25 h = some h1 ∧ FrV h h1 ∧ LN b L h1 (lr1 b L D t) := by
  have v := d.2.1.2
  have g2 := g.2.1
  have pp : (6 : Int32) ≤ hI h 383 37 ↔ ¬ D.dn.length < 6 := by
    rw [v]
    by_cases l : D.dn.length < 6
    · exact ⟨fun z => absurd z (nI_ge (a := D.dn.length) (b := 6) l (by omega)), fun z => absurd l z⟩
    · exact ⟨fun _ => l, fun _ => nI_le (a := 6) (b := D.dn.length) (by omega) (by omega)⟩
  unfold lr1
  rw [f_M_readLine_b25, stM x (j := 1) (l := [100, 101, 97, 108, 101, 114]) (by omega) rfl (by decide) (fun h => (6 : Int32) ≤ hI h 383 37) f_M_readLine_b51 (fun hq2 => bV (f_M_readDealer hq2) fun hq3 => f_M_readLine_b242 hq3)]
  by_cases c : tC t = 257 ∧ D.dn.length < 6
  · rw [if_pos (show tC t = 256 + 1 ∧ ¬ (6 : Int32) ≤ hI h 383 37 from ⟨c.1, fun z => pp.mp z c.2⟩), if_pos c]
    obtain ⟨d1, d2, d3, d4, d5, d6, d7, d8⟩ := d
    obtain ⟨h1, e1, f1, c1, k1⟩ := dealM x (by omega) d1.1 g.1 d1.2 d2.1 c.2 d2.2
    obtain ⟨h2, e2, f2, c2⟩ := semiM c1
    have f1' : FrV h h1 := f1.mn (fun c k z => by (try dsimp only [frW, tkC, tkD, frND, frG, frC, dlM, nxR, lvC, lvD] at z); dsimp only [lvC]; omega) (fun c k z => by (try dsimp only [frW, tkC, tkD, frND, frG, frC, dlM, nxR, lvC, lvD] at z); dsimp only [lvD]; omega) (fun _ z => z)
    have gk := g.1
    refine ⟨h2, by rw [e1, bV_s, e2], f1'.t f2.v, thM c2 (fun ok => ?_)⟩
    obtain ⟨n5, q5, v0, v1, v2, v3, v4, v5⟩ := k1 (needR_k ok)
    refine DfM.w (D := (D.kn, (D.dn ++ [tW (nxl b L t)]), (dvN b L D (nxl b L t)), D.ch, D.he, D.n1, D.n2, D.n3, D.n4, D.se)) ⟨d1.f f1 (fun z => by (try dsimp only [frW, tkC, tkD, frND, frG, frC, dlM, nxR, lvC, lvD] at z); omega) (fun k hk z => by (try dsimp only [frW, tkC, tkD, frND, frG, frC, dlM, nxR, lvC, lvD] at z); omega), ⟨n5, by show _ = nI (D.dn ++ [tW (nxl b L t)]).length; rw [len1]; exact q5⟩, fun k j hk hj => ?_, fun z => (d4 z).f f1 (fun z => by (try dsimp only [frW, tkC, tkD, frND, frG, frC, dlM, nxR, lvC, lvD] at z); omega) (fun k hk z => by (try dsimp only [frW, tkC, tkD, frND, frG, frC, dlM, nxR, lvC, lvD] at z); omega) (fun k hk z => by (try dsimp only [frW, tkC, tkD, frND, frG, frC, dlM, nxR, lvC, lvD] at z); omega), fun z => (d5 z).f f1 (fun z => by (try dsimp only [frW, tkC, tkD, frND, frG, frC, dlM, nxR, lvC, lvD] at z); omega) (fun k hk z => by (try dsimp only [frW, tkC, tkD, frND, frG, frC, dlM, nxR, lvC, lvD] at z); omega) (fun k hk z => by (try dsimp only [frW, tkC, tkD, frND, frG, frC, dlM, nxR, lvC, lvD] at z); omega), d6.f f1 (fun z => by (try dsimp only [frW, tkC, tkD, frND, frG, frC, dlM, nxR, lvC, lvD] at z); omega), d7.f f1 (fun z => by (try dsimp only [frW, tkC, tkD, frND, frG, frC, dlM, nxR, lvC, lvD] at z); omega) (fun z => by (try dsimp only [frW, tkC, tkD, frND, frG, frC, dlM, nxR, lvC, lvD] at z); omega) (fun z => by (try dsimp only [frW, tkC, tkD, frND, frG, frC, dlM, nxR, lvC, lvD] at z); omega) (fun z => by (try dsimp only [frW, tkC, tkD, frND, frG, frC, dlM, nxR, lvC, lvD] at z); omega), d8.f f1 (fun z => by (try dsimp only [frW, tkC, tkD, frND, frG, frC, dlM, nxR, lvC, lvD] at z); omega) (fun z => by (try dsimp only [frW, tkC, tkD, frND, frG, frC, dlM, nxR, lvC, lvD] at z); omega) (fun z => by (try dsimp only [frW, tkC, tkD, frND, frG, frC, dlM, nxR, lvC, lvD] at z); omega) (fun z => by (try dsimp only [frW, tkC, tkD, frND, frG, frC, dlM, nxR, lvC, lvD] at z); omega) (fun z => by (try dsimp only [frW, tkC, tkD, frND, frG, frC, dlM, nxR, lvC, lvD] at z); omega)⟩ f2
    have hk' : k < D.dn.length + 1 := by have : k < (D.dn ++ [tW (nxl b L t)]).length := hk; rw [len1] at this; exact this
    show _ = nI (dvN b L D (nxl b L t) k j)
    unfold dvN
    by_cases e : k = D.dn.length
    · rw [if_pos e, e]
      have : j = 0 ∨ j = 1 ∨ j = 2 ∨ j = 3 ∨ j = 4 ∨ j = 5 := by omega
      rcases this with rfl | rfl | rfl | rfl | rfl | rfl
      · exact v0
      · exact v1
      · exact v2
      · exact v3
      · exact v4
      · exact v5
    · rw [if_neg e, f1.2.1 _ _ (fun z => by (try dsimp only [frW, tkC, tkD, frND, frG, frC, dlM, nxR, lvC, lvD] at z); omega)]
      exact d3 k j (by omega) hj
  · rw [if_neg (show ¬ (tC t = 256 + 1 ∧ ¬ (6 : Int32) ≤ hI h 383 37) from fun z => c ⟨z.1, Classical.byContradiction (fun y => z.2 (pp.mpr y))⟩), if_neg c]
    exact b51M x d g
theorem lineM {b : Nat → Nat} {L : Nat} {h : AH} {t : LT} {D : DR} (x : YT1 b L h t) (d : DfM h D) (g : DG D) : ∃ h1, f_M_readLine h = some h1 ∧ FrV h h1 ∧ LN b L h1 (lineR b L D t) := by
  have v := d.1.2
  have g1 := g.1
  have pp : (3 : Int32) ≤ hI h 383 36 ↔ ¬ D.kn.length < 3 := by
    rw [v]
    by_cases l : D.kn.length < 3
    · exact ⟨fun z => absurd z (nI_ge (a := D.kn.length) (b := 3) l (by omega)), fun z => absurd l z⟩
    · exact ⟨fun _ => l, fun _ => nI_le (a := 3) (b := D.kn.length) (by omega) (by omega)⟩
  rw [lr_e, f_M_readLine, stM x (j := 0) (l := [107, 105, 110, 100]) (by omega) rfl (by decide) (fun h => (3 : Int32) ≤ hI h 383 36) f_M_readLine_b25 (fun hq2 => bV (f_M_readKind hq2) fun hq3 => f_M_readLine_b242 hq3)]
  by_cases c : tC t = 256 ∧ D.kn.length < 3
  · rw [if_pos (show tC t = 256 + 0 ∧ ¬ (3 : Int32) ≤ hI h 383 36 from ⟨c.1, fun z => pp.mp z c.2⟩), if_pos c]
    obtain ⟨d1, d2, d3, d4, d5, d6, d7, d8⟩ := d
    obtain ⟨h1, e1, f1, c1, k1⟩ := kindLineM x (by omega) d1.1 c.2 d1.2
    obtain ⟨h2, e2, f2, c2⟩ := semiM c1
    have f1' : FrV h h1 := f1.mn (fun c k z => by (try dsimp only [frW, tkC, tkD, frND, frG, frC, dlM, nxR, lvC, lvD] at z); dsimp only [lvC]; omega) (fun c k z => by (try dsimp only [frW, tkC, tkD, frND, frG, frC, dlM, nxR, lvC, lvD] at z); dsimp only [lvD]; omega) (fun _ z => z)
    refine ⟨h2, by rw [e1, bV_s, e2], f1'.t f2.v, thM c2 (fun ok => ?_)⟩
    obtain ⟨n5, q5⟩ := k1 (needR_k ok)
    have c2' := c.2
    exact DfM.w (D := ((D.kn ++ [tW (nxl b L t)]), D.dn, D.dv, D.ch, D.he, D.n1, D.n2, D.n3, D.n4, D.se)) ⟨⟨n5, by show _ = nI (D.kn ++ [tW (nxl b L t)]).length; rw [len1]; exact q5⟩, d2.f f1 (fun z => by (try dsimp only [frW, tkC, tkD, frND, frG, frC, dlM, nxR, lvC, lvD] at z); omega) (fun k hk z => by (try dsimp only [frW, tkC, tkD, frND, frG, frC, dlM, nxR, lvC, lvD] at z); omega), d3.f f1 (fun k j hk hj z => by (try dsimp only [frW, tkC, tkD, frND, frG, frC, dlM, nxR, lvC, lvD] at z); omega), fun z => (d4 z).f f1 (fun z => by (try dsimp only [frW, tkC, tkD, frND, frG, frC, dlM, nxR, lvC, lvD] at z); omega) (fun k hk z => by (try dsimp only [frW, tkC, tkD, frND, frG, frC, dlM, nxR, lvC, lvD] at z); omega) (fun k hk z => by (try dsimp only [frW, tkC, tkD, frND, frG, frC, dlM, nxR, lvC, lvD] at z); omega), fun z => (d5 z).f f1 (fun z => by (try dsimp only [frW, tkC, tkD, frND, frG, frC, dlM, nxR, lvC, lvD] at z); omega) (fun k hk z => by (try dsimp only [frW, tkC, tkD, frND, frG, frC, dlM, nxR, lvC, lvD] at z); omega) (fun k hk z => by (try dsimp only [frW, tkC, tkD, frND, frG, frC, dlM, nxR, lvC, lvD] at z); omega), d6.f f1 (fun z => by (try dsimp only [frW, tkC, tkD, frND, frG, frC, dlM, nxR, lvC, lvD] at z); omega), d7.f f1 (fun z => by (try dsimp only [frW, tkC, tkD, frND, frG, frC, dlM, nxR, lvC, lvD] at z); omega) (fun z => by (try dsimp only [frW, tkC, tkD, frND, frG, frC, dlM, nxR, lvC, lvD] at z); omega) (fun z => by (try dsimp only [frW, tkC, tkD, frND, frG, frC, dlM, nxR, lvC, lvD] at z); omega) (fun z => by (try dsimp only [frW, tkC, tkD, frND, frG, frC, dlM, nxR, lvC, lvD] at z); omega), d8.f f1 (fun z => by (try dsimp only [frW, tkC, tkD, frND, frG, frC, dlM, nxR, lvC, lvD] at z); omega) (fun z => by (try dsimp only [frW, tkC, tkD, frND, frG, frC, dlM, nxR, lvC, lvD] at z); omega) (fun z => by (try dsimp only [frW, tkC, tkD, frND, frG, frC, dlM, nxR, lvC, lvD] at z); omega) (fun z => by (try dsimp only [frW, tkC, tkD, frND, frG, frC, dlM, nxR, lvC, lvD] at z); omega) (fun z => by (try dsimp only [frW, tkC, tkD, frND, frG, frC, dlM, nxR, lvC, lvD] at z); omega)⟩ f2
  · rw [if_neg (show ¬ (tC t = 256 + 0 ∧ ¬ (3 : Int32) ≤ hI h 383 36) from fun z => c ⟨z.1, Classical.byContradiction (fun y => z.2 (pp.mpr y))⟩), if_neg c]
    exact b25M x d g
