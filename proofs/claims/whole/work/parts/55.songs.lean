/-! ===== song, songs ===== -/
def fwF (r : Nat → Bool) (f a : Nat) : Nat → Option Nat
  | 0 => none
  | k + 1 => if r k = true ∧ k.testBit a = true then (match fwF r f a k with | none => some (pcN k - pcN f) | some m => if m ≤ pcN k - pcN f then some m else some (pcN k - pcN f)) else fwF r f a k
def alF (r : Nat → Bool) (f : Nat) (most : Int32) : Nat → Nat
  | 0 => 0
  | k + 1 => if r k = true ∧ nI (pcN k - pcN f) ≤ most then alF r f most k ||| k else alF r f most k
theorem fwF_c {r r' : Nat → Bool} {f a : Nat} : ∀ k, (∀ s, s < k → r s = r' s) → fwF r f a k = fwF r' f a k := by
  intro k
  induction k with
  | zero => intro _; rfl
  | succ k ih =>
    intro h
    rw [fwF, fwF, ih (fun s hs => h s (by omega)), h k (by omega)]
theorem alF_c {r r' : Nat → Bool} {f : Nat} {m : Int32} : ∀ k, (∀ s, s < k → r s = r' s) → alF r f m k = alF r' f m k := by
  intro k
  induction k with
  | zero => intro _; rfl
  | succ k ih =>
    intro h
    rw [alF, alF, ih (fun s hs => h s (by omega)), h k (by omega)]
theorem fwF_le {r : Nat → Bool} {f a : Nat} : ∀ k m, fwF r f a k = some m → m ≤ 10 := by
  intro k
  induction k with
  | zero => intro m h; cases h
  | succ k ih =>
    intro m h
    have := pcN_le k
    rw [fwF] at h
    by_cases c : r k = true ∧ k.testBit a = true
    · rw [if_pos c] at h
      cases e : fwF r f a k with
      | none => rw [e] at h; cases h; omega
      | some x =>
        rw [e] at h
        have := ih x e
        by_cases q : x ≤ pcN k - pcN f
        · simp only [q, if_true] at h; cases h; exact this
        · simp only [q, if_false] at h; cases h; omega
    · rw [if_neg c] at h; exact ih m h
theorem fwF_lo {r : Nat → Bool} {f a : Nat} (h : ∀ s, s < f → r s = false) : ∀ k, k ≤ f → fwF r f a k = none := by
  intro k
  induction k with
  | zero => intro _; rfl
  | succ k ih =>
    intro hk
    rw [fwF, if_neg (fun q => by rw [h k (by omega)] at q; exact absurd q.1 (by decide))]
    exact ih (by omega)
theorem alF_lo {r : Nat → Bool} {f : Nat} {m : Int32} (h : ∀ s, s < f → r s = false) : ∀ k, k ≤ f → alF r f m k = 0 := by
  intro k
  induction k with
  | zero => intro _; rfl
  | succ k ih =>
    intro hk
    rw [alF, if_neg (fun q => by rw [h k (by omega)] at q; exact absurd q.1 (by decide))]
    exact ih (by omega)
theorem or_i (a b : Nat) : nI a ||| nI b = nI (a ||| b) := by
  apply i_ext
  intro i hi
  rw [Int32.toBitVec_or, BitVec.getLsbD_or, nI_b hi, nI_b hi, nI_b hi, Nat.testBit_or]
def rB (z : AH) : Nat → Bool := fun s => decide (¬ hI z 375 s = 0)
theorem few_ok {f a : Nat} {z : AH} (hf : f < 1024) (ha : a < 10) (h1 : hI z 374 1 = nI f) (hr : ∀ s, s < 1024 → (¬ hI z 375 s = 0 ↔ RH f s)) : f_Mating_fewest (nI a) z = some (oI (fwF (rB z) f a 1024), z) := by
  have lo : ∀ s, s < f → rB z s = false := fun s hs => by
    unfold rB
    rw [decide_eq_false_iff_not]
    intro q
    have := RH.ge s ((hr s (by omega)).mp q)
    omega
  rw [f_Mating_fewest, h1, lt_e]
  refine lqc (fun fu j (x : Int32) => f_Mating_fewest_l7 (nI a) fu x (nI (f + j)) z) (fun j x => x = oI (fwF (rB z) f a (f + j))) (fun x => some (x, z)) (1024 - f) (by omega) (-1) (by show -1 = oI (fwF (rB z) f a (f + 0)); rw [Nat.add_zero, fwF_lo lo f (Nat.le_refl _)]; rfl) (fun r e q => ?_) (fun j fu x hj p => ⟨oI (fwF (rB z) f a (f + j + 1)), ?_, rfl⟩) (fun fu x p => ?_)
  · rw [show f + (1024 - f) = 1024 by omega] at q
    rw [← q]; exact e
  · subst p
    show f_Mating_fewest_l7 (nI a) (fu + 1) (oI (fwF (rB z) f a (f + j))) (nI (f + j)) z = f_Mating_fewest_l7 (nI a) fu (oI (fwF (rB z) f a (f + j + 1))) (nI (f + j + 1)) z
    have hs : f + j < 1024 := by omega
    generalize f + j = s at hs ⊢
    have mt : f_Mating_matings (nI s) z = some (nI (pcN s) - nI (pcN f), z) := by
      rw [f_Mating_matings, bc_ok hs, bI_s, h1, bc_ok hf, bI_s]
    rw [f_Mating_fewest_l7, if_neg (show ¬ (1023 : Int32) < nI s from n_nlt (a := 1023) (b := s) (by omega) (by omega)), gx_n _ hs (by omega), ix_n (show s < 2 ^ 31 by omega), bit_n (by omega), fwF]
    simp only [lt_e, nI_1]
    by_cases h0 : hI z 375 s = 0
    · rw [if_pos h0, if_neg (fun q => by unfold rB at q; simp [h0] at q)]
    · have rs := (hr s hs).mp h0
      have pl := RH.pc s rs
      have ps := pcN_le s
      have em : nI (pcN s) - nI (pcN f) = nI (pcN s - pcN f) := n_sb pl (by omega)
      rw [em] at mt
      have r1 : rB z s = true := by unfold rB; simp [h0]
      rw [if_neg h0]
      by_cases hb : s.testBit a = true
      · rw [if_pos hb, if_neg (by decide), if_pos (show rB z s = true ∧ s.testBit a = true from ⟨r1, hb⟩)]
        cases e : fwF (rB z) f a s with
        | none =>
          rw [if_pos (show oI none = -1 from rfl), f_Mating_fewest_b45, mt, bI_s, lt_e, nI_1]
          rfl
        | some m =>
          have hm := fwF_le s m e
          rw [if_neg (show ¬ oI (some m) = -1 from oI_s (by omega)), mt, bI_s]
          by_cases hq : m ≤ pcN s - pcN f
          · rw [if_pos (show oI (some m) ≤ nI (pcN s - pcN f) from nI_le hq (by omega))]
            simp only [hq, if_true]
          · rw [if_neg (show ¬ oI (some m) ≤ nI (pcN s - pcN f) from nI_ge (by omega) (by omega)), f_Mating_fewest_b45, mt, bI_s, lt_e, nI_1]
            simp only [hq, if_false]
            rfl
      · rw [if_neg hb, if_pos rfl, if_neg (fun q => hb q.2)]
  · show f_Mating_fewest_l7 (nI a) (fu + 1) x (nI (f + (1024 - f))) z = _
    rw [show f + (1024 - f) = 1024 by omega, f_Mating_fewest_l7, if_pos (by decide)]
theorem allW_ok {f : Nat} {a : Int32} {z : AH} (hf : f < 1024) (h1 : hI z 374 1 = nI f) (hr : ∀ s, s < 1024 → (¬ hI z 375 s = 0 ↔ RH f s)) : f_Mating_allWithin a z = some (nI (alF (rB z) f a 1024), z) := by
  have lo : ∀ s, s < f → rB z s = false := fun s hs => by
    unfold rB
    rw [decide_eq_false_iff_not]
    intro q
    have := RH.ge s ((hr s (by omega)).mp q)
    omega
  rw [f_Mating_allWithin, h1, lt_e]
  refine lqc (fun fu j (x : Int32) => f_Mating_allWithin_l7 a fu x (nI (f + j)) z) (fun j x => x = nI (alF (rB z) f a (f + j))) (fun x => some (x, z)) (1024 - f) (by omega) 0 (by show 0 = nI (alF (rB z) f a (f + 0)); rw [Nat.add_zero, alF_lo lo f (Nat.le_refl _)]; rfl) (fun r e q => ?_) (fun j fu x hj p => ⟨nI (alF (rB z) f a (f + j + 1)), ?_, rfl⟩) (fun fu x p => ?_)
  · rw [show f + (1024 - f) = 1024 by omega] at q
    rw [← q]; exact e
  · subst p
    show f_Mating_allWithin_l7 a (fu + 1) (nI (alF (rB z) f a (f + j))) (nI (f + j)) z = f_Mating_allWithin_l7 a fu (nI (alF (rB z) f a (f + j + 1))) (nI (f + j + 1)) z
    have hs : f + j < 1024 := by omega
    generalize f + j = s at hs ⊢
    have mt : f_Mating_matings (nI s) z = some (nI (pcN s) - nI (pcN f), z) := by
      rw [f_Mating_matings, bc_ok hs, bI_s, h1, bc_ok hf, bI_s]
    rw [f_Mating_allWithin_l7, if_neg (show ¬ (1023 : Int32) < nI s from n_nlt (a := 1023) (b := s) (by omega) (by omega)), gx_n _ hs (by omega), ix_n (show s < 2 ^ 31 by omega), alF]
    simp only [lt_e, nI_1]
    by_cases h0 : hI z 375 s = 0
    · rw [if_pos h0, if_neg (fun q => by unfold rB at q; simp [h0] at q)]
    · have rs := (hr s hs).mp h0
      have pl := RH.pc s rs
      have ps := pcN_le s
      have em : nI (pcN s) - nI (pcN f) = nI (pcN s - pcN f) := n_sb pl (by omega)
      rw [em] at mt
      have r1 : rB z s = true := by unfold rB; simp [h0]
      rw [if_neg h0, mt, bI_s]
      by_cases hq : nI (pcN s - pcN f) ≤ a
      · rw [if_neg (Int32.not_lt.mpr hq), if_pos (show rB z s = true ∧ nI (pcN s - pcN f) ≤ a from ⟨r1, hq⟩), or_i]
      · rw [if_pos (Int32.not_le.mp hq), if_neg (fun q => hq q.2)]
  · show f_Mating_allWithin_l7 a (fu + 1) x (nI (f + (1024 - f))) z = _
    rw [show f + (1024 - f) = 1024 by omega, f_Mating_allWithin_l7, if_pos (by decide)]
def songS (r : Nat → Bool) (f : Nat) (a : Int32) : Int32 := if 0 ≤ a ∧ a ≤ 9 then oI (fwF r f (ix a) 1024) else -1
def songsS (r : Nat → Bool) (f : Nat) (a : Int32) : Int32 := if 0 ≤ a ∧ a ≤ 9 then nI (alF r f a 1024) else -1
theorem songS_c {r r' : Nat → Bool} {f : Nat} (h : ∀ s, s < 1024 → (r s = true ↔ RH f s)) (h' : ∀ s, s < 1024 → (r' s = true ↔ RH f s)) (a : Int32) : songS r f a = songS r' f a ∧ songsS r f a = songsS r' f a := by
  have e : ∀ s, s < 1024 → r s = r' s := fun s hs => Bool.eq_iff_iff.mpr ((h s hs).trans (h' s hs).symm)
  unfold songS songsS
  rw [fwF_c 1024 e, alF_c 1024 e]
  exact ⟨rfl, rfl⟩
theorem H_song_ok {M : MT} {Y : YT} {u : Nat} {h : AH} (b : SB M) (s : HS h M Y u) (a : Int32) : ∃ r, (∀ x, x < 1024 → (r x = true ↔ RH (soN M Y (mN M)) x)) ∧ (∃ h1, f_H_song a h = some (songS r (soN M Y (mN M)) a, h1) ∧ Fr [375] [(374, 1)] h h1) ∧ ∃ h1, f_H_songs a h = some (songsS r (soN M Y (mN M)) a, h1) ∧ Fr [375] [(374, 1)] h h1 := by
  have hf := soN_lt b Y (mN M) (Nat.le_refl _)
  obtain ⟨h1, e1, f1, v1, r1⟩ := breed_ok hf h
  refine ⟨rB h1, fun x hx => by unfold rB; rw [decide_eq_true_eq]; exact r1 x hx, ?_, ?_⟩
  · rw [f_H_song, within_e, bI_s]
    unfold songS
    by_cases ha : 0 ≤ a ∧ a ≤ 9
    · rw [if_pos ha, if_pos (by decide), if_pos ha]
      obtain ⟨k, hk, rfl⟩ := inR_ix (n := 9) (by omega) ha
      rw [gd_ok _ s.2.1 (kd_u s.1), H_there_ok b s, bI_s, e1, bV_s, few_ok hf (by omega) v1 r1, bI_s, ix_n (show k < 2 ^ 31 by omega)]
      exact ⟨h1, rfl, f1⟩
    · rw [if_neg ha, if_neg (by decide), if_neg ha]
      exact ⟨h, rfl, Fr.rf _ _ _⟩
  · rw [f_H_songs, within_e, bI_s]
    unfold songsS
    by_cases ha : 0 ≤ a ∧ a ≤ 9
    · rw [if_pos ha, if_pos (by decide), if_pos ha]
      rw [gd_ok _ s.2.1 (kd_u s.1), H_there_ok b s, bI_s, e1, bV_s, allW_ok hf v1 r1, bI_s]
      exact ⟨h1, rfl, f1⟩
    · rw [if_neg ha, if_neg (by decide), if_neg ha]
      exact ⟨h, rfl, Fr.rf _ _ _⟩
/-! the reference's levels -/
def DM (f : Nat) (z : AH) : Prop := ∀ s, s < 1024 → hI z 412 s = -1 ∨ (RH f s ∧ hI z 412 s = nI (pcN s - pcN f))
def MoD (z z' : AH) : Prop := ∀ s, s < 1024 → ¬ hI z 412 s = -1 → hI z' 412 s = hI z 412 s
theorem MoD.t {z1 z2 z3 : AH} (a : MoD z1 z2) (b : MoD z2 z3) : MoD z1 z3 := fun s hs hn => by
  have h1 := a s hs hn
  rw [b s hs (by rw [h1]; exact hn), h1]
theorem dm_0 {x : Int32} {m : Nat} (hm : m < 1000) (h : x = -1 ∨ x = nI m) : (0 ≤ x ↔ ¬ x = -1) := by
  rcases h with rfl | rfl
  · decide
  · exact ⟨fun _ => oI_s (by omega), fun _ => nI_le (a := 0) (by omega) (by omega)⟩
theorem isSong_ok {s i : Nat} (hi : i < 32) (h : AH) : f_M_isSongIn (nI s) (nI i) h = some (if s.testBit i = true then 1 else 0, h) := by
  rw [f_M_isSongIn, bit_n hi]
  cases s.testBit i <;> rfl
/-- pairs up to (a, b) of set s are done -/
def CL (s a b : Nat) (z : AH) : Prop := ∀ x y, (x < a ∨ (x = a ∧ y < b)) → y ≤ x → x < 10 → s.testBit x = true → s.testBit y = true → ¬ hI z 412 (addS s ((x + y) % 10)) = -1
def LV (f L : Nat) (s : Nat) (a b : Nat) (z0 z : AH) : Prop := Fr [412] [] z0 z ∧ DM f z ∧ MoD z0 z ∧ CL s a b z ∧ RH f s ∧ s < 1024 ∧ pcN s - pcN f = L ∧ hI z 412 s = nI L
theorem mate_b {f L s a : Nat} (hL : L < 10) (ha : a < 10) (K2 : Int32 → AH → Option AH) (K : Int32 → Int32 → AH → Option AH) {z0 z : AH} (q : LV f L s a 0 z0 z) : ∃ z1, f_M_goMatings_l33 (nI L) K2 K FU (nI s) (nI a) 0 z = K (nI s) (nI (a + 1)) z1 ∧ LV f L s (a + 1) 0 z0 z1 := by
  refine lqc (fun fu b (w : AH) => f_M_goMatings_l33 (nI L) K2 K fu (nI s) (nI a) (nI b) w) (fun b w => LV f L s a b z0 w) (fun w => K (nI s) (nI (a + 1)) w) (a + 1) (by omega) z q (fun r e q => ⟨r, e, q.1, q.2.1, q.2.2.1, fun x y hxy hy hx => q.2.2.2.1 x y (by omega) hy hx, q.2.2.2.2⟩) (fun b fu w hb p => ?_) (fun fu w p => ?_)
  · obtain ⟨f1, d1, m1, c1, rs, hs, pl, ds⟩ := p
    show ∃ s', f_M_goMatings_l33 (nI L) K2 K (fu + 1) (nI s) (nI a) (nI b) w = f_M_goMatings_l33 (nI L) K2 K fu (nI s) (nI a) (nI (b + 1)) s' ∧ LV f L s a (b + 1) z0 s'
    rw [f_M_goMatings_l33, if_neg (n_nlt (by omega) (by omega)), isSong_ok (by omega), bI_s, isSong_ok (by omega), bI_s]
    simp only [lt_e, nI_1]
    have skip : (s.testBit a = true → s.testBit b = true → ¬ hI w 412 (addS s ((a + b) % 10)) = -1) → LV f L s a (b + 1) z0 w := fun hh => ⟨f1, d1, m1, fun x y hxy hy hx bx by' => by
      by_cases e : x = a ∧ y = b
      · rw [e.1, e.2]
        rw [e.1] at bx
        rw [e.2] at by'
        exact hh bx by'
      · exact c1 x y (by omega) hy hx bx by', rs, hs, pl, ds⟩
    by_cases ba : s.testBit a = true
    · rw [if_pos ba, if_neg (by decide)]
      by_cases bb : s.testBit b = true
      · have hc : (a + b) % 10 < 10 := Nat.mod_lt _ (by omega)
        have tl := addS_lt hs hc
        rw [if_pos bb, if_pos (by decide), n_add, show nI (a + b) - nI (a + b) / 10 * 10 = nI ((a + b) % 10) from n_md (a := a + b) (b := 10) (by omega) (by omega) (by omega), addS_i (by omega), gx_n _ tl (by omega), gx_n _ tl (by omega), ix_n (show addS s ((a + b) % 10) < 2 ^ 31 by omega)]
        have hch : chB s ((a + b) % 10) := ⟨a, b, ha, by omega, ba, bb, rfl⟩
        have rt := rs.st hc hch
        have pt := pcN_le (addS s ((a + b) % 10))
        have d0 := dm_0 (x := hI w 412 (addS s ((a + b) % 10))) (m := pcN (addS s ((a + b) % 10)) - pcN f) (by omega) ((d1 _ tl).imp id (fun q => q.2))
        by_cases h0 : 0 ≤ hI w 412 (addS s ((a + b) % 10))
        · rw [if_pos h0]
          exact ⟨w, rfl, skip (fun _ _ => d0.mp h0)⟩
        · rw [if_neg h0]
          have hm : hI w 412 (addS s ((a + b) % 10)) = -1 := by
            rcases d1 _ tl with q | q
            · exact q
            · exact absurd (d0.mpr (by rw [q.2]; exact oI_s (by omega))) h0
          have ne : pcN (addS s ((a + b) % 10)) = pcN s + 1 := by
            rcases pc_add s hc with q | q
            · rw [q.1, ds] at hm; exact absurd hm (oI_s (by omega))
            · exact q.1
          have nes : ¬ addS s ((a + b) % 10) = s := fun e => by rw [e] at ne; omega
          have pf := RH.pc s rs
          have ev : nI (L + 1) = nI (pcN (addS s ((a + b) % 10)) - pcN f) := by rw [ne]; congr 1; omega
          have ww : ∀ t, hI (sI w 412 (addS s ((a + b) % 10)) (nI (L + 1))) 412 t = if t = addS s ((a + b) % 10) then nI (L + 1) else hI w 412 t := fun t => by
            rw [hI_sI]
            by_cases e : t = addS s ((a + b) % 10)
            · rw [if_pos ⟨rfl, e⟩, if_pos e]
            · rw [if_neg (fun q => e q.2), if_neg e]
          refine ⟨_, rfl, f1.s (by simp) _ _, fun t ht => ?_, m1.t (fun t ht hn => ?_), fun x y hxy hy hx bx by' => ?_, rs, hs, pl, ?_⟩
          · rw [ww]
            by_cases e : t = addS s ((a + b) % 10)
            · rw [if_pos e]; right; rw [e]; exact ⟨rt, ev⟩
            · rw [if_neg e]; exact d1 t ht
          · rw [ww, if_neg (fun e => by rw [e] at hn; exact hn hm)]
          · rw [ww]
            by_cases e : addS s ((x + y) % 10) = addS s ((a + b) % 10)
            · rw [if_pos e]; exact oI_s (by omega)
            · rw [if_neg e]
              by_cases e2 : x = a ∧ y = b
              · rw [e2.1, e2.2] at e; exact absurd rfl e
              · exact c1 x y (by omega) hy hx bx by'
          · rw [ww, if_neg (fun e => nes e.symm)]; exact ds
      · rw [if_neg bb, if_neg (by decide)]
        exact ⟨w, rfl, skip (fun _ q => absurd q bb)⟩
    · rw [if_neg ba, if_pos rfl]
      exact ⟨w, rfl, skip (fun q => absurd q ba)⟩
  · show f_M_goMatings_l33 (nI L) K2 K (fu + 1) (nI s) (nI a) (nI (a + 1)) w = _
    rw [f_M_goMatings_l33, if_pos (n_lt (by omega) (by omega)), lt_e, nI_1]
theorem mate_a {f L s : Nat} (hL : L < 10) (K2 : Int32 → AH → Option AH) {z0 z : AH} (q : LV f L s 0 0 z0 z) : ∃ z1, f_M_goMatings_l24 (nI L) K2 FU (nI s) 0 z = K2 (nI (s + 1)) z1 ∧ LV f L s 10 0 z0 z1 := by
  refine lqc (fun fu a (w : AH) => f_M_goMatings_l24 (nI L) K2 fu (nI s) (nI a) w) (fun a w => LV f L s a 0 z0 w) (fun w => K2 (nI (s + 1)) w) 10 (by omega) z q (fun r e q => ⟨r, e, q⟩) (fun a fu w ha p => ?_) (fun fu w p => ?_)
  · obtain ⟨z1, e1, p1⟩ := mate_b hL ha K2 (f_M_goMatings_l24 (nI L) K2 fu) p
    refine ⟨z1, ?_, p1⟩
    show f_M_goMatings_l24 (nI L) K2 (fu + 1) (nI s) (nI a) w = _
    rw [f_M_goMatings_l24, if_neg (show ¬ (10 : Int32) ≤ nI a from nI_ge (a := a) (b := 10) ha (by omega))]
    exact e1
  · show f_M_goMatings_l24 (nI L) K2 (fu + 1) (nI s) (nI 10) w = _
    rw [f_M_goMatings_l24, if_pos (by decide), lt_e, nI_1]
/-- all of depth up to L are found -/
def FD (f L : Nat) (z : AH) : Prop := ∀ s, RH f s → pcN s - pcN f ≤ L → ¬ hI z 412 s = -1
theorem chB_w {s c : Nat} (h : chB s c) : ∃ x y, y ≤ x ∧ x < 10 ∧ s.testBit x = true ∧ s.testBit y = true ∧ (x + y) % 10 = c := by
  obtain ⟨a, b, ha, hb, h1, h2, h3⟩ := h
  by_cases q : b ≤ a
  · exact ⟨a, b, q, ha, h1, h2, h3⟩
  · exact ⟨b, a, by omega, hb, h2, h1, by rw [Nat.add_comm]; exact h3⟩
theorem goM_ok {f L : Nat} (hf : f < 1024) (hL : L < 10) {z : AH} (d : DM f z) (q : FD f L z) : ∃ z1, f_M_goMatings (nI L) z = some z1 ∧ Fr [412] [] z z1 ∧ DM f z1 ∧ FD f (L + 1) z1 := by
  rw [f_M_goMatings]
  refine lqc (fun fu s (w : AH) => f_M_goMatings_l2 (nI L) fu (nI s) w) (fun s w => Fr [412] [] z w ∧ DM f w ∧ MoD z w ∧ FD f L w ∧ ∀ t, t < s → RH f t → pcN t - pcN f = L → ∀ c, c < 10 → chB t c → ¬ hI w 412 (addS t c) = -1) (fun w => some w) 1024 (by omega) z ⟨Fr.rf _ _ _, d, fun s hs hn => rfl, q, fun t ht => by omega⟩ (fun r e p => ⟨r, e, p.1, p.2.1, fun s rs hs => ?_⟩) (fun s fu w hs p => ?_) (fun fu w p => ?_)
  · obtain ⟨p1, p2, p3, p4, p5⟩ := p
    by_cases h : pcN s - pcN f ≤ L
    · exact p4 s rs h
    · rcases RH.last s rs with e | ⟨t, c, rt, hc, hb, e, pe⟩
      · rw [e] at h; omega
      · have pf := RH.pc t rt
        rw [e]
        exact p5 t (RH.lt hf t rt) rt (by omega) c hc hb
  · obtain ⟨p1, p2, p3, p4, p5⟩ := p
    show ∃ s', f_M_goMatings_l2 (nI L) (fu + 1) (nI s) w = f_M_goMatings_l2 (nI L) fu (nI (s + 1)) s' ∧ _
    rw [f_M_goMatings_l2, if_neg (show ¬ (1024 : Int32) ≤ nI s from nI_ge (a := s) (b := 1024) hs (by omega)), gx_n _ hs (by omega), ix_n (show s < 2 ^ 31 by omega)]
    by_cases h : hI w 412 s = nI L
    · rw [if_pos h]
      have rs : RH f s ∧ pcN s - pcN f = L := by
        rcases p2 s hs with q | q
        · rw [h] at q; exact absurd q (oI_s (by omega))
        · have := pcN_le s
          exact ⟨q.1, ((n_eqv (by omega) (by omega)).mp (h.symm.trans q.2)).symm⟩
      obtain ⟨z1, e1, g1, g2, g3, g4, -⟩ := mate_a hL (f_M_goMatings_l2 (nI L) fu) (z0 := w) (z := w) (f := f) (s := s) ⟨Fr.rf _ _ _, p2, fun s hs hn => rfl, fun x y hxy hy hx => by omega, rs.1, hs, rs.2, h⟩
      refine ⟨z1, e1, p1.t g1, g2, p3.t g3, fun t rt ht => ?_, fun t ht rt hp c hc hb => ?_⟩
      · have := p4 t rt ht
        rw [g3 t (RH.lt hf t rt) this]; exact this
      · by_cases e : t = s
        · subst e
          obtain ⟨x, y, hy, hx, bx, by', exy⟩ := chB_w hb
          rw [← exy]
          exact g4 x y (by omega) hy hx bx by'
        · have := p5 t (by omega) rt hp c hc hb
          rw [g3 _ (addS_lt (RH.lt hf t rt) hc) this]; exact this
    · rw [if_neg h, lt_e, nI_1]
      refine ⟨w, rfl, p1, p2, p3, p4, fun t ht rt hp c hc hb => ?_⟩
      by_cases e : t = s
      · subst e
        exfalso
        have hn := p4 t rt (by omega)
        rcases p2 t hs with q | q
        · exact hn q
        · rw [hp] at q; exact h q.2
      · exact p5 t (by omega) rt hp c hc hb
  · show f_M_goMatings_l2 (nI L) (fu + 1) (nI 1024) w = _
    rw [f_M_goMatings_l2, if_pos (by decide)]
theorem lay_M {M : MT} {Y : YT} {h : AH} (b : SB M) (s : MS h M Y) : ∃ h1, f_M_layMatings h = some h1 ∧ Fr [412] [] h h1 ∧ DM (soN M Y (mN M)) h1 ∧ FD (soN M Y (mN M)) 10 h1 := by
  have hf := soN_lt b Y (mN M) (Nat.le_refl _)
  rw [f_M_layMatings]
  refine lpc (fun fu k (w : AH) => f_M_layMatings_l2 fu (nI k) w) (fun k w => Fr [412] [] h w ∧ ∀ x, x < k → hI w 412 x = -1) (fun r => Fr [412] [] h r ∧ DM (soN M Y (mN M)) r ∧ FD (soN M Y (mN M)) 10 r) 1024 (by omega) h ⟨Fr.rf _ _ _, fun x hx => by omega⟩ (fun r e q => ⟨r, e, q⟩) (fun k fu w hk p => Or.inl ?_) (fun fu w p => ?_)
  · obtain ⟨f1, a1⟩ := p
    refine ⟨sI w 412 k (-1), ?_, f1.s (by simp) _ _, fun x hx => ?_⟩
    · show f_M_layMatings_l2 (fu + 1) (nI k) w = f_M_layMatings_l2 fu (nI (k + 1)) (sI w 412 k (-1))
      rw [f_M_layMatings_l2, if_neg (show ¬ (1024 : Int32) ≤ nI k from nI_ge (a := k) (b := 1024) hk (by omega)), gx_n _ hk (by omega), lt_e, lt_e, nI_1, ix_n (show k < 2 ^ 31 by omega)]
    · rw [hI_sI]
      by_cases e : x = k
      · rw [if_pos ⟨rfl, e⟩]
      · rw [if_neg (fun q => e q.2)]; exact a1 x (by omega)
  · obtain ⟨f1, a1⟩ := p
    have s1 : MS w M Y := ⟨s.1.fr f1 (by simp) (by simp), fun k hk => by rw [f1.i _ _ (by simp) (by simp)]; exact s.2 k hk⟩
    generalize hF : soN M Y (mN M) = F at hf ⊢
    have go : ∃ r, f_M_layMatings_l34 FU 0 (sI w 412 F 0) = some r ∧ Fr [412] [] h r ∧ DM F r ∧ FD F 10 r := by
      have w0 : ∀ t, hI (sI w 412 F 0) 412 t = if t = F then 0 else hI w 412 t := fun t => by
        rw [hI_sI]
        by_cases e : t = F
        · rw [if_pos ⟨rfl, e⟩, if_pos e]
        · rw [if_neg (fun q => e q.2), if_neg e]
      refine lqc (fun fu L (v : AH) => f_M_layMatings_l34 fu (nI L) v) (fun L v => Fr [412] [] h v ∧ DM F v ∧ FD F L v) (fun v => some v) 10 (by omega) (sI w 412 F 0) ⟨f1.s (by simp) _ _, fun t ht => ?_, fun t rt ht => ?_⟩ (fun r e q => ⟨r, e, q⟩) (fun L fu v hL p => ?_) (fun fu v p => ?_)
      · rw [w0]
        by_cases e : t = F
        · rw [if_pos e, e]; right; exact ⟨RH.f F, by rw [Nat.sub_self]; rfl⟩
        · rw [if_neg e]; left; exact a1 t ht
      · rw [w0]
        have : t = F := by
          rcases RH.last t rt with e | ⟨t', c, rt', hc, hb, e, pe⟩
          · exact e
          · have := RH.pc t' rt'; omega
        rw [if_pos this]; decide
      · obtain ⟨v1, v2, v3⟩ := p
        obtain ⟨z1, e1, g1, g2, g3⟩ := goM_ok hf hL v2 v3
        refine ⟨z1, ?_, v1.t g1, g2, g3⟩
        show f_M_layMatings_l34 (fu + 1) (nI L) v = f_M_layMatings_l34 fu (nI (L + 1)) z1
        rw [f_M_layMatings_l34, if_neg (show ¬ (10 : Int32) ≤ nI L from nI_ge (a := L) (b := 10) hL (by omega)), e1, bV_s, lt_e, nI_1]
      · show f_M_layMatings_l34 (fu + 1) (nI 10) v = _
        rw [f_M_layMatings_l34, if_pos (by decide)]
    obtain ⟨r, er, q⟩ := go
    refine ⟨r, ?_, q⟩
    show f_M_layMatings_l2 (fu + 1) (nI 1024) w = some r
    rw [f_M_layMatings_l2, if_pos (by decide), M_there_ok b s1, bI_s, hF, gx_n _ hf (by omega), lt_e, ix_n (show F < 2 ^ 31 by omega)]
    exact er
def rD (z : AH) : Nat → Bool := fun s => decide (¬ hI z 412 s = -1)
theorem M_song_ok {M : MT} {Y : YT} {h : AH} (b : SB M) (s : MS h M Y) (a : Int32) : ∃ r, (∀ x, x < 1024 → (r x = true ↔ RH (soN M Y (mN M)) x)) ∧ (∃ h1, f_M_song a h = some (songS r (soN M Y (mN M)) a, h1) ∧ Fr [412] [] h h1) ∧ ∃ h1, f_M_songs a h = some (songsS r (soN M Y (mN M)) a, h1) ∧ Fr [412] [] h h1 := by
  have hf := soN_lt b Y (mN M) (Nat.le_refl _)
  obtain ⟨h1, e1, f1, d1, q1⟩ := lay_M b s
  generalize soN M Y (mN M) = F at hf d1 q1 ⊢
  have rr : ∀ x, x < 1024 → (rD h1 x = true ↔ RH F x) := fun x hx => by
    unfold rD
    rw [decide_eq_true_eq]
    constructor
    · intro hn
      rcases d1 x hx with q | q
      · exact absurd q hn
      · exact q.1
    · intro r
      have := pcN_le x
      exact q1 x r (by omega)
  have dv : ∀ x, x < 1024 → rD h1 x = true → hI h1 412 x = nI (pcN x - pcN F) := fun x hx hr => by
    rcases d1 x hx with q | q
    · unfold rD at hr; simp [q] at hr
    · exact q.2
  have dn : ∀ x, ¬ rD h1 x = true → hI h1 412 x = -1 := fun x hr => by
    unfold rD at hr
    simpa using hr
  refine ⟨rD h1, rr, ?_, ?_⟩
  · rw [f_M_song, isIn_e, bI_s]
    unfold songS
    by_cases ha : 0 ≤ a ∧ a ≤ 9
    · rw [if_pos ha, if_pos (by decide), if_pos ha]
      obtain ⟨a, hk, rfl⟩ := inR_ix (n := 9) (by omega) ha
      rw [e1, bV_s, ix_n (show a < 2 ^ 31 by omega)]
      refine lqc (fun fu k (x : Int32) => f_M_song_l20 (nI a) fu x (nI k) h1) (fun k x => x = oI (fwF (rD h1) F a k)) (fun x => some (x, h1)) 1024 (by omega) (-1) rfl (fun r e q => ⟨h1, by rw [← q]; exact e, f1⟩) (fun k fu x hk p => ⟨oI (fwF (rD h1) F a (k + 1)), ?_, rfl⟩) (fun fu x p => ?_)
      · subst p
        have ps := pcN_le k
        show f_M_song_l20 (nI a) (fu + 1) (oI (fwF (rD h1) F a k)) (nI k) h1 = f_M_song_l20 (nI a) fu (oI (fwF (rD h1) F a (k + 1))) (nI (k + 1)) h1
        rw [f_M_song_l20, if_neg (show ¬ (1024 : Int32) ≤ nI k from nI_ge (a := k) (b := 1024) hk (by omega)), isSong_ok (by omega), bI_s, gx_n _ hk (by omega), gx_n _ hk (by omega), ix_n (show k < 2 ^ 31 by omega), fwF]
        simp only [lt_e, nI_1]
        by_cases hb : k.testBit a = true
        · rw [if_pos hb, if_neg (by decide)]
          by_cases hr : rD h1 k = true
          · have b58 : ∀ K : Int32 → Int32 → AH → Option (Int32 × AH), f_M_song_b58 (nI a) K (nI k) h1 = K (nI (pcN k - pcN F)) (nI (k + 1)) h1 := fun K => by
              rw [f_M_song_b58, gx_n _ hk (by omega), lt_e, lt_e, nI_1, ix_n (show k < 2 ^ 31 by omega), dv k hk hr]
            rw [dv k hk hr, if_neg (show ¬ nI (pcN k - pcN F) < 0 from n_nlt (b := 0) (by omega) (by omega)), if_pos (show rD h1 k = true ∧ k.testBit a = true from ⟨hr, hb⟩), b58]
            cases e : fwF (rD h1) F a k with
            | none =>
              rw [if_pos (show oI none < 0 by decide)]
              rfl
            | some m =>
              have hm := fwF_le k m e
              rw [if_neg (show ¬ oI (some m) < 0 from oI_p (by omega))]
              by_cases hq : m ≤ pcN k - pcN F
              · rw [if_pos (show oI (some m) ≤ nI (pcN k - pcN F) from nI_le hq (by omega))]
                simp only [hq, if_true]
              · rw [if_neg (show ¬ oI (some m) ≤ nI (pcN k - pcN F) from nI_ge (by omega) (by omega))]
                simp only [hq, if_false]
                rfl
          · rw [dn k hr, if_pos (by decide), if_neg (fun q => hr q.1)]
        · rw [if_neg hb, if_pos rfl, if_neg (fun q => hb q.2)]
      · show f_M_song_l20 (nI a) (fu + 1) x (nI 1024) h1 = _
        rw [f_M_song_l20, if_pos (by decide)]
    · rw [if_neg ha, if_neg (by decide), if_neg ha]
      exact ⟨h, rfl, Fr.rf _ _ _⟩
  · rw [f_M_songs, isIn_e, bI_s]
    unfold songsS
    by_cases ha : 0 ≤ a ∧ a ≤ 9
    · rw [if_pos ha, if_pos (by decide), if_pos ha, e1, bV_s]
      refine lqc (fun fu k (x : Int32) => f_M_songs_l20 a fu x (nI k) h1) (fun k x => x = nI (alF (rD h1) F a k)) (fun x => some (x, h1)) 1024 (by omega) 0 rfl (fun r e q => ⟨h1, by rw [← q]; exact e, f1⟩) (fun k fu x hk p => ⟨nI (alF (rD h1) F a (k + 1)), ?_, rfl⟩) (fun fu x p => ?_)
      · subst p
        have ps := pcN_le k
        show f_M_songs_l20 a (fu + 1) (nI (alF (rD h1) F a k)) (nI k) h1 = f_M_songs_l20 a fu (nI (alF (rD h1) F a (k + 1))) (nI (k + 1)) h1
        rw [f_M_songs_l20, if_neg (show ¬ (1024 : Int32) ≤ nI k from nI_ge (a := k) (b := 1024) hk (by omega)), gx_n _ hk (by omega), ix_n (show k < 2 ^ 31 by omega), isIn_e, bI_s, alF]
        simp only [lt_e, nI_1]
        by_cases hr : rD h1 k = true
        · rw [dv k hk hr]
          by_cases hq : nI (pcN k - pcN F) ≤ a
          · rw [if_pos (show 0 ≤ nI (pcN k - pcN F) ∧ nI (pcN k - pcN F) ≤ a from ⟨nI_le (a := 0) (by omega) (by omega), hq⟩), if_neg (by decide), if_pos (show rD h1 k = true ∧ nI (pcN k - pcN F) ≤ a from ⟨hr, hq⟩), or_i]
          · rw [if_neg (show ¬ (0 ≤ nI (pcN k - pcN F) ∧ nI (pcN k - pcN F) ≤ a) from fun q => hq q.2), if_pos rfl, if_neg (show ¬ (rD h1 k = true ∧ nI (pcN k - pcN F) ≤ a) from fun q => hq q.2)]
        · rw [dn k hr, if_neg (show ¬ ((0 : Int32) ≤ -1 ∧ -1 ≤ a) from fun q => absurd q.1 (by decide)), if_pos rfl, if_neg (show ¬ (rD h1 k = true ∧ nI (pcN k - pcN F) ≤ a) from fun q => hr q.1)]
      · show f_M_songs_l20 a (fu + 1) x (nI 1024) h1 = _
        rw [f_M_songs_l20, if_pos (by decide)]
    · rw [if_neg ha, if_neg (by decide), if_neg ha]
      exact ⟨h, rfl, Fr.rf _ _ _⟩
