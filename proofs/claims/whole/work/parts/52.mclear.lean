/-! ===== clear, the reference's ===== -/
def sufC (A : Nat → Nat) (n s : Nat) : Nat → Nat
  | 0 => 0
  | j + 1 => sufC A n s j + (if A (n - 1 - j) = s + 1 then 1 else 0)
def sufM (A : Nat → Nat) (n : Nat) : Nat → Nat
  | 0 => 0
  | j + 1 => sufM A n j + (if A (n - 1 - j) = 0 then 0 else 1)
def sufP (P : Nat → Nat → Int32) (A : Nat → Nat) (n : Nat) : Nat → Int32
  | 0 => 0
  | j + 1 => sufP P A n j + (if A (n - 1 - j) = 0 then 0 else P (n - 1 - j) (A (n - 1 - j) - 1))
theorem sufC_e (A : Nat → Nat) (n s : Nat) : ∀ j, j ≤ n → preC A s (n - j) + sufC A n s j = preC A s n := by
  intro j
  induction j with
  | zero => intro _; rfl
  | succ j ih =>
    intro h
    rw [← ih (by omega), show n - j = (n - 1 - j) + 1 by omega, show n - (j + 1) = n - 1 - j by omega]
    show preC A s (n - 1 - j) + (sufC A n s j + _) = preC A s (n - 1 - j) + _ + sufC A n s j
    omega
theorem sufM_e (A : Nat → Nat) (n : Nat) : ∀ j, j ≤ n → manyA A (n - j) + sufM A n j = manyA A n := by
  intro j
  induction j with
  | zero => intro _; rfl
  | succ j ih =>
    intro h
    rw [← ih (by omega), show n - j = (n - 1 - j) + 1 by omega, show n - (j + 1) = n - 1 - j by omega]
    show manyA A (n - 1 - j) + (sufM A n j + _) = manyA A (n - 1 - j) + _ + sufM A n j
    omega
theorem sufP_e (P : Nat → Nat → Int32) (A : Nat → Nat) (n : Nat) : ∀ j, j ≤ n → paidA P A (n - j) + sufP P A n j = paidA P A n := by
  intro j
  induction j with
  | zero => intro _; exact Int32.add_zero _
  | succ j ih =>
    intro h
    rw [← ih (by omega), show n - j = (n - 1 - j) + 1 by omega, show n - (j + 1) = n - 1 - j by omega]
    show paidA P A (n - 1 - j) + (sufP P A n j + (if A (n - 1 - j) = 0 then 0 else P (n - 1 - j) (A (n - 1 - j) - 1))) = paidA P A (n - 1 - j) + (if A (n - 1 - j) = 0 then 0 else P (n - 1 - j) (A (n - 1 - j) - 1)) + sufP P A n j
    rw [Int32.add_assoc, Int32.add_comm (if A (n - 1 - j) = 0 then 0 else _)]
theorem sufC_le (A : Nat → Nat) (n s : Nat) : ∀ j, sufC A n s j ≤ j := by
  intro j
  induction j with
  | zero => exact Nat.le_refl _
  | succ j ih => show sufC A n s j + (if _ then 1 else 0) ≤ j + 1; split <;> omega
theorem over_ok {M : MT} {Y : YT} {z : AH} (hM : MM z M) (hY : AY z Y) (b : BN M Y) {s : Nat} (hs : s < mN M) : f_M_over (nI s) z = some (nI ((qC M Y).2.2.1 s), z) ∧ (qC M Y).2.2.1 s ≤ 1000000 := by
  have h6 := hM.1.2.1
  obtain ⟨⟨b1, b2⟩, ⟨b3, b4⟩, -⟩ := b s hs
  have e6 : (6 : Int32) + nI s = nI (6 + s) := n_add 6 s
  have e1 : (Y (6 + s) - mNd M s).toInt = (Y (6 + s)).toInt - (mNd M s).toInt := i_sub (by omega) (by omega)
  have eq : (qC M Y).2.2.1 s = (Y (6 + s) - mNd M s).toInt.toNat := rfl
  refine ⟨?_, by rw [eq, e1]; omega⟩
  rw [f_M_over, e6, gx_n _ (show 6 + s < 35 by omega) (by omega), gx_n _ (show s < 6 by omega) (by omega), gx_n _ (show 6 + s < 35 by omega) (by omega), gx_n _ (show s < 6 by omega) (by omega), ix_n (show 6 + s < 2 ^ 31 by omega), ix_n (show s < 2 ^ 31 by omega), hY (6 + s) (by omega), (hM.1.2.2 s hs).2.2, eq]
  by_cases h : Y (6 + s) ≤ mNd M s
  · rw [if_pos h]
    have := i_le.mp h
    rw [show (Y (6 + s) - mNd M s).toInt.toNat = 0 by omega]
    rfl
  · rw [if_neg h]
    have : ¬ (Y (6 + s)).toInt ≤ (mNd M s).toInt := fun q => h (i_le.mpr q)
    rw [← (i_nat (x := Y (6 + s) - mNd M s) (by omega)).1]
theorem wants_ok {M : MT} {Y : YT} {z : AH} (hM : MM z M) (hY : AY z Y) {d : Nat} (hd : d < mN M) : f_M_wants (nI d) z = some (if (qC M Y).2.1 d = true then 1 else 0, z) := by
  have h6 := hM.1.2.1
  have e6 : (6 : Int32) + nI d = nI (6 + d) := n_add 6 d
  have eq : (qC M Y).2.1 d = decide (Y (6 + d) < mNd M d) := rfl
  rw [f_M_wants, e6, gx_n _ (show 6 + d < 35 by omega) (by omega), gx_n _ (show d < 6 by omega) (by omega), ix_n (show 6 + d < 2 ^ 31 by omega), ix_n (show d < 2 ^ 31 by omega), hY (6 + d) (by omega), (hM.1.2.2 d hd).2.2, eq]
  by_cases h : Y (6 + d) < mNd M d
  · rw [if_neg (Int32.not_le.mpr h), if_pos (by simp [h])]
  · rw [if_pos (Int32.not_lt.mp h), if_neg (by simp [h])]
def dz (m : Nat) : Int32 := nI m - 1
theorem dz_p {m : Nat} (h : 0 < m) : dz m = nI (m - 1) := by
  obtain ⟨k, rfl⟩ : ∃ k, m = k + 1 := ⟨m - 1, by omega⟩
  exact nI_s1 k
theorem dz_0 : dz 0 < 0 := by decide
theorem canSell_ok {M : MT} {Y : YT} {z : AH} (hM : MM z M) (hY : AY z Y) (b : BN M Y) {d e : Nat} (hd : d < mN M) (he : e < mN M + 1) : ∃ z1, f_M_canSell (nI d) (dz e) z = some (if okD (qC M Y) d e = true then 1 else 0, z1) ∧ Fr sc [] z z1 := by
  have h6 := hM.1.2.1
  rw [f_M_canSell]
  by_cases h0 : e = 0
  · subst h0
    rw [if_pos dz_0, if_pos (by unfold okD; simp)]
    exact ⟨z, rfl, Fr.rf _ _ _⟩
  · have ed : dz e = nI (e - 1) := dz_p (by omega)
    have eo : okD (qC M Y) d e = (!decide (e = d + 1) && (qC M Y).2.1 d && decide (0 < (qC M Y).2.2.1 (e - 1)) && (qC M Y).2.2.2.1 d (e - 1)) := by
      unfold okD
      rw [decide_eq_false h0, Bool.false_or]
    rw [ed, if_neg (show ¬ nI (e - 1) < 0 from n_nlt (a := e - 1) (b := 0) (by omega) (by omega)), eo]
    by_cases h1 : e = d + 1
    · subst h1
      rw [show d + 1 - 1 = d from rfl, if_pos rfl, if_neg (by simp)]
      exact ⟨z, rfl, Fr.rf _ _ _⟩
    · rw [if_neg (fun q => by have := (n_eqv (by omega) (by omega)).mp q; omega), wants_ok hM hY hd, bI_s]
      by_cases h2 : (qC M Y).2.1 d = true
      · rw [if_pos h2, if_neg (by decide), (over_ok hM hY b (show e - 1 < mN M by omega)).1, bI_s]
        have ob := (over_ok hM hY b (show e - 1 < mN M by omega)).2
        by_cases h3 : 0 < (qC M Y).2.2.1 (e - 1)
        · rw [if_neg (show ¬ nI ((qC M Y).2.2.1 (e - 1)) ≤ 0 from nI_ge (a := 0) h3 (by omega))]
          obtain ⟨z1, e1, f1⟩ := M_priceOf_ok hM hY hd (show e - 1 < mN M by omega)
          have eg : (qC M Y).2.2.2.1 d (e - 1) = decide (priceS M Y d (e - 1) ≤ Y d) := rfl
          rw [e1, bI_s, gx_n _ (show d < 35 by omega) (by omega), ix_n (show d < 2 ^ 31 by omega), f1.i _ _ (by simp) (by simp), hY d (by omega), eg]
          refine ⟨z1, ?_, f1⟩
          by_cases h4 : priceS M Y d (e - 1) ≤ Y d
          · rw [if_neg (Int32.not_lt.mpr h4), if_pos (by simp [h1, h2, h3, h4])]
          · rw [if_pos (Int32.not_le.mp h4), if_neg (by simp [h4])]
        · rw [if_pos (show nI ((qC M Y).2.2.1 (e - 1)) ≤ 0 from nI_le (b := 0) (by omega) (by omega)), if_neg (by simp [h3])]
          exact ⟨z, rfl, Fr.rf _ _ _⟩
      · rw [if_neg h2, if_pos rfl, if_neg (by simp [h2])]
        exact ⟨z, rfl, Fr.rf _ _ _⟩
abbrev scS : List Nat := [393, 395, 410, 411]
abbrev plS : List (Nat × Nat) := [(383, 60), (383, 61)]
def dgA (n v : Nat) : Nat → Nat := fun d => v / (n + 1) ^ (n - 1 - d) % (n + 1)
theorem dgA_lt (n v d : Nat) : dgA n v d < n + 1 := Nat.mod_lt _ (by omega)
def LY (M : MT) (Y : YT) (v j : Nat) (z0 z : AH) : Prop := Fr scS plS z0 z ∧ MM z M ∧ AY z Y ∧ (∀ s, s < mN M → hI z 411 s = nI (sufC (dgA (mN M) v) (mN M) s j)) ∧ hI z 383 60 = nI (sufM (dgA (mN M) v) (mN M) j) ∧ hI z 383 61 = sufP (priceS M Y) (dgA (mN M) v) (mN M) j ∧ (∀ d, mN M - j ≤ d → d < mN M → hI z 410 d = lA (dgA (mN M) v) d ∧ okD (qC M Y) d (dgA (mN M) v d) = true) ∧ ∀ s, s < mN M → sufC (dgA (mN M) v) (mN M) s j ≤ (qC M Y).2.2.1 s
theorem lay_ok {M : MT} {Y : YT} {z : AH} (hM : MM z M) (hY : AY z Y) (b : BN M Y) {v : Nat} (hv : v < 200000) : ∃ z1, f_M_laySellers (nI v) z = some (if valC (qC M Y) (dgA (mN M) v) then 1 else 0, z1) ∧ Fr scS plS z z1 ∧ (valC (qC M Y) (dgA (mN M) v) → hI z1 383 60 = nI (manyA (dgA (mN M) v) (mN M)) ∧ hI z1 383 61 = paidA (priceS M Y) (dgA (mN M) v) (mN M) ∧ ∀ d, d < mN M → hI z1 410 d = lA (dgA (mN M) v) d) := by
  have h6 := hM.1.2.1
  have bb : hI z 383 43 + 1 = nI (mN M + 1) := by rw [hM.1.1, nI_1]
  rw [f_M_laySellers, lt_e, lt_e]
  have f0 : Fr scS plS z (sI (sI z 383 60 0) 383 61 0) := ((Fr.rf _ _ _).p (by simp) _).p (by simp) _
  have z60 : hI (sI (sI z 383 60 0) 383 61 0) 383 60 = 0 := by rw [hI_sI, if_neg (by decide), hI_sI_s]
  have z61 : hI (sI (sI z 383 60 0) 383 61 0) 383 61 = 0 := hI_sI_s _ _ _ _
  generalize sI (sI z 383 60 0) 383 61 0 = z0 at f0 z60 z61 ⊢
  refine lqc (fun fu k (w : AH) => f_M_laySellers_l14 (nI v) fu (nI v) (nI k) w) (fun k w => Fr scS plS z w ∧ hI w 383 60 = 0 ∧ hI w 383 61 = 0 ∧ ∀ s, s < k → hI w 411 s = 0) (fun w => f_M_laySellers_l42 (nI v) FU (nI v) (dz (mN M)) w) (mN M) (by omega) z0 ⟨f0, z60, z61, fun s hs => by omega⟩ (fun r e q => ?_) (fun k fu w hk p => ?_) (fun fu w p => ?_)
  · obtain ⟨f1, r60, r61, r411⟩ := q
    have en : ∀ y : Int32 × AH, (f_M_laySellers_l42 (nI v) FU (nI v) (dz (mN M)) r = some y) → f_M_laySellers_l14 (nI v) FU (nI v) 0 z0 = some y := fun y hy => Eq.trans e hy
    have go : ∃ y, f_M_laySellers_l42 (nI v) FU (nI v) (dz (mN M)) r = some y ∧ (Fr scS plS z y.2 ∧ ((valC (qC M Y) (dgA (mN M) v) ∧ y.1 = 1 ∧ LY M Y v (mN M) z y.2) ∨ (¬ valC (qC M Y) (dgA (mN M) v) ∧ y.1 = 0))) := by
      refine lpc (fun fu j (w : AH) => f_M_laySellers_l42 (nI v) fu (nI (v / (mN M + 1) ^ j)) (dz (mN M - j)) w) (fun j w => LY M Y v j z w) (fun y => Fr scS plS z y.2 ∧ ((valC (qC M Y) (dgA (mN M) v) ∧ y.1 = 1 ∧ LY M Y v (mN M) z y.2) ∨ (¬ valC (qC M Y) (dgA (mN M) v) ∧ y.1 = 0))) (mN M) (by omega) r ⟨f1, hM.fr f1 (by simp) (by simp), hY.fr f1 (by simp) (by simp), r411, r60, r61, fun d hd hd' => by omega, fun s hs => by show 0 ≤ _; omega⟩ (fun y e q => ⟨y, ?_, q⟩) (fun j fu w hj p => ?_) (fun fu w p => ?_)
      · have e' : f_M_laySellers_l42 (nI v) FU (nI (v / (mN M + 1) ^ 0)) (dz (mN M - 0)) r = some y := e
        rw [Nat.pow_zero, Nat.div_one, Nat.sub_zero] at e'
        exact e'
      · obtain ⟨f2, m2, a2, c2, k2, p2, d2, o2⟩ := p
        have bb2 : hI w 383 43 + 1 = nI (mN M + 1) := by rw [m2.1.1, nI_1]
        have ed : dz (mN M - j) = nI (mN M - 1 - j) := by rw [dz_p (by omega), show mN M - j - 1 = mN M - 1 - j by omega]
        generalize hd : mN M - 1 - j = d at *
        have hdn : d < mN M := by omega
        have hdj : mN M - 1 - d = j := by omega
        have hvj : v / (mN M + 1) ^ j ≤ v := Nat.div_le_self _ _
        have hnz : ¬ nI (mN M + 1) = 0 := fun q => by have := (n_z (by omega)).mp q; omega
        have eA : v / (mN M + 1) ^ j % (mN M + 1) = dgA (mN M) v d := by unfold dgA; rw [hdj]
        have eD : v / (mN M + 1) ^ j / (mN M + 1) = v / (mN M + 1) ^ (j + 1) := by rw [Nat.div_div_eq_div_mul, Nat.pow_succ]
        have hA := dgA_lt (mN M) v d
        have sC1 : ∀ s, sufC (dgA (mN M) v) (mN M) s (j + 1) = sufC (dgA (mN M) v) (mN M) s j + (if dgA (mN M) v d = s + 1 then 1 else 0) := fun s => by
          show _ + (if dgA (mN M) v (mN M - 1 - j) = s + 1 then 1 else 0) = _
          rw [hd]
        have sM1 : sufM (dgA (mN M) v) (mN M) (j + 1) = sufM (dgA (mN M) v) (mN M) j + (if dgA (mN M) v d = 0 then 0 else 1) := by
          show _ + (if dgA (mN M) v (mN M - 1 - j) = 0 then 0 else 1) = _
          rw [hd]
        have sP1 : sufP (priceS M Y) (dgA (mN M) v) (mN M) (j + 1) = sufP (priceS M Y) (dgA (mN M) v) (mN M) j + (if dgA (mN M) v d = 0 then 0 else priceS M Y d (dgA (mN M) v d - 1)) := by
          show _ + (if dgA (mN M) v (mN M - 1 - j) = 0 then 0 else priceS M Y (mN M - 1 - j) (dgA (mN M) v (mN M - 1 - j) - 1)) = _
          rw [hd]
        have f3 : Fr [410] [] w (sI w 410 d (dz (dgA (mN M) v d))) := (Fr.rf _ _ _).s (by simp) _ _
        have m3 := m2.fr f3 (by simp) (by simp)
        have a3 := a2.fr f3 (by simp) (by simp)
        have l3 : hI (sI w 410 d (dz (dgA (mN M) v d))) 410 d = lA (dgA (mN M) v) d := by
          rw [hI_sI_s]
          unfold lA
          by_cases h0 : dgA (mN M) v d = 0
          · rw [if_pos h0, h0]; rfl
          · rw [if_neg h0, dz_p (by omega)]
        have l3o : ∀ x, ¬ x = d → hI (sI w 410 d (dz (dgA (mN M) v d))) 410 x = hI w 410 x := fun x hx => by rw [hI_sI, if_neg (fun q => hx q.2)]
        obtain ⟨z4, e4, f4⟩ := canSell_ok m3 a3 b hdn hA
        have er : f_M_laySellers_l42 (nI v) (fu + 1) (nI (v / (mN M + 1) ^ j)) (dz (mN M - j)) w = (if ¬ (if okD (qC M Y) d (dgA (mN M) v d) = true then (1 : Int32) else 0) = 0 then (if 0 ≤ dz (dgA (mN M) v d) then gx (dz (dgA (mN M) v d)) 6 <| gx (dz (dgA (mN M) v d)) 6 <| lt (sI z4 411 (ix (dz (dgA (mN M) v d))) ((hI z4 411 (ix (dz (dgA (mN M) v d)))) + (1 : Int32))) fun hq11 => lt (sI hq11 383 60 ((hI hq11 383 60) + (1 : Int32))) fun hq12 => bI (f_M_priceOf (nI d) (dz (dgA (mN M) v d)) hq12) fun rq13 hq14 => lt (sI hq14 383 61 ((hI hq12 383 61) + rq13)) fun hq15 => gx (dz (dgA (mN M) v d)) 6 <| bI (f_M_over (dz (dgA (mN M) v d)) hq15) fun rq17 hq18 => if (hI hq15 411 (ix (dz (dgA (mN M) v d)))) ≤ rq17 then f_M_laySellers_l42 (nI v) fu (nI (v / (mN M + 1) ^ (j + 1))) (dz (mN M - (j + 1))) hq18 else some ((0 : Int32), hq18) else f_M_laySellers_l42 (nI v) fu (nI (v / (mN M + 1) ^ (j + 1))) (dz (mN M - (j + 1))) z4) else some ((0 : Int32), z4)) := by
          have enx : nI d + -1 = dz (mN M - (j + 1)) := by
            rw [show mN M - (j + 1) = d by omega]
            exact (Int32.sub_eq_add_neg _ _).symm
          have gzz : ∀ K : Option (Int32 × AH), gz (nI (mN M + 1)) K = K := fun K => gz_ok K hnz
          have gdd : ∀ K : Option (Int32 × AH), gx (nI d) 6 K = K := fun K => gx_n K (by omega) (by omega)
          rw [f_M_laySellers_l42, ed, if_neg (show ¬ nI d < 0 from n_nlt (a := d) (b := 0) (by omega) (by omega)), bb2]
          simp only [lt_e, gzz, gdd, enx]
          rw [n_md (by omega) (by omega) (by omega), n_dv (by omega) (by omega) (by omega), eA, eD, ix_n (show d < 2 ^ 31 by omega)]
          rw [show nI (dgA (mN M) v d) - 1 = dz (dgA (mN M) v d) from rfl, e4, bI_s]
        rw [er]
        have f34 : Fr scS plS w z4 := (f3.mn (by simp) (by simp)).t (f4.mn (by simp) (by simp))
        by_cases hok : okD (qC M Y) d (dgA (mN M) v d) = true
        · rw [if_pos hok, if_pos (by decide)]
          by_cases h0 : dgA (mN M) v d = 0
          · rw [if_neg (show ¬ 0 ≤ dz (dgA (mN M) v d) by rw [h0]; decide)]
            refine Or.inl ⟨z4, rfl, f2.t f34, m3.fr f4 (by simp) (by simp), a3.fr f4 (by simp) (by simp), fun s hs => ?_, ?_, ?_, fun x hx hx' => ?_, fun s hs => ?_⟩
            · rw [f4.i _ _ (by simp) (by simp), f3.i _ _ (by simp) (by simp), c2 s hs, sC1, if_neg (by omega)]; rfl
            · rw [f4.i _ _ (by simp) (by simp), f3.i _ _ (by simp) (by simp), k2, sM1, if_pos h0]; rfl
            · rw [f4.i _ _ (by simp) (by simp), f3.i _ _ (by simp) (by simp), p2, sP1, if_pos h0, Int32.add_zero]
            · rw [f4.i _ _ (by simp) (by simp)]
              by_cases hxd : x = d
              · subst hxd; exact ⟨l3, hok⟩
              · rw [l3o x hxd]; exact d2 x (by omega) hx'
            · rw [sC1, if_neg (by omega)]; exact o2 s hs
          · have ez : dz (dgA (mN M) v d) = nI (dgA (mN M) v d - 1) := dz_p (by omega)
            generalize hs : dgA (mN M) v d - 1 = s at ez
            have hsn : s < mN M := by omega
            have gs : ∀ K : Option (Int32 × AH), gx (nI s) 6 K = K := fun K => gx_n K (by omega) (by omega)
            have s4 : hI z4 411 s = nI (sufC (dgA (mN M) v) (mN M) s j) := by rw [f4.i _ _ (by simp) (by simp), f3.i _ _ (by simp) (by simp), c2 s hsn]
            rw [ez, if_pos (show (0 : Int32) ≤ nI s from nI_le (a := 0) (by omega) (by omega)), gs, gs, lt_e, lt_e, ix_n (show s < 2 ^ 31 by omega), s4, nI_1]
            have f5 : Fr [411] [(383, 60)] z4 (sI (sI z4 411 s (nI (sufC (dgA (mN M) v) (mN M) s j + 1))) 383 60 (hI (sI z4 411 s (nI (sufC (dgA (mN M) v) (mN M) s j + 1))) 383 60 + 1)) := ((Fr.rf _ _ _).s (by simp) _ _).p (by simp) _
            have e60 : hI (sI (sI z4 411 s (nI (sufC (dgA (mN M) v) (mN M) s j + 1))) 383 60 (hI (sI z4 411 s (nI (sufC (dgA (mN M) v) (mN M) s j + 1))) 383 60 + 1)) 383 60 = nI (sufM (dgA (mN M) v) (mN M) j + 1) := by
              rw [hI_sI_s, hI_sI_c _ _ _ _ _ (by decide), f4.i _ _ (by simp) (by simp), f3.i _ _ (by simp) (by simp), k2, nI_1]
            have e411 : ∀ x, hI (sI (sI z4 411 s (nI (sufC (dgA (mN M) v) (mN M) s j + 1))) 383 60 (hI (sI z4 411 s (nI (sufC (dgA (mN M) v) (mN M) s j + 1))) 383 60 + 1)) 411 x = if x = s then nI (sufC (dgA (mN M) v) (mN M) s j + 1) else hI z4 411 x := fun x => by
              rw [hI_sI_c _ _ _ _ _ (by decide), hI_sI]
              by_cases e : x = s
              · rw [if_pos ⟨rfl, e⟩, if_pos e]
              · rw [if_neg (fun q => e q.2), if_neg e]
            generalize sI (sI z4 411 s (nI (sufC (dgA (mN M) v) (mN M) s j + 1))) 383 60 (hI (sI z4 411 s (nI (sufC (dgA (mN M) v) (mN M) s j + 1))) 383 60 + 1) = z5 at f5 e60 e411 ⊢
            have m5 := (m3.fr f4 (by simp) (by simp)).fr f5 (by simp) (by simp)
            have a5 := (a3.fr f4 (by simp) (by simp)).fr f5 (by simp) (by simp)
            obtain ⟨z6, e6, f6⟩ := M_priceOf_ok m5 a5 hdn hsn
            have f7 : Fr [] [(383, 61)] z6 (sI z6 383 61 (hI z5 383 61 + priceS M Y d s)) := (Fr.rf _ _ _).p (by simp) _
            have e61 : hI z5 383 61 = sufP (priceS M Y) (dgA (mN M) v) (mN M) j := by rw [f5.i _ _ (by simp) (by simp), f4.i _ _ (by simp) (by simp), f3.i _ _ (by simp) (by simp), p2]
            have m7 := (m5.fr f6 (by simp) (by simp)).fr f7 (by simp) (by simp)
            have a7 := (a5.fr f6 (by simp) (by simp)).fr f7 (by simp) (by simp)
            rw [e6, bI_s, lt_e, gs]
            have e7' : hI (sI z6 383 61 (hI z5 383 61 + priceS M Y d s)) 383 61 = hI z5 383 61 + priceS M Y d s := hI_sI_s _ _ _ _
            generalize sI z6 383 61 (hI z5 383 61 + priceS M Y d s) = z7 at f7 m7 a7 e7' ⊢
            rw [(over_ok m7 a7 b hsn).1, bI_s]
            have ob := (over_ok m7 a7 b hsn).2
            have sl := sufC_le (dgA (mN M) v) (mN M) s j
            have e7 : hI z7 411 s = nI (sufC (dgA (mN M) v) (mN M) s j + 1) := by rw [f7.i _ _ (by simp) (by simp), f6.i _ _ (by simp) (by simp), e411, if_pos rfl]
            have ff : Fr scS plS z z7 := (((f2.t f34).t (f5.mn (by simp) (by simp))).t (f6.mn (by simp) (by simp))).t (f7.mn (by simp) (by simp))
            rw [e7]
            by_cases ho : sufC (dgA (mN M) v) (mN M) s j + 1 ≤ (qC M Y).2.2.1 s
            · rw [if_pos (nI_le ho (by omega))]
              refine Or.inl ⟨z7, rfl, ff, m7, a7, fun x hx => ?_, ?_, ?_, fun x hx hx' => ?_, fun x hx => ?_⟩
              · rw [f7.i _ _ (by simp) (by simp), f6.i _ _ (by simp) (by simp), e411, sC1]
                by_cases e : x = s
                · subst e
                  rw [if_pos rfl, if_pos (by omega)]
                · rw [if_neg e, if_neg (by omega), f4.i _ _ (by simp) (by simp), f3.i _ _ (by simp) (by simp), c2 x hx]
                  rfl
              · rw [f7.i _ _ (by simp) (by simp), f6.i _ _ (by simp) (by simp), e60, sM1, if_neg h0]
              · rw [e7', e61, sP1, if_neg h0, hs]
              · rw [f7.i _ _ (by simp) (by simp), f6.i _ _ (by simp) (by simp), f5.i _ _ (by simp) (by simp), f4.i _ _ (by simp) (by simp)]
                by_cases hxd : x = d
                · subst hxd; exact ⟨l3, hok⟩
                · rw [l3o x hxd]; exact d2 x (by omega) hx'
              · rw [sC1]
                by_cases e : x = s
                · subst e; rw [if_pos (by omega)]; exact ho
                · rw [if_neg (by omega)]; exact o2 x hx
            · rw [if_neg (nI_ge (by omega) (by omega))]
              refine Or.inr ⟨_, rfl, ff, Or.inr ⟨fun w => ?_, rfl⟩⟩
              have w2 := w.2 s hsn
              have w3 := sufC_e (dgA (mN M) v) (mN M) s (j + 1) (by omega)
              rw [sC1, if_pos (by omega)] at w3
              have w4 : preC (dgA (mN M) v) s (mN M) ≤ (qC M Y).2.2.1 s := w2
              omega
        · rw [if_neg hok, if_neg (by decide)]
          exact Or.inr ⟨_, rfl, f2.t f34, Or.inr ⟨fun w => hok (w.1 d hdn), rfl⟩⟩
      · have vv : valC (qC M Y) (dgA (mN M) v) := ⟨fun d hd => (p.2.2.2.2.2.2.1 d (by omega) hd).2, fun s hs => by
          have w3 := sufC_e (dgA (mN M) v) (mN M) s (mN M) (Nat.le_refl _)
          rw [Nat.sub_self] at w3
          have w4 := p.2.2.2.2.2.2.2 s hs
          have w5 : preC (dgA (mN M) v) s 0 = 0 := rfl
          show preC (dgA (mN M) v) s (mN M) ≤ _
          omega⟩
        refine ⟨(1, w), ?_, p.1, Or.inl ⟨vv, rfl, p⟩⟩
        show f_M_laySellers_l42 (nI v) (fu + 1) (nI (v / (mN M + 1) ^ mN M)) (dz (mN M - mN M)) w = _
        rw [Nat.sub_self, f_M_laySellers_l42, if_pos dz_0]
    obtain ⟨⟨y1, y2⟩, ey, fy, qy⟩ := go
    refine ⟨y2, ?_, fy, fun hv => ?_⟩
    · rcases qy with ⟨q1, q2, -⟩ | ⟨q1, q2⟩
      · rw [if_pos q1]
        have w := en _ ey
        rw [show y1 = 1 from q2] at w
        exact w
      · rw [if_neg q1]
        have w := en _ ey
        rw [show y1 = 0 from q2] at w
        exact w
    · rcases qy with ⟨q1, q2, q3⟩ | ⟨q1, q2⟩
      · have w3 := sufM_e (dgA (mN M) v) (mN M) (mN M) (Nat.le_refl _)
        have w4 := sufP_e (priceS M Y) (dgA (mN M) v) (mN M) (mN M) (Nat.le_refl _)
        rw [Nat.sub_self] at w3 w4
        have w5 : manyA (dgA (mN M) v) 0 = 0 := rfl
        have w6 : paidA (priceS M Y) (dgA (mN M) v) 0 = 0 := rfl
        rw [w5, Nat.zero_add] at w3
        rw [w6, Int32.zero_add] at w4
        refine ⟨by rw [← w3]; exact q3.2.2.2.2.1, by rw [← w4]; exact q3.2.2.2.2.2.1, fun d hd => (q3.2.2.2.2.2.2.1 d (by omega) hd).1⟩
      · exact absurd hv q1
  · obtain ⟨f1, w60, w61, w411⟩ := p
    have m1 := hM.fr f1 (by simp) (by simp)
    refine ⟨sI w 411 k 0, ?_, f1.s (by simp) _ _, by rw [hI_sI_c _ _ _ _ _ (by decide)]; exact w60, by rw [hI_sI_c _ _ _ _ _ (by decide)]; exact w61, fun s hs => ?_⟩
    · show f_M_laySellers_l14 (nI v) (fu + 1) (nI v) (nI k) w = f_M_laySellers_l14 (nI v) fu (nI v) (nI (k + 1)) (sI w 411 k 0)
      rw [f_M_laySellers_l14, m1.1.1, if_neg (nI_ge hk (by omega)), gx_n _ (show k < 6 by omega) (by omega), lt_e, lt_e, nI_1, ix_n (show k < 2 ^ 31 by omega)]
    · rw [hI_sI]
      by_cases e : s = k
      · rw [if_pos ⟨rfl, e⟩]
      · rw [if_neg (fun q => e q.2)]; exact w411 s (by omega)
  · have m1 := hM.fr p.1 (by simp) (by simp)
    show f_M_laySellers_l14 (nI v) (fu + 1) (nI v) (nI (mN M)) w = _
    rw [f_M_laySellers_l14, m1.1.1, if_pos (nI_le (by omega) (by omega)), lt_e]
    rfl

abbrev scF : List Nat := [393, 395, 406, 409, 410, 411]
abbrev plF' : List (Nat × Nat) := [(383, 57), (383, 60), (383, 61)]
theorem pow_b {n : Nat} (hn : n ≤ 6) : ∀ k, k ≤ n → (n + 1) ^ k ≤ 117649 := fun k hk => by
  have h1 : (n + 1) ^ k ≤ 7 ^ k := Nat.pow_le_pow_left (by omega) k
  have h2 : 7 ^ k ≤ 7 ^ 6 := Nat.pow_le_pow_right (by omega) (by omega)
  have h3 : 7 ^ 6 = 117649 := by decide
  omega
theorem ext_d {n v : Nat} {d : Nat} (hd : d < n) (A : Nat → Nat) : extA n n A v d = dgA n v d := by
  unfold extA dgA
  rw [if_neg (by omega)]
theorem M_clear_ok {M : MT} {Y : YT} {h : AH} (s : MS h M Y) (b : BN M Y) (a : Int32) : ∃ h1, f_M_clear a h = some (clearS M Y a, h1) ∧ Fr scF plF' h h1 ∧ LM h1 (clearN M a) (clearF M Y).2.2 := by
  have h6 := s.1.1.2.1
  have f1 : Fr [] plL h (sI h 383 57 0) := (Fr.rf _ _ _).p (by simp) _
  have l1 : LM (sI h 383 57 0) 0 (clearF M Y).2.2 := ⟨hI_sI_s _ _ _ _, by omega, fun i hi => by omega⟩
  rw [f_M_clear, lt_e]
  generalize sI h 383 57 0 = h1 at f1 l1 ⊢
  have s1 : MS h1 M Y := ⟨s.1.fr f1 (by simp) (by simp), fun k hk => by rw [f1.i _ _ (by simp) (by simp)]; exact s.2 k hk⟩
  have e1 : (1 : Int32).toInt = 1 := by decide
  have ha : (0 ≤ a ∧ a ≤ 1) ↔ (a = 0 ∨ a = 1) := by
    constructor
    · intro q
      obtain ⟨k, hk, rfl⟩ := inR_ix (n := 1) (by omega) q
      have : k = 0 ∨ k = 1 := by omega
      rcases this with rfl | rfl
      · exact Or.inl rfl
      · exact Or.inr rfl
    · rintro (rfl | rfl) <;> decide
  rw [isIn_e, bI_s]
  unfold clearN
  by_cases hq : 0 ≤ a ∧ a ≤ 1
  · rw [if_pos hq, if_pos (by decide), if_pos (ha.mp hq)]
    obtain ⟨h2, e2, p2⟩ := PA.ld s1
    rw [e2, bV_s]
    have f2 : Fr scF plF' h h2 := (f1.mn (by simp) (by simp)).t (p2.1.mn (by simp) (by simp))
    refine lqc (fun fu k (x : Int32) => f_M_clear_l24 a fu x (nI k) h2) (fun k x => x = nI ((mN M + 1) ^ k)) (fun x => f_M_clear_l55 a FU x (-1) 0 0 h2) (mN M) (by omega) 1 rfl (fun r e q => ?_) (fun k fu x hk p => ⟨nI ((mN M + 1) ^ (k + 1)), ?_, rfl⟩) (fun fu x p => ?_)
    · subst q
      have pb := pow_b h6 (mN M) (Nat.le_refl _)
      have go : ∃ y, f_M_clear_l55 a FU (nI ((mN M + 1) ^ mN M)) (-1) 0 0 h2 = some y ∧ y.1 = clearS M Y a ∧ Fr scF plF' h y.2 ∧ LM y.2 (mN M) (clearF M Y).2.2 := by
        refine lpc (fun fu v (w : CS × AH) => f_M_clear_l55 a fu (nI ((mN M + 1) ^ mN M)) w.1.1 w.1.2.1 (nI v) w.2) (fun v w => Fr scF plF' h w.2 ∧ MM w.2 M ∧ AY w.2 Y ∧ w.1 = fdN (fun v => stC (qC M Y) (extA (mN M) (mN M) (fun _ => 0) v)) v (-1, 0, hI h2 409) ∧ ∀ i, i < mN M → hI w.2 409 i = w.1.2.2 i) (fun y => y.1 = clearS M Y a ∧ Fr scF plF' h y.2 ∧ LM y.2 (mN M) (clearF M Y).2.2) ((mN M + 1) ^ mN M) (by omega) ((-1, 0, hI h2 409), h2) ⟨f2, p2.2.1, p2.2.2, rfl, fun i hi => rfl⟩ (fun y e q => ⟨y, e, q⟩) (fun v fu w hv p => Or.inl ?_) (fun fu w p => ?_)
        · obtain ⟨st, w⟩ := w
          obtain ⟨f3, m3, a3, es, l3⟩ := p
          simp only at f3 m3 a3 es l3
          obtain ⟨z, ez, fz, vz⟩ := lay_ok m3 a3 b (v := v) (by omega)
          have vk : valC (qC M Y) (extA (mN M) (mN M) (fun _ => 0) v) ↔ valC (qC M Y) (dgA (mN M) v) := by
            have hA : ∀ d, d < (qC M Y).1 → extA (mN M) (mN M) (fun _ => 0) v d = dgA (mN M) v d := fun d hd => ext_d hd _
            constructor
            · exact fun w => ⟨fun d hd => by rw [← hA d hd]; exact w.1 d hd, fun s hs => by rw [← preC_c s _ hA]; exact w.2 s hs⟩
            · exact fun w => ⟨fun d hd => by rw [hA d hd]; exact w.1 d hd, fun s hs => by rw [preC_c s _ hA]; exact w.2 s hs⟩
          have est : stC (qC M Y) (extA (mN M) (mN M) (fun _ => 0) v) st = stC (qC M Y) (dgA (mN M) v) st := stC_c _ (fun d hd => ext_d hd _) st
          have enx : fdN (fun v => stC (qC M Y) (extA (mN M) (mN M) (fun _ => 0) v)) (v + 1) (-1, 0, hI h2 409) = stC (qC M Y) (dgA (mN M) v) st := by
            show stC (qC M Y) (extA (mN M) (mN M) (fun _ => 0) v) (fdN _ v _) = _
            rw [← es, est]
          show ∃ s' : CS × AH, f_M_clear_l55 a (fu + 1) (nI ((mN M + 1) ^ mN M)) st.1 st.2.1 (nI v) w = f_M_clear_l55 a fu (nI ((mN M + 1) ^ mN M)) s'.1.1 s'.1.2.1 (nI (v + 1)) s'.2 ∧ Fr scF plF' h s'.2 ∧ MM s'.2 M ∧ AY s'.2 Y ∧ s'.1 = fdN (fun v => stC (qC M Y) (extA (mN M) (mN M) (fun _ => 0) v)) (v + 1) (-1, 0, hI h2 409) ∧ ∀ i, i < mN M → hI s'.2 409 i = s'.1.2.2 i
          rw [enx, f_M_clear_l55, if_neg (nI_ge hv (by omega)), ez, bI_s]
          have fw : Fr scF plF' h z := f3.t (fz.mn (by simp) (by simp))
          have mz := m3.fr fz (by simp) (by simp)
          have az := a3.fr fz (by simp) (by simp)
          have lz : ∀ i, i < mN M → hI z 409 i = st.2.2 i := fun i hi => by rw [fz.i _ _ (by simp) (by simp)]; exact l3 i hi
          unfold stC
          by_cases hval : valC (qC M Y) (dgA (mN M) v)
          · obtain ⟨v1, v2, v3⟩ := vz hval
            rw [if_pos hval, if_neg (by decide), if_pos hval, v1, v2]
            have upd98 : ∃ z2, f_M_clear_b98 a (f_M_clear_l55 a fu) (nI ((mN M + 1) ^ mN M)) (nI v) z = f_M_clear_l55 a fu (nI ((mN M + 1) ^ mN M)) (nI (manyA (dgA (mN M) v) (mN M))) (paidA (priceS M Y) (dgA (mN M) v) (mN M)) (nI (v + 1)) z2 ∧ Fr scF plF' h z2 ∧ MM z2 M ∧ AY z2 Y ∧ ∀ i, i < mN M → hI z2 409 i = lA (cutA (mN M) (dgA (mN M) v)) i := by
              rw [f_M_clear_b98, lt_e, lt_e, v1, v2]
              refine lqc (fun fu' k (y : AH) => f_M_clear_l112 a (f_M_clear_l55 a fu) fu' (nI ((mN M + 1) ^ mN M)) (nI (manyA (dgA (mN M) v) (mN M))) (paidA (priceS M Y) (dgA (mN M) v) (mN M)) (nI v) (nI k) y) (fun k y => Fr [409] [] z y ∧ ∀ i, i < k → hI y 409 i = lA (dgA (mN M) v) i) (fun y => f_M_clear_l55 a fu (nI ((mN M + 1) ^ mN M)) (nI (manyA (dgA (mN M) v) (mN M))) (paidA (priceS M Y) (dgA (mN M) v) (mN M)) (nI (v + 1)) y) (mN M) (by omega) z ⟨Fr.rf _ _ _, fun i hi => by omega⟩ (fun r e q => ⟨r, e, fw.t (q.1.mn (by simp) (by simp)), mz.fr q.1 (by simp) (by simp), az.fr q.1 (by simp) (by simp), fun i hi => by rw [q.2 i hi]; exact lA_c (show dgA (mN M) v i = cutA (mN M) (dgA (mN M) v) i by unfold cutA; rw [if_pos hi])⟩) (fun k fu' y hk q => ?_) (fun fu' y q => ?_)
              · obtain ⟨g1, g2⟩ := q
                refine ⟨sI y 409 k (lA (dgA (mN M) v) k), ?_, g1.s (by simp) _ _, fun i hi => ?_⟩
                · show f_M_clear_l112 a (f_M_clear_l55 a fu) (fu' + 1) (nI ((mN M + 1) ^ mN M)) (nI (manyA (dgA (mN M) v) (mN M))) (paidA (priceS M Y) (dgA (mN M) v) (mN M)) (nI v) (nI k) y = f_M_clear_l112 a (f_M_clear_l55 a fu) fu' (nI ((mN M + 1) ^ mN M)) (nI (manyA (dgA (mN M) v) (mN M))) (paidA (priceS M Y) (dgA (mN M) v) (mN M)) (nI v) (nI (k + 1)) (sI y 409 k (lA (dgA (mN M) v) k))
                  rw [f_M_clear_l112, (mz.fr g1 (by simp) (by simp)).1.1, if_neg (nI_ge hk (by omega)), gx_n _ (show k < 6 by omega) (by omega), gx_n _ (show k < 12 by omega) (by omega), lt_e, lt_e, nI_1, ix_n (show k < 2 ^ 31 by omega), g1.i _ _ (by simp) (by simp), v3 k hk]
                · rw [hI_sI]
                  by_cases e : i = k
                  · subst e; rw [if_pos ⟨rfl, rfl⟩]
                  · rw [if_neg (fun q => e q.2)]; exact g2 i (by omega)
              · show f_M_clear_l112 a (f_M_clear_l55 a fu) (fu' + 1) _ _ _ (nI v) (nI (mN M)) y = _
                rw [f_M_clear_l112, (mz.fr q.1 (by simp) (by simp)).1.1, if_pos (nI_le (by omega) (by omega)), lt_e, nI_1]
            obtain ⟨z2, e2', g1, g2, g3, g4⟩ := upd98
            have up : ∃ s' : CS × AH, f_M_clear_b98 a (f_M_clear_l55 a fu) (nI ((mN M + 1) ^ mN M)) (nI v) z = f_M_clear_l55 a fu (nI ((mN M + 1) ^ mN M)) s'.1.1 s'.1.2.1 (nI (v + 1)) s'.2 ∧ Fr scF plF' h s'.2 ∧ MM s'.2 M ∧ AY s'.2 Y ∧ s'.1 = (nI (manyA (dgA (mN M) v) (mN M)), paidA (priceS M Y) (dgA (mN M) v) (mN M), lA (cutA (mN M) (dgA (mN M) v))) ∧ ∀ i, i < mN M → hI s'.2 409 i = s'.1.2.2 i := ⟨((_, _, _), z2), e2', g1, g2, g3, rfl, g4⟩
            have kp : ∃ s' : CS × AH, (lt (nI v + 1) fun xq => f_M_clear_l55 a fu (nI ((mN M + 1) ^ mN M)) st.1 st.2.1 xq z) = f_M_clear_l55 a fu (nI ((mN M + 1) ^ mN M)) s'.1.1 s'.1.2.1 (nI (v + 1)) s'.2 ∧ Fr scF plF' h s'.2 ∧ MM s'.2 M ∧ AY s'.2 Y ∧ s'.1 = st ∧ ∀ i, i < mN M → hI s'.2 409 i = s'.1.2.2 i := ⟨(st, z), by rw [lt_e, nI_1], fw, mz, az, rfl, lz⟩
            unfold cmpC
            show ∃ s' : CS × AH, _ ∧ _ ∧ _ ∧ _ ∧ s'.1 = (if st.1 < nI (manyA (dgA (mN M) v) (mN M)) then (nI (manyA (dgA (mN M) v) (mN M)), paidA (priceS M Y) (dgA (mN M) v) (mN M), lA (cutA (mN M) (dgA (mN M) v))) else if nI (manyA (dgA (mN M) v) (mN M)) = st.1 then (if st.2.1 ≤ paidA (priceS M Y) (dgA (mN M) v) (mN M) then st else (nI (manyA (dgA (mN M) v) (mN M)), paidA (priceS M Y) (dgA (mN M) v) (mN M), lA (cutA (mN M) (dgA (mN M) v)))) else st) ∧ _
            generalize nI (manyA (dgA (mN M) v) (mN M)) = X at up kp ⊢
            generalize paidA (priceS M Y) (dgA (mN M) v) (mN M) = Pp at up kp ⊢
            by_cases c1 : X < st.1
            · rw [if_pos c1, if_neg (fun q => by have := i_lt.mp q; have := i_lt.mp c1; omega), if_neg (fun q => by have := i_lt.mp c1; rw [q] at this; omega)]
              exact kp
            · rw [if_neg c1]
              by_cases c2 : X = st.1
              · have c5 : ¬ st.1 < X := fun q => by have := i_lt.mp q; rw [c2] at this; omega
                rw [if_neg (fun q => q c2)]
                by_cases c3 : Pp < st.2.1
                · rw [if_pos c3, if_neg c5, if_pos c2, if_neg (Int32.not_le.mpr c3)]
                  exact up
                · rw [if_neg c3, if_neg c5, if_pos c2, if_pos (Int32.not_lt.mp c3)]
                  exact kp
              · have c4 : st.1 < X := i_lt.mpr (by
                  have w1 : ¬ X.toInt < st.1.toInt := fun q => c1 (i_lt.mpr q)
                  have w2 : ¬ X.toInt = st.1.toInt := fun q => c2 (i_eq.mpr q)
                  omega)
                rw [if_pos c2, if_pos c4]
                exact up
          · rw [if_neg hval, if_pos rfl, if_neg hval, lt_e, nI_1]
            exact ⟨(st, z), rfl, fw, mz, az, rfl, lz⟩
        · obtain ⟨st, w⟩ := w
          obtain ⟨f3, m3, a3, es, l3⟩ := p
          simp only at f3 m3 a3 es l3
          have ec : st = clearF M Y := by rw [es]; exact clearF_r M Y (fun _ => 0) (hI h2 409)
          refine ⟨(clearS M Y a, sI w 383 57 (nI (mN M))), ?_, rfl, f3.p (by simp) _, hI_sI_s _ _ _ _, by omega, fun i hi => by rw [hI_sI_c _ _ _ _ _ (by decide), ← ec]; exact l3 i hi⟩
          show f_M_clear_l55 a (fu + 1) (nI ((mN M + 1) ^ mN M)) st.1 st.2.1 (nI ((mN M + 1) ^ mN M)) w = _
          rw [f_M_clear_l55, if_pos (nI_le (by omega) (by omega)), m3.1.1, lt_e, ec]
          unfold clearS
          rcases ha.mp hq with rfl | rfl <;> rfl
      obtain ⟨y, ey, g1, g2, g3⟩ := go
      refine ⟨y.2, ?_, g2, g3⟩
      rw [← g1]
      exact Eq.trans e ey
    · subst p
      have pb := pow_b h6 k (by omega)
      have pb2 := pow_b h6 (k + 1) (by omega)
      show f_M_clear_l24 a (fu + 1) (nI ((mN M + 1) ^ k)) (nI k) h2 = f_M_clear_l24 a fu (nI ((mN M + 1) ^ (k + 1))) (nI (k + 1)) h2
      rw [f_M_clear_l24, p2.2.1.1.1, if_neg (nI_ge hk (by omega)), nI_1, lt_e, lt_e, nI_1, n_ml (by rw [show (mN M + 1) ^ k * (mN M + 1) = (mN M + 1) ^ (k + 1) from (Nat.pow_succ _ _).symm]; omega) (by omega) (by omega), show (mN M + 1) ^ k * (mN M + 1) = (mN M + 1) ^ (k + 1) from (Nat.pow_succ _ _).symm]
    · show f_M_clear_l24 a (fu + 1) x (nI (mN M)) h2 = _
      rw [f_M_clear_l24, p2.2.1.1.1, if_pos (nI_le (by omega) (by omega))]
  · have hn : ¬ (a = 0 ∨ a = 1) := fun q => hq (ha.mpr q)
    rw [if_neg hq, if_neg (by decide), if_neg hn]
    refine ⟨h1, ?_, f1.mn (by simp) (by simp), l1⟩
    unfold clearS
    rw [if_neg (fun q => hn (Or.inl q)), if_neg (fun q => hn (Or.inr q))]
