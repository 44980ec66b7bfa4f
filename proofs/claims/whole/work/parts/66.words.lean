/-! ===== the class's words; its next token is lx ===== -/
def kwp (i x : Nat) : Nat := (((kwl[i]?).getD [])[x]?).getD 32
def kch (k : Nat) : Int32 := i2c ((byW.getD k 0) &&& 255)
theorem kch_e {k : Nat} (hk : k < 152) : kch k = nI (kwp (k / 8) (k % 8)) := by
  have : ∀ k : Fin 152, kch k.val = nI (kwp (k.val / 8) (k.val % 8)) := by decide +kernel
  exact this ⟨k, hk⟩
theorem kch_n {k : Nat} (hk : k < 152) (K : Option (Int32 × AH)) : gn .char (kch k) K = K := by
  have : ∀ k : Fin 152, narrow .char (.int (kch k.val)) = .int (kch k.val) := by decide +kernel
  exact if_pos (this ⟨k, hk⟩)
theorem char_ok {k : Nat} (hk : k < 152) (h : AH) : f_JString_charAt (nI k) h = some (nI (kwp (k / 8) (k % 8)), h) := by
  have e1 : f_JString_isLatin1 h = some (1, h) := by
    rw [f_JString_isLatin1, if_neg (by decide), if_neg (fun q => q rfl)]
  have e2 : f_JString_checkIndex (nI k) (nI 152) h = some h := by
    rw [f_JString_checkIndex, f_JPre_checkIndex, if_neg (show ¬ nI k < 0 from n_nlt (a := k) (b := 0) (by omega) (by omega)), if_pos (n_lt hk (by omega)), bI_s]
  have e3 : f_JLatin_charAt (nI k) h = some (kch k, h) := by
    rw [f_JLatin_charAt, e2, bV_s, gx_n _ hk (by omega), ix_n (show k < 2 ^ 31 by omega)]
    exact kch_n hk _
  rw [f_JString_charAt, e1, bI_s, if_neg (by decide), e3, bI_s, kch_n hk, kch_e hk]
theorem len_ok (h : AH) : f_JString_length h = some (nI 152, h) := by
  have e : f_JString_coder h = some (0, h) := by
    rw [f_JString_coder, if_neg (by decide)]
    exact if_pos (by decide)
  rw [f_JString_length, e, bI_s]
  rfl
theorem kwl_w : ∀ i : Nat, i < 19 → ∃ v, kwl[i]? = some v ∧ LTR v ∧ v.length ≤ 8 ∧ kwc v = 256 + i := by
  have : ∀ i : Fin 19, (∀ x ∈ (kwl[i.val]?).getD [], 97 ≤ x ∧ x ≤ 122) ∧ ((kwl[i.val]?).getD []).length ≤ 8 ∧ kwc ((kwl[i.val]?).getD []) = 256 + i.val ∧ (kwl[i.val]?).isSome = true := by decide +kernel
  intro i hi
  obtain ⟨a, b, c, d⟩ := this ⟨i, hi⟩
  obtain ⟨v, hv⟩ := Option.isSome_iff_exists.mp d
  have e : (kwl[(⟨i, hi⟩ : Fin 19).val]?).getD [] = v := by rw [hv]; rfl
  rw [e] at a b c
  exact ⟨v, hv, a, b, c⟩
theorem pad_eq {i : Nat} (hi : i < 19) {w : List Nat} (hw : LTR w) (hl : w.length ≤ 8) : (∀ x, x < 8 → kwp i x = (w[x]?).getD 32) ↔ kwl[i]? = some w := by
  obtain ⟨v, ev, lv, l8, -⟩ := kwl_w i hi
  have ek : ∀ x, kwp i x = (v[x]?).getD 32 := fun x => by unfold kwp; rw [ev]; rfl
  have n32 : ∀ (l : List Nat) (x : Nat), LTR l → ((l[x]?).getD 32 = 32 ↔ l[x]? = none) := fun l x hl => by
    cases e : l[x]? with
    | none => simp
    | some y =>
      have := hl y (List.mem_of_getElem? e)
      simp
      omega
  constructor
  · intro h
    rw [ev]
    congr 1
    apply List.ext_getElem?
    intro x
    by_cases hx : x < 8
    · have q := h x hx
      rw [ek] at q
      cases e1 : v[x]? with
      | none =>
        rw [e1] at q
        have : (w[x]?).getD 32 = 32 := q.symm
        exact ((n32 w x hw).mp this).symm
      | some y =>
        cases e2 : w[x]? with
        | none =>
          rw [e1, e2] at q
          have : (v[x]?).getD 32 = 32 := by rw [e1]; exact q
          have := (n32 v x lv).mp this
          rw [e1] at this; cases this
        | some z =>
          rw [e1, e2] at q
          have : y = z := q
          rw [this]
    · rw [List.getElem?_eq_none (by omega), List.getElem?_eq_none (by omega)]
  · intro h x hx
    rw [ek]
    rw [ev] at h
    cases h
    rfl
/-- the words behind those that were tried -/
def KQ (w : List Nat) (q e i : Nat) (h0 z : AH) : Prop := FrN h0 z ∧ hI z 1 3 = nI e ∧ hI z 1 5 = nI q ∧ hL z 1 7 = hL h0 1 7 ∧ hI z 1 10 = hI h0 1 10 ∧ hI z 1 11 = hI h0 1 11 ∧ ((hI z 1 4 = 2 ∧ ∀ j, j < i → ¬ kwl[j]? = some w) ∨ ∃ j, j < 19 ∧ kwl[j]? = some w ∧ hI z 1 4 = nI (256 + j))
theorem word_in {b : Nat → Nat} {L q e i : Nat} {w : List Nat} (hi : i < 19) (K : Int32 → AH → Option AH) {h0 z : AH} (c : CBs b L z) (hw : w = wl b q (e - q)) (lw : LTR w) (l8 : e - q ≤ 8) (hqe : q ≤ e) (heL : e ≤ L) (k : KQ w q e i h0 z) (k2 : hI z 1 4 = 2) (k3 : ∀ j, j < i → ¬ kwl[j]? = some w) : ∃ z1, f_Reader_readWord_l119 K FU (nI (8 * i)) 0 z = K (nI (8 * (i + 1))) z1 ∧ KQ w q e (i + 1) h0 z1 := by
  have c1 := c.1
  obtain ⟨f0, v3, v5, v7, v10, v11, -⟩ := k
  have wlen : w.length = e - q := by rw [hw, wl_len]
  have padv : ∀ x, x < 8 → (if e ≤ q + x then (32 : Int32) else hI z 2 (q + x)) = nI ((w[x]?).getD 32) := fun x hx => by
    by_cases h1 : e ≤ q + x
    · rw [if_pos h1, List.getElem?_eq_none (by omega)]; rfl
    · rw [if_neg h1, c.2.2.1 _ (by omega), hw, wl_get b q (e - q) x (by omega)]; rfl
  have padb : ∀ x : Nat, (w[x]?).getD 32 < 256 := fun x => by
    cases h1 : w[x]? with
    | none => simp
    | some y =>
      have := lw y (List.mem_of_getElem? h1)
      simp; omega
  have kb : ∀ x, kwp i x < 256 := fun x => by
    obtain ⟨v, ev, lv, -, -⟩ := kwl_w i hi
    unfold kwp
    rw [ev]
    cases h1 : v[x]? with
    | none => simp [h1]
    | some y =>
      have := lv y (List.mem_of_getElem? h1)
      simp [h1]; omega
  have e8 : nI (8 * i) + 8 = nI (8 * (i + 1)) := by rw [show 8 * (i + 1) = 8 * i + 8 by omega]; exact n_add (8 * i) 8
  have go : ∀ m x fu, m + x = 8 → m < fu → (∀ y, y < x → kwp i y = (w[y]?).getD 32) → ∃ x', x' ≤ 8 ∧ f_Reader_readWord_l119 K fu (nI (8 * i)) (nI x) z = f_Reader_readWord_b171 K (nI (8 * i)) (nI x') z ∧ (∀ y, y < x' → kwp i y = (w[y]?).getD 32) ∧ (x' = 8 ∨ ¬ kwp i x' = (w[x']?).getD 32) := by
    intro m
    induction m with
    | zero =>
      intro x fu hx hf hy
      obtain ⟨fu, rfl⟩ : ∃ q, fu = q + 1 := ⟨fu - 1, by omega⟩
      have : x = 8 := by omega
      subst this
      refine ⟨8, by omega, ?_, hy, Or.inl rfl⟩
      rw [f_Reader_readWord_l119, if_pos (by decide)]
    | succ m ih =>
      intro x fu hx hf hy
      obtain ⟨fu, rfl⟩ : ∃ q, fu = q + 1 := ⟨fu - 1, by omega⟩
      have hk : 8 * i + x < 152 := by omega
      have pv := padv x (by omega)
      have pb := padb x
      have kbx := kb x
      have b159 : ∀ v1 : Int32, v1 = nI ((w[x]?).getD 32) → f_Reader_readWord_b162 K (f_Reader_readWord_l119 K fu) (nI (8 * i)) (nI x) (nI (kwp i x)) v1 z = if kwp i x = (w[x]?).getD 32 then f_Reader_readWord_l119 K fu (nI (8 * i)) (nI (x + 1)) z else f_Reader_readWord_b171 K (nI (8 * i)) (nI x) z := fun v1 hv => by
        rw [f_Reader_readWord_b162, hv]
        simp only [lt_e, nI_1]
        by_cases e : kwp i x = (w[x]?).getD 32
        · rw [if_neg (fun q => q (by rw [e])), if_pos e]
        · rw [if_pos (fun q => e ((n_eqv (by omega) (by omega)).mp q)), if_neg e]
      have er : f_Reader_readWord_l119 K (fu + 1) (nI (8 * i)) (nI x) z = if kwp i x = (w[x]?).getD 32 then f_Reader_readWord_l119 K fu (nI (8 * i)) (nI (x + 1)) z else f_Reader_readWord_b171 K (nI (8 * i)) (nI x) z := by
        rw [f_Reader_readWord_l119, if_neg (show ¬ (8 : Int32) ≤ nI x from nI_ge (a := x) (b := 8) (by omega) (by omega)), n_add, char_ok hk, bI_s, show (8 * i + x) / 8 = i by omega, show (8 * i + x) % 8 = x by omega, v3, v5, n_add]
        by_cases h1 : e ≤ q + x
        · rw [if_pos (nI_le h1 (by omega))]
          rw [if_pos h1] at pv
          exact b159 _ pv
        · rw [if_neg (nI_ge (by omega) (by omega)), gx_n _ (show q + x < 1600 by omega) (by omega), ix_n (show q + x < 2 ^ 31 by omega)]
          rw [if_neg h1] at pv
          exact b159 _ pv
      rw [er]
      by_cases e : kwp i x = (w[x]?).getD 32
      · rw [if_pos e]
        exact ih (x + 1) fu (by omega) (by omega) (fun y hy' => by
          by_cases e2 : y = x
          · rw [e2]; exact e
          · exact hy y (by omega))
      · rw [if_neg e]
        exact ⟨x, by omega, rfl, hy, Or.inr e⟩
  obtain ⟨x', hx', e1, hy, hor⟩ := go 8 0 FU (by omega) (by show 8 < 1000000; omega) (fun y hy => by omega)
  rw [show f_Reader_readWord_l119 K FU (nI (8 * i)) 0 z = _ from e1, f_Reader_readWord_b171]
  simp only [lt_e, e8]
  by_cases h8 : x' = 8
  · subst h8
    have hm := (pad_eq hi lw (by omega)).mp hy
    rw [if_neg (show ¬ ¬ nI 8 = 8 from fun q => q rfl)]
    have ev : (256 : Int32) + nI (8 * i) / 8 = nI (256 + i) := by
      rw [show nI (8 * i) / 8 = nI (8 * i / 8) from n_dv (b := 8) (by omega) (by omega) (by omega), show 8 * i / 8 = i by omega]
      exact n_add 256 i
    rw [ev]
    exact ⟨_, rfl, f0.s (c := 1) (k := 4) (by show _ ∧ _; omega) _, by rw [hI_sI, if_neg (by decide)]; exact v3, by rw [hI_sI, if_neg (by decide)]; exact v5, v7, by rw [hI_sI, if_neg (by decide)]; exact v10, by rw [hI_sI, if_neg (by decide)]; exact v11, Or.inr ⟨i, hi, hm, hI_sI_s _ _ _ _⟩⟩
  · rw [if_pos (show ¬ nI x' = 8 from fun q => h8 ((n_eqv (b := 8) (by omega) (by omega)).mp q))]
    have nm' : ¬ kwl[i]? = some w := fun q => by
      have := (pad_eq hi lw (by omega)).mpr q x' (by omega)
      rcases hor with h | h
      · exact h8 h
      · exact h this
    exact ⟨z, rfl, f0, v3, v5, v7, v10, v11, Or.inl ⟨k2, fun j hj => by
      by_cases e : j = i
      · rw [e]; exact nm'
      · exact k3 j (by omega)⟩⟩
theorem kwc_at {w : List Nat} {j : Nat} (hj : j < 19) (h : kwl[j]? = some w) : kwc w = 256 + j := by
  obtain ⟨v, ev, -, -, kv⟩ := kwl_w j hj
  rw [ev] at h
  cases h
  exact kv
theorem kwc_no {w : List Nat} (h : ∀ j, j < 19 → ¬ kwl[j]? = some w) : kwc w = 2 := by
  rcases kwc_or w with q | ⟨j, hj, q, -⟩
  · exact q
  · exact absurd q (h j hj)
theorem word_ok {b : Nat → Nat} {L q e : Nat} {w : List Nat} {h : AH} (c : CBs b L h) (hw : w = wl b q (e - q)) (lw : LTR w) (l8 : e - q ≤ 8) (hqe : q ≤ e) (heL : e ≤ L) (v3 : hI h 1 3 = nI e) (v5 : hI h 1 5 = nI q) : ∃ h1, f_Reader_readWord_b70 h = some h1 ∧ FrN h h1 ∧ hI h1 1 3 = nI e ∧ hI h1 1 5 = nI q ∧ hL h1 1 7 = hL h 1 7 ∧ hI h1 1 10 = hI h 1 10 ∧ hI h1 1 11 = hI h 1 11 ∧ hI h1 1 4 = nI (kwc w) := by
  have c1 := c.1
  rw [f_Reader_readWord_b70, v3, v5, n_sb hqe (by omega), if_pos (show nI (e - q) ≤ 8 from nI_le (b := 8) l8 (by omega)), lt_e]
  have f0 : FrN h (sI h 1 4 2) := (FrL.rf _ _ _ h).s (c := 1) (k := 4) (by show _ ∧ _; omega) _
  refine lpc (fun fu i (z : AH) => f_Reader_readWord_l97 fu (nI (8 * i)) z) (fun i z => KQ w q e i h z) (fun z => FrN h z ∧ hI z 1 3 = nI e ∧ hI z 1 5 = nI q ∧ hL z 1 7 = hL h 1 7 ∧ hI z 1 10 = hI h 1 10 ∧ hI z 1 11 = hI h 1 11 ∧ hI z 1 4 = nI (kwc w)) 19 (by omega) (sI h 1 4 2) ⟨f0, by rw [hI_sI, if_neg (by decide)]; exact v3, by rw [hI_sI, if_neg (by decide)]; exact v5, rfl, by rw [hI_sI, if_neg (by decide)], by rw [hI_sI, if_neg (by decide)], Or.inl ⟨hI_sI_s _ _ _ _, fun j hj => by omega⟩⟩ (fun z e' q' => ⟨z, e', q'⟩) (fun i fu z hi k => ?_) (fun fu z k => ?_)
  · obtain ⟨k1, k2, k3, k4, k5, k6, k7⟩ := k
    show (∃ s', f_Reader_readWord_l97 (fu + 1) (nI (8 * i)) z = f_Reader_readWord_l97 fu (nI (8 * (i + 1))) s' ∧ _) ∨ (∃ r, f_Reader_readWord_l97 (fu + 1) (nI (8 * i)) z = some r ∧ _)
    rw [f_Reader_readWord_l97, len_ok, bI_s, if_neg (show ¬ nI 152 < nI (8 * i) + 8 from by rw [show nI (8 * i) + 8 = nI (8 * (i + 1)) by rw [show 8 * (i + 1) = 8 * i + 8 by omega]; exact n_add (8 * i) 8]; exact n_nlt (by omega) (by omega))]
    rcases k7 with ⟨t2, no⟩ | ⟨j, hj, ej, tj⟩
    · rw [if_neg (fun x => x t2)]
      obtain ⟨z1, e1, kk⟩ := word_in hi (f_Reader_readWord_l97 fu) (c.fr k1) hw lw l8 hqe heL ⟨k1, k2, k3, k4, k5, k6, Or.inl ⟨t2, no⟩⟩ t2 no
      exact Or.inl ⟨z1, e1, kk⟩
    · rw [if_pos (show ¬ hI z 1 4 = 2 from fun x => by
        rw [tj] at x
        have := (n_eqv (b := 2) (by omega) (by omega)).mp x
        omega)]
      exact Or.inr ⟨z, rfl, k1, k2, k3, k4, k5, k6, by rw [tj, kwc_at hj ej]⟩
  · obtain ⟨k1, k2, k3, k4, k5, k6, k7⟩ := k
    refine ⟨z, ?_, k1, k2, k3, k4, k5, k6, ?_⟩
    · show f_Reader_readWord_l97 (fu + 1) (nI (8 * 19)) z = some z
      rw [f_Reader_readWord_l97, len_ok, bI_s, if_pos (by decide)]
    · rcases k7 with ⟨t2, no⟩ | ⟨j, hj, ej, tj⟩
      · rw [t2, kwc_no no]; rfl
      · rw [tj, kwc_at hj ej]
theorem n32 : ¬ (3 : Nat) = 2 := by decide
theorem n31 : ¬ (3 : Nat) = 1 := by decide
theorem n13 : ¬ (1 : Nat) = 3 := by decide
theorem n12 : ¬ (1 : Nat) = 2 := by decide
/-- what a token is worth -/
def TKW (t : LT) : Prop := (tC t = 2 → LTR (tW t) ∧ (tW t).length ≤ 8) ∧ (tC t = 1 → tN t < 10000) ∧ tC t < 300
theorem kwc_lt (w : List Nat) : kwc w < 275 ∧ ¬ kwc w = 3 ∧ ¬ kwc w = 1 := by
  rcases kwc_or w with q | ⟨j, hj, -, q⟩
  · omega
  · omega
theorem next_ok {b : Nat → Nat} {L p : Nat} {h : AH} (c : CBs b L h) (hp : p ≤ L) (h0 : hI h 1 10 = 0) (hm : hI h 1 11 = -1) (h3 : hI h 1 3 = nI p) : ∃ h1, f_Reader_next h = some h1 ∧ FrN h h1 ∧ RC b L h1 (lx b L p) ∧ TKW (lx b L p) := by
  have c1 := c.1
  obtain ⟨h1, e1, f1, v3, v10, v11⟩ := blank_l (L - p) p FU h rfl hp (by show L - p < 1000000; omega) c h3
  have q1 := rn_ge (fun k => isBN (b k)) L (L - p) p
  have q2 := rn_le (fun k => isBN (b k)) L (L - p) p hp
  rw [f_Reader_next, if_pos h0, e1, f_Reader_next_b47]
  unfold lx
  generalize rn (fun k => isBN (b k)) L (L - p) p = q at v3 q1 q2 ⊢
  rw [v3, lt_e]
  have f2 : FrN h (sI h1 1 5 (nI q)) := f1.s (c := 1) (k := 5) (by show _ ∧ _; omega) _
  have w5 : hI (sI h1 1 5 (nI q)) 1 5 = nI q := hI_sI_s _ _ _ _
  have w3 : hI (sI h1 1 5 (nI q)) 1 3 = nI q := by rw [hI_sI, if_neg (by decide)]; exact v3
  have w10 : hI (sI h1 1 5 (nI q)) 1 10 = 0 := by rw [hI_sI, if_neg (by decide), v10]; exact h0
  have w11 : hI (sI h1 1 5 (nI q)) 1 11 = -1 := by rw [hI_sI, if_neg (by decide), v11]; exact hm
  generalize sI h1 1 5 (nI q) = h2 at f2 w5 w3 w10 w11 ⊢
  have c2 := c.fr f2
  rw [w3, c2.2.1]
  by_cases hq : L ≤ q
  · rw [if_neg (n_nlt hq (by omega)), if_pos hq, lt_e]
    have f3 : FrN h (sI h2 1 4 0) := f2.s (c := 1) (k := 4) (by show _ ∧ _; omega) _
    refine ⟨_, rfl, f3, ⟨c.fr f3, by rw [hI_sI, if_neg (by decide)]; exact w5, q2, hI_sI_s _ _ _ _, fun z => absurd z (by simp), fun _ => ⟨by rw [hI_sI, if_neg (by decide)]; exact w10, by rw [hI_sI, if_neg (by decide)]; exact w11, by rw [hI_sI, if_neg (by decide)]; exact w3, q2, fun z => absurd z (by simp), fun z => absurd z (by simp)⟩⟩, fun z => absurd z (by simp), fun z => absurd z (by simp), by show 0 < 300; omega⟩
  · have bq := c.2.2.2 q (by omega)
    rw [if_pos (n_lt (by omega) (by omega)), if_neg hq, gx_n _ (show q < 1600 by omega) (by omega), lt_e, ix_n (show q < 2 ^ 31 by omega), c2.2.2.1 q (by omega), isL_e (by omega), bI_s]
    by_cases hl : isLN (b q) = true
    · have e0 := rn_1 (fun k => isLN (b k)) L (show q < L by omega) hl
      have e2 := rn_le (fun k => isLN (b k)) L (L - q) q q2
      have e3 := rn_in (fun k => isLN (b k)) L (L - q) q
      rw [if_pos hl, if_neg (by decide), if_pos hl, f_Reader_readWord, lt_e]
      have f3 : FrN h (sL h2 1 7 0) := f2.l (c := 1) (k := 7) ⟨rfl, rfl⟩ _
      obtain ⟨h4, e4, f4, x3, x7, x10, x11, x5⟩ := word_l (q := q) (L - q) q FU (sL h2 1 7 0) rfl (Nat.le_refl _) q2 (by show L - q < 1000000; omega) (c.fr f3) w3 (fun _ => by rw [Nat.sub_self]; show hL (sL h2 1 7 0) 1 7 = _; rw [hL_sL, if_pos ⟨rfl, rfl⟩]; rfl) (fun k h1 h2 => by omega)
      generalize rn (fun k => isLN (b k)) L (L - q) q = e at e0 e2 e3 x3 x7 ⊢
      rw [e4]
      have c4 := (c.fr f3).fr f4
      have x5' : hI h4 1 5 = nI q := x5.trans w5
      have x10' : hI h4 1 10 = 0 := x10.trans w10
      have x11' : hI h4 1 11 = -1 := x11.trans w11
      by_cases h8 : 8 < e - q
      · rw [show (if 8 < e - q then ((3 : Nat), q, q, 0, ([] : List Nat)) else (kwc (wl b q (e - q)), q, e, 0, wl b q (e - q))) = (3, q, q, 0, []) from if_pos h8, f_Reader_readWord_b70, x3, x5', n_sb (by omega) (by omega), if_neg (show ¬ nI (e - q) ≤ 8 from nI_ge (a := 8) (b := e - q) h8 (by omega))]
        obtain ⟨h5, e5, f5, r5⟩ := fail_ok (t := (3, q, q, 0, [])) c4 x10' x5' q2 rfl
        rw [e5, bV_s]
        exact ⟨h5, by rw [bV_s], (f3.t f4).t f5, r5, fun z => absurd z n32, fun z => absurd z n31, by show 3 < 300; omega⟩
      · have lw : LTR (wl b q (e - q)) := wl_ltr b q _ (fun k h1 h2 => e3 k h1 (by omega))
        obtain ⟨h5, e5, f5, y3, y5, y7, y10, y11, y4⟩ := word_ok c4 rfl lw (by omega) (by omega) e2 x3 x5'
        have kl := kwc_lt (wl b q (e - q))
        rw [show (if 8 < e - q then ((3 : Nat), q, q, 0, ([] : List Nat)) else (kwc (wl b q (e - q)), q, e, 0, wl b q (e - q))) = (kwc (wl b q (e - q)), q, e, 0, wl b q (e - q)) from if_neg h8, e5, bV_s]
        refine ⟨h5, rfl, (f3.t f4).t f5, ⟨(c4).fr f5, y5, q2, y4, fun z => absurd z kl.2.1, fun _ => ⟨y10.trans x10', y11.trans x11', y3, e2, fun z => absurd z kl.2.2, fun _ => ?_⟩⟩, fun _ => ⟨lw, by show (wl b q (e - q)).length ≤ 8; rw [wl_len]; omega⟩, fun z => absurd z kl.2.2, by show kwc _ < 300; omega⟩
        rw [y7]
        exact x7 (by omega)
    · rw [if_neg hl, if_pos rfl, if_neg hl, isD_e (by omega), bI_s]
      by_cases hd : isDN (b q) = true
      · have e0 := rn_1 (fun k => isDN (b k)) L (show q < L by omega) hd
        have e2 := rn_le (fun k => isDN (b k)) L (L - q) q q2
        rw [if_pos hd, if_neg (by decide), if_pos hd, f_Reader_readNumber, lt_e]
        have f3 : FrN h (sI h2 1 6 0) := f2.s (c := 1) (k := 6) (by show _ ∧ _; omega) _
        obtain ⟨h4, e4, f4, x3, x6, x10, x11, x5⟩ := num_l (q := q) (L - q) q FU (sI h2 1 6 0) rfl (Nat.le_refl _) q2 (by show L - q < 1000000; omega) (c.fr f3) (by rw [hI_sI, if_neg (by decide)]; exact w3) (fun _ => by rw [Nat.sub_self]; exact ⟨hI_sI_s _ _ _ _, by show 0 < 1; omega⟩)
        generalize rn (fun k => isDN (b k)) L (L - q) q = e at e0 e2 x3 x6 ⊢
        rw [e4]
        have c4 := (c.fr f3).fr f4
        have x5' : hI h4 1 5 = nI q := x5.trans (by rw [hI_sI, if_neg (by decide)]; exact w5)
        have x10' : hI h4 1 10 = 0 := x10.trans (by rw [hI_sI, if_neg (by decide)]; exact w10)
        have x11' : hI h4 1 11 = -1 := x11.trans (by rw [hI_sI, if_neg (by decide)]; exact w11)
        rw [f_Reader_readNumber_b68, x3, x5', n_sb (by omega) (by omega), c4.2.1]
        have bad : ∃ h5, (bV (f_Reader_readNumber_b107 h4) fun hq13 => some hq13) = some h5 ∧ FrN h h5 ∧ RC b L h5 (3, q, q, 0, []) ∧ TKW (3, q, q, 0, []) := by
          obtain ⟨h5, e5, f5, r5⟩ := fail_ok (t := (3, q, q, 0, [])) c4 x10' x5' q2 rfl
          rw [f_Reader_readNumber_b107, e5, bV_s, bV_s]
          exact ⟨h5, rfl, (f3.t f4).t f5, r5, fun z => absurd z n32, fun z => absurd z n31, by show 3 < 300; omega⟩
        have good : ¬ (4 < e - q ∨ (e < L ∧ isLN (b e) = true)) → ∃ h5, (bV (lt (sI h4 1 4 1) fun hq1 => some hq1) fun hq13 => some hq13) = some h5 ∧ FrN h h5 ∧ RC b L h5 (1, q, e, nm b q (e - q), []) ∧ TKW (1, q, e, nm b q (e - q), []) := fun hn => by
          rw [lt_e, bV_s]
          have f5 : FrN h4 (sI h4 1 4 1) := (FrL.rf _ _ _ h4).s (c := 1) (k := 4) (by show _ ∧ _; omega) _
          obtain ⟨x61, x62⟩ := x6 (by omega)
          have p4 : 10 ^ (e - q) ≤ 10 ^ 4 := Nat.pow_le_pow_right (by omega) (by omega)
          have p4' : 10 ^ 4 = 10000 := by decide
          exact ⟨_, rfl, (f3.t f4).t f5, ⟨c4.fr f5, by rw [hI_sI, if_neg (by decide)]; exact x5', q2, hI_sI_s _ _ _ _, fun z => absurd z n13, fun _ => ⟨by rw [hI_sI, if_neg (by decide)]; exact x10', by rw [hI_sI, if_neg (by decide)]; exact x11', by rw [hI_sI, if_neg (by decide)]; exact x3, e2, fun _ => by rw [hI_sI, if_neg (by decide)]; exact x61, fun z => absurd z n12⟩⟩, fun z => absurd z n12, fun _ => by show nm b q (e - q) < 10000; omega, by show 1 < 300; omega⟩
        by_cases h4' : 4 < e - q
        · rw [if_pos (show (4 : Int32) < nI (e - q) from n_lt (a := 4) h4' (by omega)), show (if 4 < e - q ∨ (e < L ∧ isLN (b e) = true) then ((3 : Nat), q, q, 0, ([] : List Nat)) else (1, q, e, nm b q (e - q), [])) = (3, q, q, 0, []) from if_pos (Or.inl h4')]
          exact bad
        · rw [if_neg (show ¬ (4 : Int32) < nI (e - q) from n_nlt (a := 4) (by omega) (by omega))]
          by_cases heL : L ≤ e
          · rw [if_pos (nI_le heL (by omega)), show (if 4 < e - q ∨ (e < L ∧ isLN (b e) = true) then ((3 : Nat), q, q, 0, ([] : List Nat)) else (1, q, e, nm b q (e - q), [])) = (1, q, e, nm b q (e - q), []) from if_neg (by omega)]
            exact good (by omega)
          · have be := c.2.2.2 e (by omega)
            rw [if_neg (nI_ge (by omega) (by omega)), gx_n _ (show e < 1600 by omega) (by omega), ix_n (show e < 2 ^ 31 by omega), c4.2.2.1 e (by omega), isL_e (by omega), bI_s]
            by_cases hle : isLN (b e) = true
            · rw [if_pos hle, if_neg (by decide), show (if 4 < e - q ∨ (e < L ∧ isLN (b e) = true) then ((3 : Nat), q, q, 0, ([] : List Nat)) else (1, q, e, nm b q (e - q), [])) = (3, q, q, 0, []) from if_pos (Or.inr ⟨by omega, hle⟩)]
              exact bad
            · have hn : ¬ (4 < e - q ∨ (e < L ∧ isLN (b e) = true)) := fun z => z.elim h4' (fun y => hle y.2)
              rw [if_neg hle, if_pos rfl, show (if 4 < e - q ∨ (e < L ∧ isLN (b e) = true) then ((3 : Nat), q, q, 0, ([] : List Nat)) else (1, q, e, nm b q (e - q), [])) = (1, q, e, nm b q (e - q), []) from if_neg hn]
              exact good hn
      · rw [if_neg hd, if_pos rfl, if_neg hd, isS_e bq, bI_s]
        by_cases hs : isSN (b q) = true
        · rw [if_pos hs, if_neg (by decide), if_pos hs, lt_e, lt_e]
          have w3' : hI (sI h2 1 4 (nI (b q))) 1 3 = nI q := by rw [hI_sI, if_neg (by decide)]; exact w3
          rw [w3', nI_1]
          have f3 : FrN h (sI (sI h2 1 4 (nI (b q))) 1 3 (nI (q + 1))) := (f2.s (c := 1) (k := 4) (by show _ ∧ _; omega) _).s (c := 1) (k := 3) (by show _ ∧ _; omega) _
          have sb : ¬ b q = 3 ∧ ¬ b q = 1 ∧ ¬ b q = 2 := by
            refine ⟨fun z => ?_, fun z => ?_, fun z => ?_⟩ <;> (rw [z] at hs; exact absurd hs (by decide))
          exact ⟨_, rfl, f3, ⟨c.fr f3, by rw [hI_sI, if_neg (by decide), hI_sI, if_neg (by decide)]; exact w5, q2, by rw [hI_sI, if_neg (by decide), hI_sI_s], fun z => absurd z sb.1, fun _ => ⟨by rw [hI_sI, if_neg (by decide), hI_sI, if_neg (by decide)]; exact w10, by rw [hI_sI, if_neg (by decide), hI_sI, if_neg (by decide)]; exact w11, hI_sI_s _ _ _ _, by show q + 1 ≤ L; omega, fun z => absurd z sb.2.1, fun z => absurd z sb.2.2⟩⟩, fun z => absurd z sb.2.2, fun z => absurd z sb.2.1, by show b q < 300; omega⟩
        · rw [if_neg hs, if_pos rfl, if_neg hs]
          obtain ⟨h5, e5, f5, r5⟩ := fail_ok (t := (3, q, q, 0, [])) c2 w10 w5 q2 rfl
          rw [e5, bV_s]
          exact ⟨h5, rfl, f2.t f5, r5, fun z => absurd z n32, fun z => absurd z n31, by show 3 < 300; omega⟩
