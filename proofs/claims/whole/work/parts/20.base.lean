/-! ===== the functions' own algebra ===== -/
theorem hI_sI (h : AH) (c k : Nat) (v : Int32) (c' k' : Nat) : hI (sI h c k v) c' k' = if c' = c ∧ k' = k then v else hI h c' k' := rfl
theorem hI_sI_c (h : AH) (c k : Nat) (v : Int32) (c' : Nat) (hc : c' ≠ c) : hI (sI h c k v) c' = hI h c' := by
  funext k'
  rw [hI_sI, if_neg (fun q => hc q.1)]
theorem hI_sI_s (h : AH) (c k : Nat) (v : Int32) : hI (sI h c k v) c k = v := by rw [hI_sI, if_pos ⟨rfl, rfl⟩]
theorem hI_sI_u (h : AH) (c k : Nat) (v : Int32) : hI (sI h c k v) c = upd (hI h c) k v := by
  funext k'
  rw [hI_sI, upd]
  by_cases hk : k' = k
  · rw [if_pos ⟨rfl, hk⟩, if_pos hk]
  · rw [if_neg (fun q => hk q.2), if_neg hk]
theorem hI_sL (h : AH) (c k : Nat) (v : Int64) : hI (sL h c k v) = hI h := rfl
theorem hI_sR (h : AH) (c k : Nat) (v : Option Nat) : hI (sR h c k v) = hI h := rfl
theorem hL_sI (h : AH) (c k : Nat) (v : Int32) : hL (sI h c k v) = hL h := rfl
theorem hL_sR (h : AH) (c k : Nat) (v : Option Nat) : hL (sR h c k v) = hL h := rfl
theorem hR_sI (h : AH) (c k : Nat) (v : Int32) : hR (sI h c k v) = hR h := rfl
theorem hR_sL (h : AH) (c k : Nat) (v : Int64) : hR (sL h c k v) = hR h := rfl
theorem hL_sL (h : AH) (c k : Nat) (v : Int64) (c' k' : Nat) : hL (sL h c k v) c' k' = if c' = c ∧ k' = k then v else hL h c' k' := rfl
theorem hR_sR (h : AH) (c k : Nat) (v : Option Nat) (c' k' : Nat) : hR (sR h c k v) c' k' = if c' = c ∧ k' = k then v else hR h c' k' := rfl
theorem hI_sF (h : AH) (c : Nat) (f : Nat → Int32) (c' : Nat) : hI (sF h c f) c' = if c' = c then f else hI h c' := by
  funext k
  show (if c' = c then f else h.2.1 c') k = _
  rfl
theorem hL_sF (h : AH) (c : Nat) (f : Nat → Int32) : hL (sF h c f) = hL h := rfl
theorem hR_sF (h : AH) (c : Nat) (f : Nat → Int32) : hR (sF h c f) = hR h := rfl
theorem bI_s {α : Type} (r : Int32) (h : AH) (K : Int32 → AH → Option α) : bI (some (r, h)) K = K r h := rfl
theorem bI_n {α : Type} (K : Int32 → AH → Option α) : bI none K = none := rfl
theorem bV_s {α : Type} (h : AH) (K : AH → Option α) : bV (some h) K = K h := rfl
theorem bV_n {α : Type} (K : AH → Option α) : bV none K = none := rfl
theorem lt_e {α β : Type} (e : β) (K : β → α) : lt e K = K e := rfl
theorem ix_n {k : Nat} (h : k < 2 ^ 31) : ix (nI k) = k := nI_clamp h
theorem gx_ok {α : Type} {i : Int32} {n : Nat} (K : Option α) (h0 : 0 ≤ i.toInt) (h1 : i.toInt < n) : gx i n K = K := if_pos ⟨h0, h1⟩
theorem gx_n {α : Type} {k n : Nat} (K : Option α) (h : k < n) (hn : n ≤ 2 ^ 31) : gx (nI k) n K = K := gx_ok K (by rw [nI_toInt (by omega)]; omega) (by rw [nI_toInt (by omega)]; omega)
theorem gz_ok {α : Type} {y : Int32} (K : Option α) (h : ¬ y = 0) : gz y K = K := if_neg h
theorem gb_0 {α : Type} (K : Option α) : gb 0 K = K := if_pos (by decide)
theorem gb_1 {α : Type} (K : Option α) : gb 1 K = K := if_pos (by decide)
theorem gd_ok {α : Type} {h : AH} {c k ci x : Nat} (K : Nat → Option α) (hr : hR h c k = some x) (hk : kdF x = .inr ci) : gd h c k ci K = K x := by
  unfold gd
  rw [hr]
  exact if_pos hk
theorem gk_ok {α : Type} {c t n : Nat} (K : Nat → Option α) (hk : kdF c = .inl (t, n)) : gk c t K = K n := by
  unfold gk
  rw [hk]
  exact if_pos rfl
/-- off the cells of S and the places of P all ints are as they were; longs, references and the layout everywhere -/
def Fr (S : List Nat) (P : List (Nat × Nat)) (h h' : AH) : Prop := h'.1 = h.1 ∧ (∀ c k, c ∉ S → (c, k) ∉ P → hI h' c k = hI h c k) ∧ hL h' = hL h ∧ hR h' = hR h
theorem Fr.rf (S : List Nat) (P : List (Nat × Nat)) (h : AH) : Fr S P h h := ⟨rfl, fun _ _ _ _ => rfl, rfl, rfl⟩
theorem Fr.i {S : List Nat} {P : List (Nat × Nat)} {h h' : AH} (f : Fr S P h h') (c k : Nat) (hc : c ∉ S) (hp : (c, k) ∉ P) : hI h' c k = hI h c k := f.2.1 c k hc hp
theorem Fr.mn {S U : List Nat} {P Q : List (Nat × Nat)} {h h1 : AH} (f : Fr S P h h1) (hS : ∀ c ∈ S, c ∈ U) (hP : ∀ c ∈ P, c ∈ Q) : Fr U Q h h1 := ⟨f.1, fun c k hc hp => f.2.1 c k (fun q => hc (hS c q)) (fun q => hp (hP _ q)), f.2.2⟩
theorem Fr.t {S : List Nat} {P : List (Nat × Nat)} {h h1 h2 : AH} (f : Fr S P h h1) (g : Fr S P h1 h2) : Fr S P h h2 :=
  ⟨g.1.trans f.1, fun c k hc hp => (g.2.1 c k hc hp).trans (f.2.1 c k hc hp), g.2.2.1.trans f.2.2.1, g.2.2.2.trans f.2.2.2⟩
theorem Fr.tr {S T U : List Nat} {P Q W : List (Nat × Nat)} {h h1 h2 : AH} (f : Fr S P h h1) (g : Fr T Q h1 h2) (hS : ∀ c ∈ S, c ∈ U) (hT : ∀ c ∈ T, c ∈ U) (hP : ∀ c ∈ P, c ∈ W) (hQ : ∀ c ∈ Q, c ∈ W) : Fr U W h h2 := (f.mn hS hP).t (g.mn hT hQ)
theorem Fr.s {S : List Nat} {P : List (Nat × Nat)} {h h1 : AH} (f : Fr S P h h1) {c : Nat} (hc : c ∈ S) (k : Nat) (v : Int32) : Fr S P h (sI h1 c k v) :=
  ⟨f.1, fun c' k' hc' hp' => by rw [hI_sI, if_neg (fun (e : c' = c ∧ k' = k) => hc' (e.1 ▸ hc))]; exact f.2.1 c' k' hc' hp', f.2.2⟩
theorem Fr.p {S : List Nat} {P : List (Nat × Nat)} {h h1 : AH} (f : Fr S P h h1) {c k : Nat} (hc : (c, k) ∈ P) (v : Int32) : Fr S P h (sI h1 c k v) :=
  ⟨f.1, fun c' k' hc' hp' => by rw [hI_sI, if_neg (fun (e : c' = c ∧ k' = k) => hp' (by rw [e.1, e.2]; exact hc))]; exact f.2.1 c' k' hc' hp', f.2.2⟩
theorem Fr.sf {S : List Nat} {P : List (Nat × Nat)} {h h1 : AH} (f : Fr S P h h1) {c : Nat} (hc : c ∈ S) (g : Nat → Int32) : Fr S P h (sF h1 c g) :=
  ⟨f.1, fun c' k' hc' hp' => by rw [hI_sF, if_neg (fun (e : c' = c) => hc' (e ▸ hc))]; exact f.2.1 c' k' hc' hp', f.2.2⟩
theorem Fr.std {S : List Nat} {P : List (Nat × Nat)} {h h1 : AH} {n : Nat} (f : Fr S P h h1) (s : Std n h) : Std n h1 := by
  obtain ⟨s1, s2⟩ := s
  refine ⟨(congrArg Prod.fst f.1).trans s1, fun c hc => ⟨(congrFun (congrArg Prod.snd f.1) c).trans (s2 c hc).1, fun k x hx => ?_⟩⟩
  rw [show hR h1 c k = hR h c k from congrFun (congrFun f.2.2.2 c) k]
  exact (s2 c hc).2 k x hx
/-! ints -/
theorem i_eq {x y : Int32} : x = y ↔ x.toInt = y.toInt := Int32.toInt_inj.symm
theorem i_lt {x y : Int32} : x < y ↔ x.toInt < y.toInt := Int32.lt_iff_toInt_lt
theorem i_le {x y : Int32} : x ≤ y ↔ x.toInt ≤ y.toInt := Int32.le_iff_toInt_le
theorem i_lo (x : Int32) : -2147483648 ≤ x.toInt := by have := Int32.minValue_le_toInt x; simpa using this
theorem i_hi (x : Int32) : x.toInt ≤ 2147483647 := by have := Int32.toInt_lt x; omega
theorem i_add {x y : Int32} (h0 : -2147483648 ≤ x.toInt + y.toInt) (h1 : x.toInt + y.toInt ≤ 2147483647) : (x + y).toInt = x.toInt + y.toInt := by
  rw [Int32.toInt_add]; exact Int.bmod_eq_of_le (by omega) (by omega)
theorem i_sub {x y : Int32} (h0 : -2147483648 ≤ x.toInt - y.toInt) (h1 : x.toInt - y.toInt ≤ 2147483647) : (x - y).toInt = x.toInt - y.toInt := by
  rw [Int32.toInt_sub]; exact Int.bmod_eq_of_le (by omega) (by omega)
/-- a place among n, or outside -/
theorem i_pl (x : Int32) {n : Nat} (hn : n < 2 ^ 31) : x < 0 ∨ nI n ≤ x ∨ ∃ j : Nat, j < n ∧ x = nI j := pk_ix x hn
theorem n_inj {a b : Nat} (ha : a < 2 ^ 31) (hb : b < 2 ^ 31) : nI a = nI b ↔ a = b := nI_eq ha hb
theorem FU_pos (k : Nat) (h : k < 1000000) : ∃ q, FU = q + 1 ∧ k ≤ q := ⟨999999, rfl, by omega⟩
