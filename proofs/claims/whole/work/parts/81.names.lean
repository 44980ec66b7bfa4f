/-! ===== names ===== -/
def nix (w : List Nat) : List (List Nat) → Nat
  | [] => 0
  | x :: r => if x = w then 0 else nix w r + 1
theorem nix_le (w : List Nat) : ∀ l : List (List Nat), nix w l ≤ l.length := by
  intro l
  induction l with
  | nil => exact Nat.le_refl _
  | cons x r ih =>
    rw [nix]
    by_cases h : x = w
    · rw [if_pos h]; exact Nat.zero_le _
    · rw [if_neg h]; show nix w r + 1 ≤ r.length + 1; omega
theorem nix_m (w : List Nat) : ∀ l : List (List Nat), nix w l < l.length → w ∈ l := by
  intro l
  induction l with
  | nil => intro h; exact absurd h (Nat.lt_irrefl _)
  | cons x r ih =>
    intro h
    rw [nix] at h
    by_cases e : x = w
    · rw [e]; exact List.mem_cons_self
    · rw [if_neg e] at h
      exact List.mem_cons_of_mem _ (ih (by have : (x :: r).length = r.length + 1 := rfl; omega))
theorem nix_uq (w : List Nat) : ∀ l : List (List Nat), l.Nodup → ∀ j, j < l.length → (l[j]? = some w ↔ j = nix w l) := by
  intro l
  induction l with
  | nil => intro _ j h; exact absurd h (Nat.not_lt_zero _)
  | cons x r ih =>
    intro nd j hj
    obtain ⟨n1, n2⟩ := List.nodup_cons.mp nd
    have lx : (x :: r).length = r.length + 1 := rfl
    rw [nix]
    rcases j with _ | j
    · show some x = some w ↔ _
      by_cases e : x = w
      · rw [if_pos e, e]; exact ⟨fun _ => rfl, fun _ => rfl⟩
      · rw [if_neg e]; exact ⟨fun z => absurd (by injection z) e, fun z => by omega⟩
    · show r[j]? = some w ↔ _
      by_cases e : x = w
      · rw [if_pos e]
        refine ⟨fun z => absurd ?_ n1, fun z => by omega⟩
        rw [e]; exact List.mem_of_getElem? z
      · rw [if_neg e, ih n2 j (by omega)]; omega
/-- names as the class keeps them -/
def NC (h : AH) (cell : Nat) (l : List (List Nat)) : Prop := l.Nodup ∧ (∀ x ∈ l, LTR x ∧ x.length ≤ 8) ∧ ∀ k, k < l.length → hL h cell k = Int64.ofNat (c5 ((l[k]?).getD []))
/-- names as the reference keeps them -/
def NR (h : AH) (off : Nat) (l : List (List Nat)) : Prop := l.Nodup ∧ (∀ x ∈ l, LTR x ∧ x.length ≤ 8) ∧ ∀ k, k < l.length → hL h 385 (off + k) = Int64.ofNat (c8 ((l[k]?).getD []))
theorem c5_63 {l : List Nat} (h : LTR l) (hl : l.length ≤ 8) : c5 l < 2 ^ 63 := by
  have a := c5_b l h
  have : 32 ^ l.length ≤ 32 ^ 8 := Nat.pow_le_pow_right (by omega) hl
  have e8 : 32 ^ 8 = 2 ^ 40 := by decide
  omega
theorem at_get {l : List (List Nat)} {k : Nat} (hk : k < l.length) : ∃ x, l[k]? = some x ∧ x ∈ l ∧ (l[k]?).getD [] = x := ⟨l[k], List.getElem?_eq_getElem hk, List.getElem_mem hk, by rw [List.getElem?_eq_getElem hk]; rfl⟩
theorem NC.eq {h : AH} {cell : Nat} {l : List (List Nat)} (n : NC h cell l) {w : List Nat} (w1 : LTR w) (w2 : w.length ≤ 8) {k : Nat} (hk : k < l.length) (ew : hL h 1 7 = Int64.ofNat (c5 w)) : lg_cmp (hL h cell k) (hL h 1 7) = 0 ↔ k = nix w l := by
  obtain ⟨x, x1, x2, x3⟩ := at_get hk
  have x4 := n.2.1 x x2
  rw [lg_0, n.2.2 k hk, ew, x3, l64_e (c5_63 x4.1 x4.2) (c5_63 w1 w2), ← nix_uq w l n.1 k hk, x1]
  exact ⟨fun z => by rw [c5_inj _ x4.1 _ w1 z], fun z => by injection z with z; rw [z]⟩
theorem NR.eq {h : AH} {off : Nat} {l : List (List Nat)} (n : NR h off l) {w : List Nat} (w1 : LTR w) (w2 : w.length ≤ 8) {k : Nat} (hk : k < l.length) (ew : hL h 383 9 = Int64.ofNat (c8 w)) : lg_cmp (hL h 385 (off + k)) (hL h 383 9) = 0 ↔ k = nix w l := by
  obtain ⟨x, x1, x2, x3⟩ := at_get hk
  have x4 := n.2.1 x x2
  rw [lg_0, n.2.2 k hk, ew, x3, l64_e (c8_63 x4.1 x4.2) (c8_63 w1 w2), ← nix_uq w l n.1 k hk, x1]
  exact ⟨fun z => by rw [c8_inj _ x4.1 _ w1 z], fun z => by injection z with z; rw [z]⟩
theorem new_l {b : Nat → Nat} {L : Nat} {h : AH} {t : LT} {cell N : Nat} {l : List (List Nat)} (r : XT b L h t) (h2 : tC t = 2) (hk : kdF cell = .inl (2, N)) (hN : N < 100) (n : NC h cell l) (hl : l.length ≤ N) : ∀ (m i fu : Nat), m + i = l.length → m < fu → i ≤ nix (tW t) l → ∃ h1, f_Reader_isNewName_l23 cell (nI l.length) fu (nI i) h = some (if nix (tW t) l < l.length then 0 else 1, h1) ∧ FrN h h1 ∧ (if nix (tW t) l < l.length then DT b L h1 (er 3 t) else h1 = h) := by
  have w := r.2.1.1 h2
  have ew := (r.1.2.2.2.2.2 (by omega)).2.2.2.2.2 h2
  intro m
  induction m with
  | zero =>
    intro i fu hi hf hx
    obtain ⟨g, rfl⟩ : ∃ g, fu = g + 1 := ⟨fu - 1, by omega⟩
    have ei : i = l.length := by omega
    have nn : ¬ nix (tW t) l < l.length := by omega
    rw [ei, f_Reader_isNewName_l23, if_pos (Int32.le_refl _)]
    exact ⟨h, by rw [if_neg nn], FrL.rf _ _ _ h, by rw [if_neg nn]⟩
  | succ m ih =>
    intro i fu hi hf hx
    obtain ⟨g, rfl⟩ : ∃ g, fu = g + 1 := ⟨fu - 1, by omega⟩
    rw [f_Reader_isNewName_l23, if_neg (nI_ge (by omega) (by omega)), gk_ok _ hk, gx_n _ (show i < N by omega) (by omega), ix_n (by omega)]
    have e := n.eq w.1 w.2 (show i < l.length by omega) ew
    by_cases c : i = nix (tW t) l
    · rw [if_neg (fun z => z (e.mpr c)), if_pos (by omega)]
      obtain ⟨h1, e1, f1, x1⟩ := r.fail (k := 3) (by omega) (by omega)
      exact ⟨h1, by rw [show (3 : Int32) = nI 3 from rfl, e1, bV_s], f1, by rw [if_pos (by omega)]; exact x1⟩
    · rw [if_pos (fun z => c (e.mp z)), lt_e, nI_1]
      exact ih (i + 1) g (by omega) (by omega) (by omega)
theorem newC {b : Nat → Nat} {L : Nat} {h : AH} {t : LT} {cell N : Nat} {l : List (List Nat)} (r : XT b L h t) (hk : kdF cell = .inl (2, N)) (hN : N < 100) (n : NC h cell l) (hl : l.length < N) : ∃ h1, f_Reader_isNewName cell (nI l.length) h = some (if tC t = 2 ∧ ¬ nix (tW t) l < l.length then 1 else 0, h1) ∧ FrN h h1 ∧ (if tC t = 2 then (if nix (tW t) l < l.length then DT b L h1 (er 3 t) else h1 = h) else DT b L h1 (er 2 t)) := by
  obtain ⟨t1, t2⟩ := r.tok
  rw [f_Reader_isNewName, t1]
  by_cases h2 : tC t = 2
  · rw [if_neg (show ¬ ¬ nI (tC t) = (2 : Int32) from fun z => z (by rw [h2]; rfl)), gk_ok _ hk, if_pos (n_lt hl (by omega))]
    obtain ⟨h1, e1, f1, x1⟩ := new_l r h2 hk hN n (by omega) l.length 0 FU rfl (by show l.length < 1000000; omega) (Nat.zero_le _)
    have e1' : f_Reader_isNewName_l23 cell (nI l.length) FU 0 h = _ := e1
    refine ⟨h1, ?_, f1, by rw [if_pos h2]; exact x1⟩
    rw [e1']
    by_cases c : nix (tW t) l < l.length
    · rw [if_pos c, if_neg (fun z => z.2 c)]
    · rw [if_neg c, if_pos ⟨h2, c⟩]
  · rw [if_pos (show ¬ nI (tC t) = (2 : Int32) from fun z => h2 ((tk_eq (k := 2) t2 (by omega)).mp z)), f_Reader_isNewName_b14]
    obtain ⟨h1, e1, f1, x1⟩ := r.fail (k := 2) (by omega) (by omega)
    exact ⟨h1, by rw [show (2 : Int32) = nI 2 from rfl, e1, bV_s, if_neg (fun z => h2 z.1)], f1, by rw [if_neg h2]; exact x1⟩
theorem isOwn_ok {b : Nat → Nat} {L : Nat} {h : AH} {t : LT} (r : RM b L h t) (v : TKV t) (h1 : tC t = 2 ∨ 256 ≤ tC t) : f_M_isOwn h = some (if tC t = 2 then 0 else 1, h) := by
  have yes : ∀ j, tC t = 256 + j → (some ((1 : Int32), h) : Option (Int32 × AH)) = some (if tC t = 2 then 0 else 1, h) := fun j e => by rw [if_neg (by omega)]
  rw [f_M_isOwn]
  have w0 := word_iff r v h1 (j := 0) (by omega) (l := [107, 105, 110, 100]) rfl (a := 1802071652) (by decide)
  by_cases k0 : tC t = 256 + 0
  · rw [if_pos (w0.mpr k0)]; exact yes _ k0
  rw [if_neg (fun z => k0 (w0.mp z))]
  have w1 := word_iff r v h1 (j := 1) (by omega) (l := [100, 101, 97, 108, 101, 114]) rfl (a := 110386588968306) (by decide)
  by_cases k1 : tC t = 256 + 1
  · rw [if_pos (w1.mpr k1)]; exact yes _ k1
  rw [if_neg (fun z => k1 (w1.mp z))]
  have w2 := word_iff r v h1 (j := 2) (by omega) (l := [111, 102]) rfl (a := 28518) (by decide)
  by_cases k2 : tC t = 256 + 2
  · rw [if_pos (w2.mpr k2)]; exact yes _ k2
  rw [if_neg (fun z => k2 (w2.mp z))]
  have w3 := word_iff r v h1 (j := 3) (by omega) (l := [115, 111, 110, 103]) rfl (a := 1936682599) (by decide)
  by_cases k3 : tC t = 256 + 3
  · rw [if_pos (w3.mpr k3)]; exact yes _ k3
  rw [if_neg (fun z => k3 (w3.mp z))]
  have w4 := word_iff r v h1 (j := 4) (by omega) (l := [97, 103, 101]) rfl (a := 6383461) (by decide)
  by_cases k4 : tC t = 256 + 4
  · rw [if_pos (w4.mpr k4)]; exact yes _ k4
  rw [if_neg (fun z => k4 (w4.mp z))]
  have w5 := word_iff r v h1 (j := 5) (by omega) (l := [103, 111, 108, 100]) rfl (a := 1735355492) (by decide)
  by_cases k5 : tC t = 256 + 5
  · rw [if_pos (w5.mpr k5)]; exact yes _ k5
  rw [if_neg (fun z => k5 (w5.mp z))]
  have w6 := word_iff r v h1 (j := 6) (by omega) (l := [108, 111, 97, 100, 115]) rfl (a := 465725121651) (by decide)
  by_cases k6 : tC t = 256 + 6
  · rw [if_pos (w6.mpr k6)]; exact yes _ k6
  rw [if_neg (fun z => k6 (w6.mp z))]
  have w7 := word_iff r v h1 (j := 7) (by omega) (l := [110, 101, 101, 100, 115]) rfl (a := 474147546227) (by decide)
  by_cases k7 : tC t = 256 + 7
  · rw [if_pos (w7.mpr k7)]; exact yes _ k7
  rw [if_neg (fun z => k7 (w7.mp z))]
  have w8 := word_iff r v h1 (j := 8) (by omega) (l := [99, 104, 105, 114, 112, 115]) rfl (a := 109300096856179) (by decide)
  by_cases k8 : tC t = 256 + 8
  · rw [if_pos (w8.mpr k8)]; exact yes _ k8
  rw [if_neg (fun z => k8 (w8.mp z))]
  have w9 := word_iff r v h1 (j := 9) (by omega) (l := [104, 101, 97, 116]) rfl (a := 1751474548) (by decide)
  by_cases k9 : tC t = 256 + 9
  · rw [if_pos (w9.mpr k9)]; exact yes _ k9
  rw [if_neg (fun z => k9 (w9.mp z))]
  have w10 := word_iff r v h1 (j := 10) (by omega) (l := [115, 110, 97, 112]) rfl (a := 1936613744) (by decide)
  by_cases k10 : tC t = 256 + 10
  · rw [if_pos (w10.mpr k10)]; exact yes _ k10
  rw [if_neg (fun z => k10 (w10.mp z))]
  have w11 := word_iff r v h1 (j := 11) (by omega) (l := [99, 97, 114, 116]) rfl (a := 1667330676) (by decide)
  by_cases k11 : tC t = 256 + 11
  · rw [if_pos (w11.mpr k11)]; exact yes _ k11
  rw [if_neg (fun z => k11 (w11.mp z))]
  have w12 := word_iff r v h1 (j := 12) (by omega) (l := [100, 114, 97, 119]) rfl (a := 1685217655) (by decide)
  by_cases k12 : tC t = 256 + 12
  · rw [if_pos (w12.mpr k12)]; exact yes _ k12
  rw [if_neg (fun z => k12 (w12.mp z))]
  have w16 := word_iff r v h1 (j := 16) (by omega) (l := [109, 97, 116, 101, 115]) rfl (a := 469786453363) (by decide)
  by_cases k16 : tC t = 256 + 16
  · rw [if_pos (w16.mpr k16)]; exact yes _ k16
  rw [if_neg (fun z => k16 (w16.mp z))]
  have w17 := word_iff r v h1 (j := 17) (by omega) (l := [104, 111, 117, 114]) rfl (a := 1752135026) (by decide)
  by_cases k17 : tC t = 256 + 17
  · rw [if_pos (w17.mpr k17)]; exact yes _ k17
  rw [if_neg (fun z => k17 (w17.mp z))]
  have w18 := word_iff r v h1 (j := 18) (by omega) (l := [100, 97, 121]) rfl (a := 6578553) (by decide)
  by_cases k18 : tC t = 256 + 18
  · rw [if_pos (w18.mpr k18)]; exact yes _ k18
  rw [if_neg (fun z => k18 (w18.mp z))]
  have w14 := word_iff r v h1 (j := 14) (by omega) (l := [97, 110, 100]) rfl (a := 6385252) (by decide)
  by_cases k14 : tC t = 256 + 14
  · rw [if_pos (w14.mpr k14)]; exact yes _ k14
  rw [if_neg (fun z => k14 (w14.mp z))]
  have w13 := word_iff r v h1 (j := 13) (by omega) (l := [111, 114]) rfl (a := 28530) (by decide)
  by_cases k13 : tC t = 256 + 13
  · rw [if_pos (w13.mpr k13)]; exact yes _ k13
  rw [if_neg (fun z => k13 (w13.mp z))]
  have w15 := word_iff r v h1 (j := 15) (by omega) (l := [110, 111, 116]) rfl (a := 7237492) (by decide)
  by_cases k15 : tC t = 256 + 15
  · rw [if_neg (fun z => z (w15.mpr k15))]; exact yes _ k15
  rw [if_pos (fun z => k15 (w15.mp z))]
  have : tC t = 2 := by
    have v3 := (v h1).2.2
    rcases kwc_or (tW t) with q | ⟨j, q1, q2, q3⟩
    · omega
    · omega
  rw [if_pos this]
theorem isName_ok {b : Nat → Nat} {L : Nat} {h : AH} {t : LT} (r : RM b L h t) (v : TKV t) (hc : tC t < 300) : f_M_isName h = some (if tC t = 2 then 1 else 0, h) := by
  rw [f_M_isName, r.2.2.2.1]
  by_cases h1 : tC t = 2 ∨ 256 ≤ tC t
  · rw [if_neg (show ¬ ¬ nI (srt (tC t)) = (1 : Int32) from fun z => z ((srt_1 hc).mpr h1)), isOwn_ok r v h1, bI_s]
    by_cases e : tC t = 2
    · rw [if_pos e, if_neg (fun z => z rfl), if_pos e]
    · rw [if_neg e, if_pos (by decide), if_neg e]
  · rw [if_pos (show ¬ nI (srt (tC t)) = (1 : Int32) from fun z => h1 ((srt_1 hc).mp z)), if_neg (by omega)]
theorem find_l {h : AH} {off : Nat} {l : List (List Nat)} (n : NR h off l) {w : List Nat} (w1 : LTR w) (w2 : w.length ≤ 8) (ew : hL h 383 9 = Int64.ofNat (c8 w)) (ho : off + l.length ≤ 9) : ∀ (m i fu : Nat), m + i = l.length → m < fu → f_M_find_l5 (nI off) (nI l.length) fu (if nix w l < i then nI (nix w l) else -1) (nI i) h = some (if nix w l < l.length then nI (nix w l) else -1, h) := by
  intro m
  induction m with
  | zero =>
    intro i fu hi hf
    obtain ⟨g, rfl⟩ : ∃ g, fu = g + 1 := ⟨fu - 1, by omega⟩
    have ei : i = l.length := by omega
    rw [ei, f_M_find_l5, if_pos (Int32.le_refl _)]
  | succ m ih =>
    intro i fu hi hf
    obtain ⟨g, rfl⟩ : ∃ g, fu = g + 1 := ⟨fu - 1, by omega⟩
    have e := n.eq w1 w2 (show i < l.length by omega) ew
    have st := ih (i + 1) g (by omega) (by omega)
    rw [f_M_find_l5, if_neg (nI_ge (by omega) (by omega)), nI_add, gx_n _ (show off + i < 9 by omega) (by omega), ix_n (by omega)]
    by_cases c : i = nix w l
    · rw [if_pos (show nix w l < i + 1 by omega)] at st
      rw [if_neg (fun z => z (e.mpr c)), lt_e, nI_1, ← st, c]
    · have e2 : (if nix w l < i + 1 then nI (nix w l) else (-1 : Int32)) = if nix w l < i then nI (nix w l) else -1 := by
        by_cases q : nix w l < i
        · rw [if_pos q, if_pos (by omega)]
        · rw [if_neg q, if_neg (by omega)]
      rw [e2] at st
      rw [if_pos (fun z => c (e.mp z)), lt_e, nI_1]
      exact st
theorem findM {h : AH} {off : Nat} {l : List (List Nat)} (n : NR h off l) {w : List Nat} (w1 : LTR w) (w2 : w.length ≤ 8) (ew : hL h 383 9 = Int64.ofNat (c8 w)) (ho : off + l.length ≤ 9) : f_M_find (nI off) (nI l.length) h = some (if nix w l < l.length then nI (nix w l) else -1, h) := by
  have e := find_l n w1 w2 ew ho l.length 0 FU rfl (by show l.length < 1000000; omega)
  rw [if_neg (Nat.not_lt_zero _)] at e
  exact e
