/-! ===== the reference's unit ===== -/
def cnt (st : List Nat) : Nat := (st.filter (fun x => decide (x = 20 ∨ x = 21))).length
def gF (s : FS) (st : List Nat) (dp : Nat) : Prop := cnt st = dp ∧ dp ≤ 7 ∧ st.length ≤ s.2.1 + dp ∧ s.2.2.length + st.length ≤ 9 * s.2.1 + dp ∧ s.2.1 ≤ 30
def gT (s : FS) (st : List Nat) (dp : Nat) : Prop := cnt st = dp ∧ dp ≤ 7 ∧ st.length + 1 ≤ s.2.1 + dp ∧ s.2.2.length + st.length + 1 ≤ 9 * s.2.1 ∧ s.2.1 ≤ 30
theorem cnt_1 {x : Nat} (h : x = 20 ∨ x = 21) (st : List Nat) : cnt (x :: st) = cnt st + 1 := by unfold cnt; simp [h]
theorem cnt_0 {x : Nat} (h : ¬ (x = 20 ∨ x = 21)) (st : List Nat) : cnt (x :: st) = cnt st := by unfold cnt; rw [List.filter_cons_of_neg (by simpa using h)]
theorem MR_f (nx : LT → LT) (n : Nat) (s : FS) (st : List Nat) (dp : Nat) : MR nx (n + 1) false s st dp = if tC s.1 = 271 ∧ mayN st = true then (if 6 < dp then .error (er 2 s.1) else MR nx n false (nx s.1, s.2.1, s.2.2) (21 :: st) (dp + 1))
    else if tC s.1 = 40 then (if 30 ≤ s.2.1 ∨ 6 < dp then .error (er 2 s.1) else MR nx n false (nx s.1, s.2.1 + 1, s.2.2) (20 :: st) (dp + 1))
    else if (¬ tC s.1 = 1 ∧ askT (tC s.1) = 0) ∨ 30 ≤ s.2.1 then .error (er 2 s.1)
    else MR nx n true (nx s.1, s.2.1 + 1, s.2.2 ++ [if askT (tC s.1) = 0 then (0, tN s.1) else (1, askT (tC s.1) - 1)]) st dp := rfl
theorem DJ.v {b : Nat → Nat} {L : Nat} {h : AH} {e : Nat × Nat} (x : DJ b L h e) : ¬ hI h 383 2 = 0 ∧ ¬ hI h 383 2 ≤ 0 := by
  obtain ⟨m, x1, x2, x3, x4⟩ := x
  rw [x1]
  exact ⟨fun z => by have := (n_inj (show e.1 < 2 ^ 31 by omega) (show 0 < 2 ^ 31 by omega)).mp z; omega, nI_ge (a := 0) x2 (by omega)⟩
theorem DJ.b101 {b : Nat → Nat} {L : Nat} {h : AH} {e : Nat × Nat} (x : DJ b L h e) : f_M_unit_b101 h = some h := by
  rw [f_M_unit_b101, if_neg x.v.2]
theorem DJ.l2 {b : Nat → Nat} {L : Nat} {h : AH} {e : Nat × Nat} (x : DJ b L h e) (n : Nat) (y : Int32) : f_M_unit_l2 (n + 1) y h = some h := by
  rw [f_M_unit_l2]
  by_cases c : y = 0
  · rw [if_pos c]; exact x.b101
  · rw [if_neg c, if_pos x.v.1]; exact x.b101
def UR (b : Nat → Nat) (L w u0 : Nat) (s : FS) (st : List Nat) (dp : Nat) (h : AH) (X : Option AH) : Prop := ∃ h1, X = some h1 ∧ FrF w h h1 ∧ ((∃ s' st' dp' j, XM b L w u0 h1 s' st' dp' ∧ gT s' st' dp' ∧ TG L s'.1 ∧ tP s.1 < tP s'.1 ∧ j + tP s.1 ≤ tP s'.1 ∧ ∀ n, MR (nxl b L) (n + j) false s st dp = MR (nxl b L) n true s' st' dp') ∨ ∃ e j, DJ b L h1 e ∧ j + tP s.1 ≤ L ∧ ∀ n, MR (nxl b L) (n + j + 1) false s st dp = .error e)
/-- a leaf, or nothing that may stand here -/
theorem leaf_ok {b : Nat → Nat} {L w u0 : Nat} {s : FS} {st : List Nat} {dp : Nat} {h : AH} (hu0 : u0 ≤ 30) (x : XM b L w u0 h s st dp) (g : gF s st dp) (tg : TG L s.1) (hn : ¬ (tC s.1 = 271 ∧ mayN st = true)) (h40 : ¬ tC s.1 = 40) : UR b L w u0 s st dp h (f_M_unit_b101 h) := by
  obtain ⟨g1, g2, g3, g4, g5⟩ := g
  have mr : ∀ n, MR (nxl b L) (n + 1) false s st dp = if (¬ tC s.1 = 1 ∧ askT (tC s.1) = 0) ∨ 30 ≤ s.2.1 then .error (er 2 s.1)
    else MR (nxl b L) n true (nxl b L s.1, s.2.1 + 1, s.2.2 ++ [if askT (tC s.1) = 0 then (0, tN s.1) else (1, askT (tC s.1) - 1)]) st dp := fun n => by rw [MR_f, if_neg hn, if_neg h40]
  have bad : ((¬ tC s.1 = 1 ∧ askT (tC s.1) = 0) ∨ 30 ≤ s.2.1) → ∀ y, UR b L w u0 s st dp h (f_M_unit_b133 y h) := fun hb y => by
    obtain ⟨h1, e1, f1, d1, -⟩ := x.wrong
    refine ⟨h1, by rw [f_M_unit_b133, e1, bV_s, f_M_unit_b138, if_neg d1.v.2], f1, Or.inr ⟨_, 0, d1, by have := tg.2.1; omega, fun n => ?_⟩⟩
    rw [Nat.add_zero, mr, if_pos hb]
  have r := x.1
  have v := x.2.1
  rw [f_M_unit_b101, x.2.2.1, if_pos (Int32.le_refl _), asked_ok r v.1 v.2, bI_s, r.2.2.2.1]
  have full : ∀ y, ¬ (¬ tC s.1 = 1 ∧ askT (tC s.1) = 0) → (y = if askT (tC s.1) = 0 then -1 else nI (askT (tC s.1) - 1)) → UR b L w u0 s st dp h (f_M_unit_b126 y h) := fun y hc hy => by
    rw [f_M_unit_b126, x.full g5 hu0, bI_s]
    by_cases h30 : 30 ≤ s.2.1
    · rw [if_pos h30, if_neg (by decide)]
      exact bad (Or.inr h30) y
    · rw [if_neg h30, if_pos rfl, f_M_unit_b138, x.2.2.1, if_pos (Int32.le_refl _)]
      obtain ⟨h1, e1, f1, x1⟩ := x.count
      have h3 : ¬ tC s.1 = 3 := fun z => by rw [z] at hc; exact hc ⟨by decide, by decide⟩
      have h0 : ¬ tC s.1 = 0 := fun z => by rw [z] at hc; exact hc ⟨by decide, by decide⟩
      have fin : ∀ z : Nat × Nat, (z = if askT (tC s.1) = 0 then (0, tN s.1) else (1, askT (tC s.1) - 1)) → UR b L w u0 s st dp h (f_M_unit_b172 (nI z.1) (nI z.2) h1) := fun z hz => by
        obtain ⟨h2, e2, f2, x2⟩ := x1.add z (by show s.2.2.length < 320; omega)
        obtain ⟨h4, e4, f4, x4⟩ := x2.next h3
        have nk := nxl_k b L s.1 tg
        have lt := tg.2.2 h0 h3
        refine ⟨h4, by rw [f_M_unit_b172, e2, bV_s, e4, bV_s], (f1.t f2).t f4, Or.inl ⟨_, st, dp, 1, x4, ⟨g1, g2, by show st.length + 1 ≤ s.2.1 + 1 + dp; omega, by show (s.2.2 ++ [z]).length + st.length + 1 ≤ 9 * (s.2.1 + 1); rw [List.length_append]; show s.2.2.length + 1 + st.length + 1 ≤ _; omega, by show s.2.1 + 1 ≤ 30; omega⟩, nk.1, by show tP s.1 < tP (nxl b L s.1); omega, by show 1 + tP s.1 ≤ tP (nxl b L s.1); omega, fun n => ?_⟩⟩
        rw [mr, if_neg (fun q => q.elim hc h30), hz]
      rw [e1, bV_s]
      by_cases ha : askT (tC s.1) = 0
      · rw [if_pos ha] at hy
        have c1 : tC s.1 = 1 := by
          by_cases q : tC s.1 = 1
          · exact q
          · exact absurd ⟨q, ha⟩ hc
        have n8 := (x1.1.2.2.2.2 (by show ¬ tC s.1 = 3; omega)).2.2.1 c1
        have e := fin (0, tN s.1) (by rw [if_pos ha])
        rw [hy, if_neg (by decide), f_M_unit_b160, if_neg (by decide), n8]
        exact e
      · rw [if_neg ha] at hy
        have a6 := ask_6 (tC s.1)
        have e := fin (1, askT (tC s.1) - 1) (by rw [if_neg ha])
        have p : (0 : Int32) ≤ nI (askT (tC s.1) - 1) := nI_le (a := 0) (by omega) (by omega)
        rw [hy, if_pos p, f_M_unit_b160, if_pos p]
        exact e
  by_cases c1 : tC s.1 = 1
  · rw [if_pos ((srt_2 v.2).mpr c1)]
    exact full _ (fun z => z.1 c1) rfl
  · rw [if_neg (fun z => c1 ((srt_2 v.2).mp z))]
    by_cases ha : askT (tC s.1) = 0
    · rw [if_pos ha, if_pos (by decide)]
      exact bad (Or.inl ⟨c1, ha⟩) _
    · have a6 := ask_6 (tC s.1)
      rw [if_neg ha, if_neg (show ¬ nI (askT (tC s.1) - 1) < (0 : Int32) from n_nlt (b := 0) (by omega) (by omega))]
      exact full _ (fun z => ha z.2) (by rw [if_neg ha])
theorem UR.step {b : Nat → Nat} {L w u0 : Nat} {s s1 : FS} {st st1 : List Nat} {dp dp1 : Nat} {h h1 : AH} {X : Option AH} (f : FrF w h h1) (u : UR b L w u0 s1 st1 dp1 h1 X) (lt : tP s.1 < tP s1.1) (e : ∀ n, MR (nxl b L) (n + 1) false s st dp = MR (nxl b L) n false s1 st1 dp1) : UR b L w u0 s st dp h X := by
  obtain ⟨h2, e2, f2, q⟩ := u
  refine ⟨h2, e2, f.t f2, ?_⟩
  rcases q with ⟨s', st', dp', j, a1, a2, a3, a4, a5, a6⟩ | ⟨e', j, a1, a2, a3⟩
  · exact Or.inl ⟨s', st', dp', j + 1, a1, a2, a3, by omega, by omega, fun n => by rw [show n + (j + 1) = n + j + 1 by omega, e, a6]⟩
  · exact Or.inr ⟨e', j + 1, a1, by omega, fun n => by rw [show n + (j + 1) + 1 = n + j + 1 + 1 by omega, e, a3]⟩
theorem unit_run {b : Nat → Nat} {L w u0 : Nat} (hu0 : u0 ≤ 30) : ∀ (m : Nat) (s : FS) (st : List Nat) (dp fu : Nat) (h : AH), L < tP s.1 + m → m + 1 < fu → XM b L w u0 h s st dp → gF s st dp → TG L s.1 → UR b L w u0 s st dp h (f_M_unit_l2 fu 1 h) := by
  intro m
  induction m with
  | zero => intro s st dp fu h hm _ _ _ tg; have := tg.2.1; omega
  | succ m ih =>
    intro s st dp fu h hm hf x g tg
    obtain ⟨n, rfl⟩ : ∃ n, fu = n + 2 := ⟨fu - 2, by omega⟩
    have v := x.2.1
    have r := x.1
    obtain ⟨g1, g2, g3, g4, g5⟩ := g
    have lo : ∀ y, f_M_unit_l2 (n + 1) 0 y = f_M_unit_b101 y := fun y => by rw [f_M_unit_l2, if_pos rfl]
    rw [show n + 2 = (n + 1) + 1 from rfl, f_M_unit_l2, if_neg (by decide), x.2.2.1, if_neg (fun z => z rfl), isWord_ok r v.1 v.2 (j := 15) (by omega) (l := [110, 111, 116]) rfl (by decide), bI_s]
    have br : ¬ (tC s.1 = 271 ∧ mayN st = true) → UR b L w u0 s st dp h (f_M_unit_b53 (f_M_unit_l2 (n + 1)) 1 h) := fun hn => by
      rw [f_M_unit_b53, r.2.2.2.1]
      by_cases h40 : tC s.1 = 40
      · have h3 : ¬ tC s.1 = 3 := by omega
        have h0 : ¬ tC s.1 = 0 := by omega
        have nk := nxl_k b L s.1 tg
        have lt := tg.2.2 h0 h3
        have mr : ∀ n, MR (nxl b L) (n + 1) false s st dp = if 30 ≤ s.2.1 ∨ 6 < dp then .error (er 2 s.1) else MR (nxl b L) n false (nxl b L s.1, s.2.1 + 1, s.2.2) (20 :: st) (dp + 1) := fun n => by rw [MR_f, if_neg hn, if_pos h40]
        rw [if_neg (show ¬ ¬ nI (srt (tC s.1)) = (40 : Int32) from fun z => z ((srt_k (k := 40) v.2 (by omega) (by omega)).mpr h40)), x.full g5 hu0, bI_s]
        have bad : (30 ≤ s.2.1 ∨ 6 < dp) → UR b L w u0 s st dp h (f_M_unit_b78 (f_M_unit_l2 (n + 1)) 1 h) := fun hb => by
          obtain ⟨h1, e1, f1, d1, k1⟩ := x.wrong
          obtain ⟨h2, e2, f2, d2, k2⟩ := d1.count (w := w)
          obtain ⟨h4, e4, f4, d4⟩ := d2.up (w := w) (n := st.length) (by omega) (by rw [k2, k1 21 (by omega) (by omega)]; exact x.2.2.2.1.1) 20
          refine ⟨h4, by rw [f_M_unit_b78, e1, bV_s, f_M_unit_b83, e2, bV_s, e4, bV_s]; exact d4.l2 n 1, (f1.t f2).t f4, Or.inr ⟨_, 0, d4, by have := tg.2.1; omega, fun n => ?_⟩⟩
          rw [Nat.add_zero, mr, if_pos hb]
        by_cases h30 : 30 ≤ s.2.1
        · rw [if_pos h30, if_pos (by decide)]
          exact bad (Or.inl h30)
        · rw [if_neg h30, if_neg (by decide), x.2.2.2.2.2.1]
          by_cases h6 : 6 < dp
          · rw [if_neg (show ¬ nI dp ≤ (6 : Int32) from nI_ge (a := 6) h6 (by omega))]
            exact bad (Or.inr h6)
          · rw [if_pos (show nI dp ≤ (6 : Int32) from nI_le (b := 6) (by omega) (by omega)), f_M_unit_b83]
            obtain ⟨h1, e1, f1, x1⟩ := x.count
            obtain ⟨h2, e2, f2, x2⟩ := x1.up (y := 20) h3 (by omega) (by omega)
            have e2' : f_M_openUp 20 h1 = some h2 := e2
            rw [e1, bV_s, e2', bV_s]
            refine UR.step (f1.t f2) (ih _ (20 :: st) (dp + 1) (n + 1) h2 (by show L < tP (nxl b L s.1) + m; omega) (by omega) x2 ⟨by rw [cnt_1 (Or.inl rfl), g1], by omega, by show st.length + 1 ≤ s.2.1 + 1 + (dp + 1); omega, by show s.2.2.length + (st.length + 1) ≤ 9 * (s.2.1 + 1) + (dp + 1); omega, by show s.2.1 + 1 ≤ 30; omega⟩ nk.1) (by show tP s.1 < tP (nxl b L s.1); omega) (fun n => ?_)
            rw [mr, if_neg (by omega)]
      · rw [if_pos (show ¬ nI (srt (tC s.1)) = (40 : Int32) from fun z => h40 ((srt_k (k := 40) v.2 (by omega) (by omega)).mp z)), lo]
        exact leaf_ok hu0 x ⟨g1, g2, g3, g4, g5⟩ tg hn h40
    by_cases h271 : tC s.1 = 271
    · rw [if_pos (show tC s.1 = 256 + 15 from h271), if_neg (by decide), mayNot_ok x.2.2.2.1 (by omega), bI_s]
      by_cases hm : mayN st = true
      · have h3 : ¬ tC s.1 = 3 := by omega
        have h0 : ¬ tC s.1 = 0 := by omega
        have nk := nxl_k b L s.1 tg
        have lt := tg.2.2 h0 h3
        have mr : ∀ n, MR (nxl b L) (n + 1) false s st dp = if 6 < dp then .error (er 2 s.1) else MR (nxl b L) n false (nxl b L s.1, s.2.1, s.2.2) (21 :: st) (dp + 1) := fun n => by rw [MR_f, if_pos ⟨h271, hm⟩]
        rw [if_pos hm, if_neg (by decide), x.2.2.2.2.2.1]
        by_cases h6 : 6 < dp
        · rw [if_neg (show ¬ nI dp ≤ (6 : Int32) from nI_ge (a := 6) h6 (by omega))]
          obtain ⟨h1, e1, f1, d1, k1⟩ := x.wrong
          obtain ⟨h4, e4, f4, d4⟩ := d1.up (w := w) (n := st.length) (by omega) (by rw [k1 21 (by omega) (by omega)]; exact x.2.2.2.1.1) 21
          refine ⟨h4, by rw [e1, bV_s, f_M_unit_b44, e4, bV_s]; exact d4.l2 n 1, f1.t f4, Or.inr ⟨_, 0, d4, by have := tg.2.1; omega, fun n => ?_⟩⟩
          rw [Nat.add_zero, mr, if_pos h6]
        · rw [if_pos (show nI dp ≤ (6 : Int32) from nI_le (b := 6) (by omega) (by omega)), f_M_unit_b44]
          obtain ⟨h2, e2, f2, x2⟩ := x.up (y := 21) h3 (by omega) (by omega)
          have e2' : f_M_openUp 21 h = some h2 := e2
          rw [e2', bV_s]
          refine UR.step f2 (ih _ (21 :: st) (dp + 1) (n + 1) h2 (by show L < tP (nxl b L s.1) + m; omega) (by omega) x2 ⟨by rw [cnt_1 (Or.inr rfl), g1], by omega, by show st.length + 1 ≤ s.2.1 + (dp + 1); omega, by show s.2.2.length + (st.length + 1) ≤ 9 * s.2.1 + (dp + 1); omega, g5⟩ nk.1) (by show tP s.1 < tP (nxl b L s.1); omega) (fun n => ?_)
          rw [mr, if_neg h6]
      · rw [if_neg hm, if_pos rfl]
        exact br (fun z => hm z.2)
    · rw [if_neg (show ¬ tC s.1 = 256 + 15 from h271), if_pos rfl]
      exact br (fun z => h271 z.1)
