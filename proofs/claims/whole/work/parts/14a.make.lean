def okT : FieldType → Bool
  | .float | .double => false
  | _ => true
theorem okT_0 : ∀ k, k < 3 → okT (tyF 0 k) = true := by decide +kernel
theorem okT_1 : ∀ k, k < 2 → okT (tyF 1 k) = true := by decide +kernel
theorem okT_2 : ∀ k, k < 2 → okT (tyF 2 k) = true := by decide +kernel
theorem okT_3 : ∀ k, k < 8 → okT (tyF 3 k) = true := by decide +kernel
theorem okT_4 : ∀ k, k < 12 → okT (tyF 4 k) = true := by decide +kernel
theorem okT_5 : ∀ k, k < 5 → okT (tyF 5 k) = true := by decide +kernel
theorem okT_6 : ∀ k, k < 2 → okT (tyF 6 k) = true := by decide +kernel
theorem okT_7 : ∀ k, k < 16 → okT (tyF 7 k) = true := by decide +kernel
theorem okT_8 : ∀ k, k < 2 → okT (tyF 8 k) = true := by decide +kernel
theorem okT_9 : ∀ k, k < 12 → okT (tyF 9 k) = true := by decide +kernel
theorem okT_10 : ∀ k, k < 10 → okT (tyF 10 k) = true := by decide +kernel
theorem okT_11 : ∀ k, k < 13 → okT (tyF 11 k) = true := by decide +kernel
theorem okT_12 : ∀ k, k < 73 → okT (tyF 12 k) = true := by decide +kernel
theorem cls_ok : ∀ (ci : Nat) (r : vw_C), classes[ci]? = some r → ∀ k, k < r.2.2 → okT (tyF ci k) = true := cls_all (P := fun ci r => ∀ k, k < r.2.2 → okT (tyF ci k) = true) okT_0 okT_1 okT_2 okT_3 okT_4 okT_5 okT_6 okT_7 okT_8 okT_9 okT_10 okT_11 okT_12
abbrev ST : AH → Prop := fun _ => True
def gc {α : Type} (h : AH) (c : Nat) (k : AK) (K : Option α) : Option α := if c < hN h ∧ hK h c = k then K else none
def ga {α : Type} (h : AH) (c t : Nat) (K : Nat → Option α) : Option α := match hK h c with
  | .inl q => if q.1 = t ∧ c < hN h then K q.2 else none
  | .inr _ => none
def gq {α : Type} (h : AH) (c k : Nat) (K : Nat → Option α) : Option α := match hR h c k with
  | some x => K x
  | none => none
def stdB (n : Nat) (h : AH) : Bool := hN h == n && (List.range n).all (fun c => decide (hK h c = kdF c) && (List.range (rfL.getD c []).length).all (fun k => rfF c k == 0 || decide (hR h c k = some (rfF c k))))
theorem stdB_ok {n : Nat} {h : AH} (hb : stdB n h = true) : Std n h := by
  unfold stdB at hb
  rw [Bool.and_eq_true] at hb
  refine ⟨by simpa using hb.1, fun c hc => ?_⟩
  have h1 := List.all_eq_true.mp hb.2 c (List.mem_range.mpr hc)
  rw [Bool.and_eq_true] at h1
  refine ⟨by simpa using h1.1, fun k x hx => ?_⟩
  have hk : k < (rfL.getD c []).length := Nat.lt_of_not_le fun q => by
    unfold rfF at hx
    rw [List.getD_eq_getElem?_getD, List.getElem?_eq_none q] at hx
    cases hx
  have h2 := List.all_eq_true.mp h1.2 k (List.mem_range.mpr hk)
  rw [hx] at h2
  simpa using h2
theorem am_dflt {G : AE} {h : AH} {c ci : Nat} {k : Nat} (ho : okT (tyF ci k) = true) (hi : hI h c k = 0) (hl : hL h c k = 0) (hr : hR h c k = none) : defaultValue (tyF ci k) = am_V G h c (tyF ci) k := by
  unfold am_V
  cases hq : tyF ci k <;> rw [hq] at ho <;> first | (cases ho; done) | (simp only [defaultValue, hi, hl, hr]; done) | (simp only [defaultValue, hi, hl, hr]; rfl)
def ge {α : Type} (a b : Nat) (K : Option α) : Option α := if a = b then K else none
section MK
variable {α : Type} {G : AE} {S S2 : AH → Prop} {y y2 : MI} {R : Room} {Z : AZ} {φ : α → Option Value × AH} {kn kn1 : Nat × Nat} {pc d2 mc ms idx : Nat} {lv : List (Option Value)} {st st0 As : List Value} {h : AH} {X : Option α}
theorem r_gc {h0 : AH} {c : Nat} {k : AK} (K : (c < hN h0 ∧ hK h0 c = k) → AR G S y R Z φ kn pc lv st h X) : AR G S y R Z φ kn pc lv st h (gc h0 c k X) := by
  intro a hX
  unfold gc at hX
  split at hX
  · rename_i hq
    exact K hq a hX
  · cases hX
theorem r_ga {h0 : AH} {c t : Nat} {K0 : Nat → Option α} (K : ∀ n, (c < hN h0 ∧ hK h0 c = .inl (t, n)) → AR G S y R Z φ kn pc lv st h (K0 n)) : AR G S y R Z φ kn pc lv st h (ga h0 c t K0) := by
  intro a hX
  unfold ga at hX
  split at hX
  · rename_i q hq
    split at hX
    · rename_i ht
      exact K q.2 ⟨ht.2, by rw [hq, ← ht.1]⟩ a hX
    · cases hX
  · cases hX
theorem r_gq {h0 : AH} {c k : Nat} {K0 : Nat → Option α} (K : ∀ x, hR h0 c k = some x → AR G S y R Z φ kn pc lv st h (K0 x)) : AR G S y R Z φ kn pc lv st h (gq h0 c k K0) := by
  intro a hX
  unfold gq at hX
  split at hX
  · rename_i x hx
    exact K x hx a hX
  · cases hX
theorem r_ge {a1 b1 : Nat} (K : a1 = b1 → AR G S y R Z φ kn pc lv st h X) : AR G S y R Z φ kn pc lv st h (ge a1 b1 X) := by
  intro a hX
  unfold ge at hX
  split at hX
  · rename_i hq
    exact K hq a hX
  · cases hX
theorem r_ltR {x : Nat} {K : Nat → Option α} (k : ∀ v, AR G S y R Z φ kn pc lv (.ref v :: st) h (K v)) : AR G S y R Z φ kn pc lv (.ref x :: st) h (lt x K) := k x
theorem r_kI {b0 : Nat} {f : Option AH} {K0 : AH → Option α} (ok : Ok G S y2 d2 mc ms φV (.ref b0 :: As) h f) (wc : Cond.code y2.1 y2.2.1 y2.2.2.1 y2.2.2.2 ∈ lw_good) (wi : Cond.initialized y2.1.cls ∈ lw_good) (wl : Cond.methodLink y.1.cls idx y2.1 ∈ lw_good) (wn : Cond.instanceMethod y2.1 ∈ lw_good) (hi : y2.1.name = "<init>") (hrn : y2.2.2.2 = none) (hy : y2.1.cls ≠ "java/lang/invoke/MethodHandle" ∧ y2.1.cls ≠ "java/lang/invoke/VarHandle" ∧ (parseMethodDescriptor y2.1.desc).map (fun d => d.parameters.length) = some As.length) (hf : d2 + 1 ≤ R.frames ∧ 8 + (y2.2.2.1 + 11) + 60 * d2 ≤ R.locals) (hcs : kn.1 + mc ≤ R.cells ∧ kn.2 + ms ≤ R.slots) (hkn : kn1 = (kn.1 + mc, kn.2 + ms)) (hst : st0 = As.reverse ++ .ref b0 :: st) (hcat : (st.map fun v => v.category).sum ≤ 8) (hd : decode y.2.1 pc = .ok (.invokespecial idx, 3)) (kk : ∀ h1 : AH, AR G S y R Z φ kn1 (pc + 3) lv st h1 (K0 h1)) : AR G S y R Z φ kn pc lv st0 h (bV f K0) := by
  subst hkn
  exact r_callIv ok wc wi wl wn hi hrn hy hf hcs hst hcat hd (fun s => s) (fun _ _ s => s) (fun h1 _ => kk h1)
theorem r_kIN {b0 : Nat} {f : Option AH} {K0 : AH → Option α} (ok : Ok G S y2 d2 mc ms φV (.ref b0 :: As) h f) (wc : Cond.code y2.1 y2.2.1 y2.2.2.1 y2.2.2.2 ∈ lw_good) (wi : Cond.initialized y2.1.cls ∈ lw_good) {host : String} (wl : (y.1.cls, idx, y2.1, host) ∈ nestW) (wn : Cond.instanceMethod y2.1 ∈ lw_good) (hi : y2.1.name = "<init>") (hrn : y2.2.2.2 = none) (hy : y2.1.cls ≠ "java/lang/invoke/MethodHandle" ∧ y2.1.cls ≠ "java/lang/invoke/VarHandle" ∧ (parseMethodDescriptor y2.1.desc).map (fun d => d.parameters.length) = some As.length) (hf : d2 + 1 ≤ R.frames ∧ 8 + (y2.2.2.1 + 11) + 60 * d2 ≤ R.locals) (hcs : kn.1 + mc ≤ R.cells ∧ kn.2 + ms ≤ R.slots) (hkn : kn1 = (kn.1 + mc, kn.2 + ms)) (hst : st0 = As.reverse ++ .ref b0 :: st) (hcat : (st.map fun v => v.category).sum ≤ 8) (hd : decode y.2.1 pc = .ok (.invokespecial idx, 3)) (kk : ∀ h1 : AH, AR G S y R Z φ kn1 (pc + 3) lv st h1 (K0 h1)) : AR G S y R Z φ kn pc lv st0 h (bV f K0) := by
  subst hkn
  exact r_callINv ok wc wi wl wn hi hrn hy hf hcs hst hcat hd (fun s => s) (fun _ _ s => s) (fun h1 _ => kk h1)
theorem r_icmp_geH {x y1 : Int32} {off : Int} {tgt : Nat} {X2 : Option α} (hd : decode y.2.1 pc = .ok (.if_icmp .ge off, 3)) (ht : (pc : Int) + off = (tgt : Int)) (K : y1 ≤ x → AR G S y R Z φ kn tgt lv st h X) (K2 : ¬ y1 ≤ x → AR G S y R Z φ kn (pc + 3) lv st h X2) : AR G S y R Z φ kn pc lv (.int y1 :: .int x :: st) h (if y1 ≤ x then X else X2) := by
  intro a hX hS p e s m args below meth c H ls locs C hR0 hSv hl
  refine lv_icmp_ge C.1 C.2.1 hd ht (fun q => ?_) (fun q => ?_)
  · rw [if_pos q] at hX
    exact K q a hX hS p e s m args below meth c H ls locs C hR0 hSv hl
  · rw [if_neg q] at hX
    exact K2 q a hX hS p e s m args below meth c H ls locs C hR0 hSv hl
theorem r_S {S' : AH → Prop} (hS : S h → S' h) (K : AR G S' y R Z φ kn pc lv st h X) : AR G S y R Z φ kn pc lv st h X := fun a hX hs => K a hX (hS hs)
theorem r_wid (h1 : kn.1 ≤ kn1.1) (h2 : kn.2 ≤ kn1.2) (K : AR G S y R Z φ kn1 pc lv st h X) : AR G S y R Z φ kn pc lv st h X := by
  intro a hX hS p e s m args below meth c H ls locs C hR0 hSv hl
  exact W.widen h1 h2 (K a hX hS p e s m args below meth c H ls locs C hR0 hSv hl)
theorem rep_new {k : AK} {H H1 : Heap} (hR0 : Rep G h H) (z : H1.size = H.size + 1) (o : ∀ q, q < H.size → H1[q]? = H[q]?) (hc : am_at G (nC h k) (hN h) H1) : Rep G (nC h k) H1 := by
  refine ⟨by rw [z, hR0.1]; rfl, fun q hq => ?_⟩
  by_cases e : q = hN h
  · rw [e]; exact hc
  · have hq1 : q < hN h := by have : q < hN h + 1 := hq; omega
    exact am_same (hR0.2 q hq1) (by simp [hK, nC, e]) (fun k' => by simp [hI, nC, e]) (fun k' => by simp [hL, nC, e]) (fun k' => by simp [hR, nC, e]) (o _ (by rw [hR0.1]; omega))
theorem S_new {H0 H H1 : Heap} {locs : List Loc} (h : va_S (fun q => eB G ≤ q) H0 H locs) (z : H1.size = H.size + 1) (o : ∀ q, q < H.size → H1[q]? = H[q]?) : va_S (fun q => eB G ≤ q) H0 H1 locs := ⟨Nat.le_trans h.1 (by omega), fun x h1 h2 => (o x (Nat.lt_of_lt_of_le h1 h.1)).trans (h.2.1 x h1 h2), h.2.2⟩
theorem nC_i (h : AH) (k : AK) (j : Nat) : hI (nC h k) (hN h) j = 0 := by simp [hI, nC]
theorem nC_l (h : AH) (k : AK) (j : Nat) : hL (nC h k) (hN h) j = 0 := by simp [hL, nC]
theorem nC_r (h : AH) (k : AK) (j : Nat) : hR (nC h k) (hN h) j = none := by simp [hR, nC]
theorem nC_k (h : AH) (k : AK) : hK (nC h k) (hN h) = k := by simp [hK, nC]
theorem r_new {ci N : Nat} {C : String} {T : u_T} (hr : classes[ci]? = some (C, T, N)) (wc : Cond.classLink y.1.cls idx C ∈ lw_good) (wn : Cond.instantiable C N ∈ lw_good) (wi : Cond.initialized C ∈ lw_good) (hkn : kn1 = (kn.1 + 1, kn.2 + N)) (hcs : kn.1 + 1 ≤ R.cells ∧ kn.2 + N ≤ R.slots) (hS1 : S h → S (nC h (.inr ci))) (hd : decode y.2.1 pc = .ok (.new idx, 3)) (K : AR G S y R Z φ kn1 (pc + 3) lv (.ref (hN h) :: st) (nC h (.inr ci)) X) : AR G S y R Z φ kn pc lv st h X := by
  intro a hX hS p e s m args below meth c H ls locs C hR0 hSv hl
  subst hkn
  obtain ⟨hx, hb, hml, hrt, hown, hts, hlocks, hK0, hxw, hbs, hnm⟩ := id C
  have hKn := hK0.1 ci _ hr
  refine W.newcK hx hb hown (hts _ wc) (hts _ wn) (hts _ wi) rfl hd hcs.1 hcs.2 hKn.2.1 hR0.1 fun H1 kC hkC e1 z1 o1 => ?_
  have hz : H1.size = H.size + 1 := by rw [z1, hR0.1]
  have ho : ∀ q, q < H.size → H1[q]? = H[q]? := fun q hq => o1 q (by rw [← hR0.1]; exact hq)
  have hc1 : am_at G (nC h (.inr ci)) (hN h) H1 := by
    unfold am_at
    rw [nC_k]
    exact ⟨_, hr, (u_born (tyF ci) hts (cls_in ci _ hr) hKn hkC e1 (cls_ty ci _ hr)).to (fun j hj => am_dflt (cls_ok ci _ hr j hj) (nC_i h _ j) (nC_l h _ j) (nC_r h _ j))⟩
  exact K a hX (hS1 hS) p e s m args below meth c H1 ls locs C (rep_new hR0 hz ho hc1) (S_new hSv hz ho) hl
theorem r_newa {atype : ArrayType} {t N : Nat} {v : Int32} (ht : t < 3) (hty : newarray.typeOf atype = aty t) (wa : Cond.arrayClass (newarray.typeOf atype) ∈ lw_good) (hv : v.toInt = (N : Int)) (hby : N * componentBytes (aty t) ≤ 536870912) (hkn : kn1 = (kn.1 + 1, kn.2 + N)) (hcs : kn.1 + 1 ≤ R.cells ∧ kn.2 + N ≤ R.slots) (hS1 : S h → S (nC h (.inl (t, N)))) (hd : decode y.2.1 pc = .ok (.newarray atype, 2)) (K : AR G S y R Z φ kn1 (pc + 2) lv (.ref (hN h) :: st) (nC h (.inl (t, N))) X) : AR G S y R Z φ kn pc lv (.int v :: st) h X := by
  intro a hX hS p e s m args below meth c H ls locs C hR0 hSv hl
  subst hkn
  obtain ⟨hx, hb, hml, hrt, hown, hts, hlocks, hK0, hxw, hbs, hnm⟩ := id C
  have hvN : v.toNatClampNeg = N := by show v.toInt.toNat = N; rw [hv]; rfl
  refine va_newaK (g := F0 m pc ls (.int v :: st.map (cv G))) hx hb (hts _ wa) rfl hd rfl (by rw [Int32.lt_iff_toInt_lt, hv]; show ¬ (N : Int) < 0; omega) hvN (by rw [hty]; exact hby) hcs.1 hcs.2 hR0.1 fun H1 cA e1 z1 o1 hA hf => ?_
  have hz : H1.size = H.size + 1 := by rw [z1, hR0.1]
  have ho : ∀ q, q < H.size → H1[q]? = H[q]? := fun q hq => o1 q (by rw [← hR0.1]; exact hq)
  have hcA : cA = eA G t := by
    have h9 := (hK0.2 t _ (at_tys G t (by omega))).2
    rw [hty] at hf
    rcases (show t = 0 ∨ t = 1 ∨ t = 2 by omega) with rfl | rfl | rfl <;> exact Option.some.inj (hf.symm.trans h9)
  have hc1 : am_at G (nC h (.inl (t, N))) (hN h) H1 := by
    unfold am_at
    rw [nC_k]
    refine ⟨by show t < 4; omega, ?_⟩
    rw [e1, hty, hcA]
    have fi : hI (nC h (.inl (t, N))) (hN h) = fun _ => 0 := funext (nC_i h _)
    have fl : hL (nC h (.inl (t, N))) (hN h) = fun _ => 0 := funext (nC_l h _)
    rcases (show t = 0 ∨ t = 1 ∨ t = 2 by omega) with rfl | rfl | rfl
    · show some (arrV _ _ _) = some (vp_cell _ (N, .inl _))
      rw [fi]; rfl
    · show some (arrV _ _ _) = some (vp_cell _ (N, .inl _))
      rw [fi]; rfl
    · show some (arrV _ _ _) = some (vp_cell _ (N, .inr (.inl _)))
      rw [fl]; rfl
  exact K a hX (hS1 hS) p e s m args below meth c H1 ls locs C (rep_new hR0 hz ho hc1) (S_new hSv hz ho) hl
theorem r_anew {N : Nat} {v : Int32} (wc : Cond.classLink y.1.cls idx "CricketHay$Yard" ∈ lw_good) (hv : v.toInt = (N : Int)) (hby : N * 4 ≤ 536870912) (hkn : kn1 = (kn.1 + 1, kn.2 + N)) (hcs : kn.1 + 1 ≤ R.cells ∧ kn.2 + N ≤ R.slots) (hS1 : S h → S (nC h (.inl (3, N)))) (hd : decode y.2.1 pc = .ok (.anewarray idx, 3)) (K : AR G S y R Z φ kn1 (pc + 3) lv (.ref (hN h) :: st) (nC h (.inl (3, N))) X) : AR G S y R Z φ kn pc lv (.int v :: st) h X := by
  intro a hX hS p e s m args below meth c H ls locs C hR0 hSv hl
  subst hkn
  obtain ⟨hx, hb, hml, hrt, hown, hts, hlocks, hK0, hxw, hbs, hnm⟩ := id C
  have hvN : v.toNatClampNeg = N := by show v.toInt.toNat = N; rw [hv]; rfl
  subst hvN
  refine W.anew (g := F0 m pc ls (.int v :: st.map (cv G))) hx hb hown (hts _ wc) (va_AO.use hxw.1) rfl hd rfl (by rw [Int32.lt_iff_toInt_lt, hv]; show ¬ ((v.toNatClampNeg : Nat) : Int) < 0; omega) hby hcs.1 hcs.2 fun cA kA comp f1 f2 f3 f4 => ?_
  generalize hH1 : H.push ({ cls := cA, slots := Array.replicate v.toNatClampNeg .null, vm := .none } : Cell) = H1
  have hz : H1.size = H.size + 1 := by rw [← hH1, Array.size_push]
  have e1 : H1[H.size]? = some (arrV cA v.toNatClampNeg (fun _ => .null)) := by rw [← hH1, Array.getElem?_push_size, ← arrV_new]
  have ho : ∀ q : Nat, q < H.size → H1[q]? = H[q]? := fun q hq => by rw [← hH1, Array.getElem?_push, if_neg (Nat.ne_of_lt hq)]
  have hcA : cA = eA G 3 := by
    obtain ⟨_, _, -, -, -, h9⟩ := (hK0.2 3 _ (at_tys G 3 (by omega))).2
    exact Option.some.inj (f1.symm.trans h9)
  have hc1 : am_at G (nC h (.inl (3, v.toNatClampNeg))) (hN h) H1 := by
    unfold am_at
    rw [nC_k]
    refine ⟨by show 3 < 4; omega, ?_⟩
    rw [← hR0.1, e1, hcA]
    have fr : ∀ j, hR (nC h (.inl (3, v.toNatClampNeg))) (hN h) j = none := nC_r h _
    show some (arrV _ _ _) = some (vp_cell _ (v.toNatClampNeg, .inr (.inr (.inr (.inr _)))))
    rw [vp_cell_q]
    simp only [fr]
    rfl
  have h9 := K a hX (hS1 hS) p e s m args below meth c H1 ls locs C (rep_new hR0 hz ho hc1) (S_new hSv hz ho) hl
  rw [List.map_cons, show cv G (.ref (hN h)) = .ref H.size by rw [hR0.1]; rfl] at h9
  exact h9
end MK

