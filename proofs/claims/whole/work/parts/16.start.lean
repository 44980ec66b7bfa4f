theorem t_in {w : Cond} (i : Nat) (h : tables_1[i]? = some w) : w ∈ lw_tbl := List.mem_append_right _ (List.mem_of_getElem? h)
abbrev tmW : Term := Term.string "CricketHay$Reader" 79
def elW (j : Nat) : Cond := Cond.eq (.elem (.field tmW "java/lang/String" "value" "[B") (.int (Int32.ofNat j))) (.int (byW.getD j 0))
theorem el_list : ((flatC (Jvm.Cond.and given_1 narrow_1)).drop 13).take 152 = (List.range 152).map elW := by decide +kernel
theorem el_in (j : Nat) (hj : j ∈ List.range 152) : elW j ∈ flatC (Jvm.Cond.and given_1 narrow_1) := List.mem_of_mem_drop (List.mem_of_mem_take (by rw [el_list]; exact List.mem_map.mpr ⟨j, hj, rfl⟩ : elW j ∈ ((flatC (Jvm.Cond.and given_1 narrow_1)).drop 13).take 152))
theorem nest_in : ∀ q ∈ nestW, Cond.methodLinkNest q.1 q.2.1 q.2.2.1 q.2.2.2 ∈ lw_tbl := by
  intro q hq
  simp only [nestW, List.mem_cons, List.not_mem_nil, or_false] at hq
  rcases hq with rfl | rfl | rfl | rfl | rfl | rfl | rfl | rfl | rfl | rfl | rfl
  · exact t_in 32 (by decide +kernel)
  · exact t_in 85 (by decide +kernel)
  · exact t_in 206 (by decide +kernel)
  · exact t_in 262 (by decide +kernel)
  · exact t_in 282 (by decide +kernel)
  · exact t_in 302 (by decide +kernel)
  · exact t_in 313 (by decide +kernel)
  · exact t_in 358 (by decide +kernel)
  · exact t_in 371 (by decide +kernel)
  · exact t_in 405 (by decide +kernel)
  · exact t_in 482 (by decide +kernel)
theorem inst_all {args : Array Value} {s : State} (hts : ∀ w ∈ lw_tbl, w.before args s = true) : ∀ (ci : Nat) (r : vw_C), classes[ci]? = some r → (Cond.instantiable r.1 r.2.2).before args s = true := cls_all (P := fun _ r => (Cond.instantiable r.1 r.2.2).before args s = true) (hts _ (t_in 275 (by decide +kernel))) (hts _ (t_in 296 (by decide +kernel))) (hts _ (t_in 261 (by decide +kernel))) (hts _ (t_in 370 (by decide +kernel))) (hts _ (t_in 312 (by decide +kernel))) (hts _ (t_in 84 (by decide +kernel))) (hts _ (t_in 404 (by decide +kernel))) (hts _ (t_in 78 (by decide +kernel))) (hts _ (t_in 357 (by decide +kernel))) (hts _ (t_in 31 (by decide +kernel))) (hts _ (t_in 205 (by decide +kernel))) (hts _ (t_in 23 (by decide +kernel))) (hts _ (t_in 1081 (by decide +kernel)))
set_option maxHeartbeats 4000000 in
theorem start_of {p : Program} {e : Env} {s : State} {m : MethodId} {below : List Frame} {meth : Method} {c : Code} (l : Launch) {b L : Nat} {xs : Nat → Int32} (one : ∃ h', f_Law L xs = some (1, h')) (C0 : lw_At p s m meth c b L xs) : W p l e room_1 s m #[Value.ref b] below meth c s.heap [] 0 0 (lw_Z below #[Value.ref b] s) (entryFrame m ([Value.ref b] : List Value).toArray 4) := by
  obtain ⟨hx, hb, hr, hml, hown, hts, hX, hbl, hlocks, hgv, hname⟩ := id C0
  have hs := flat_of_before _ hgv
  have hA : ∀ a : Nat, a < s.heap.size → ¬ (fun q => s.heap.size ≤ q) a := fun a h => Nat.not_le.mpr h
  -- the classes
  have h0 : ∀ ci : Nat, ∃ q : ClassId × (Nat → Nat), ∀ r : vw_C, classes[ci]? = some r → u_Kn s r.1 r.2.1 r.2.2 q.1 q.2 := by
    intro ci
    cases hc : classes[ci]? with
    | none => exact ⟨(0, fun _ => 0), fun r hr => by cases hr⟩
    | some r0 =>
      obtain ⟨cC, iS, h1⟩ := u_known hts (fun w hw => (lw_good_in w (cls_in ci r0 hc w hw)).1) (inst_all hts ci r0 hc)
      exact ⟨(cC, iS), fun r hr => by cases hr; exact h1⟩
  obtain ⟨f, hf⟩ := Classical.axiomOfChoice h0
  -- the arrays' classes
  obtain ⟨a0, k0, p0, g0, g1, g2⟩ := Cond.arrayClass_spec (hts _ (t_in 76 (w := .arrayClass .int) (by decide +kernel)))
  obtain ⟨a1, k1, p1, g3, g4, g5⟩ := Cond.arrayClass_spec (hts _ (t_in 310 (w := .arrayClass .boolean) (by decide +kernel)))
  obtain ⟨a2, k2, p2, g6, g7, g8⟩ := Cond.arrayClass_spec (hts _ (t_in 107 (w := .arrayClass .long) (by decide +kernel)))
  have hao := hts _ (t_in 281 (w := .arrayOver (.object "CricketHay$Yard")) (by decide +kernel))
  obtain ⟨p3, a3, k3, g9, -, g10, g11, g12⟩ := Cond.arrayOver_spec hao
  -- the text
  obtain ⟨adK, adV, hV, hT⟩ := vk_Sof (args := #[Value.ref b]) (s := s) (N := 1) (tm := fun _ => tmW) (len := [152]) (byt := [byW]) (A := fun q => s.heap.size ≤ q) (fun i hi => by rcases (show i = 0 by omega) with rfl; decide)
    (fun i hi => hs _ (by decide +kernel)) (fun i hi => hs _ (by decide +kernel)) (fun i hi => hs _ (by decide +kernel)) (fun i hi => by rcases (show i = 0 by omega) with rfl; exact hs _ (by decide +kernel))
    (fun i hi j hj => by
      rcases (show i = 0 by omega) with rfl
      exact hs _ (el_in j (List.mem_range.mpr hj))) (fun i j hi hj hij => by omega) hA
  have hvR : vk_R "CricketHay$Reader" 79 txW (adK 0) s := vk_R.of (hts _ (t_in 501 (w := .stringRef "CricketHay$Reader" 79 txW) (by decide +kernel))) (hT 0 (by decide))
  have hZc : va_Z "java/lang/String" "COMPACT_STRINGS" "Z" (.int 1) (fun q => s.heap.size ≤ q) s s.heap := va_Zof (hts _ (t_in 511 (w := .laysStatic "java/lang/String" "COMPACT_STRINGS" "Z") (by decide +kernel))) (hts _ (t_in 14 (by decide +kernel))) (va_eqi (hs _ (by decide +kernel))) hA
  have hZq : va_Zq "jdk/internal/util/Preconditions" "SIOOBE_FORMATTER" "Ljava/util/function/BiFunction;" (fun q => s.heap.size ≤ q) s s.heap := va_Zqof (hts _ (t_in 527 (w := .laysStatic "jdk/internal/util/Preconditions" "SIOOBE_FORMATTER" "Ljava/util/function/BiFunction;") (by decide +kernel))) (hts _ (t_in 16 (by decide +kernel))) (hs _ (by decide +kernel)) hA
  have hZf : ∃ o : Option Nat, va_Z "jdk/internal/util/Preconditions" "SIOOBE_FORMATTER" "Ljava/util/function/BiFunction;" (va_rf o) (fun q => s.heap.size ≤ q) s s.heap := by
    rcases hZq with h | ⟨t, h⟩
    · exact ⟨none, h⟩
    · exact ⟨some t, h⟩
  obtain ⟨fo, hZf⟩ := hZf
  have hSK : vk_S 1 [152] [byW] (fun _ => adK 0) (fun _ => adV 0) (fun q => s.heap.size ≤ q) s s.heap := ⟨fun i hi => by rcases (show i = 0 by omega) with rfl; exact hV.1 0 (by decide), fun i j hi hj _ => by omega⟩
  let G : AE := (l, (s.heap.size, adK 0, adV 0, fo), (b, L, xs), (fun ci => (f ci).1, fun ci => (f ci).2), fun t => if t = 0 then a0 else if t = 1 then a1 else if t = 2 then a2 else a3)
  have hK : va_K (eD G) classes (atys G) s := by
    refine ⟨fun ci r hc => hf ci r hc, fun k q hq => ?_⟩
    match k, hq with
    | 0, hq => cases hq; exact ⟨fun n z => ⟨(fun k h => by cases h), k0, g1, p0, g2⟩, g0⟩
    | 1, hq => cases hq; exact ⟨fun n z => ⟨(fun k h => by cases h), k1, g4, p1, g5⟩, g3⟩
    | 2, hq => cases hq; exact ⟨fun n z => ⟨(fun k h => by cases h), k2, g7, p2, g8⟩, g6⟩
    | 3, hq => cases hq; exact ⟨fun n z => ⟨(fun k h => by cases h), k3, g10, p3, g11⟩, k3, p3, g10, g11, g9, g12⟩
    | k + 4, hq => simp [atys] at hq
  have hxw : xw G s s.heap := ⟨va_AO.of hao, fun q hq => va_Nw.of rfl (hts _ (nest_in q hq)), hSK, hvR, ⟨hbl, hX⟩, hZc, hZf⟩
  have C : Cx G y_Law_law p s m #[Value.ref b] meth c := ⟨hx, hb, hml, hr, hown, fun w hw => hts w (lw_good_in w hw).1, hlocks, hK, hxw, Nat.le_refl _, hname⟩
  have hRep : Rep G hE s.heap := ⟨rfl, fun c hc => by cases hc⟩
  obtain ⟨h', hone⟩ := one
  rw [lg_entry_eq]
  have hl := lv_entry ([.ref b] : List Value) (n := 4) (Nat.le_of_ble_eq_true rfl)
  have hW := ok_Law (G := G) (L := L) (xs := xs) rfl rfl (1, h') hone trivial p e s m #[Value.ref b] below meth c s.heap _ [] C hRep va_S.rf (al_mono hl (fun q hq => by simpa [lvp, lv_args, cv] using hq))
  intro T hT X
  obtain ⟨t, q1, q2⟩ := hW T hT X
  exact ⟨t, q1, q2 rfl rfl (Nat.le_refl _)⟩
