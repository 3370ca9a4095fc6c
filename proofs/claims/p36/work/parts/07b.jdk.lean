/-! the JDK's own methods: lists, copies -/
section JDK
variable {p : Program} {l : Launch} {e : Env} {R : Room} {s : State} {m : MethodId} {args : Array Value} {below : List Frame} {meth : Method} {c : Code} {H : Heap} {locs : List Loc} {cells slots : Nat} {Q : State → Prop}
variable {D : va_G} {cI : Nat → ClassId} {e0 : Nat} {A : Nat → Prop} {ad av : Nat → Nat → Nat} {K M : KS} {ap o : Int64} {od : UInt64} {adr adr' : Nat → Nat → Nat} {G G' : Nat → Nat → va_E} {live live' : Nat → Nat → Prop}
variable {cc : ByteArray} {nL pc : Nat} {ls : Array Slot} {rest : List Value} {own : String} {index : Nat}
theorem tn0 : (0 : Int32).toNatClampNeg = 0 := rfl
/-- back with v, in a heap of P -/
def qE (v : Option Value) (P : Heap → Prop) (rv : Option Value) (H : Heap) : Prop := rv = v ∧ P H
/-- a cell under another name -/
theorem HW.ren {k i k2 i2 : Nat} (h : HW D A live adr G H) (hl : live k i) (hn : ∀ k' i', live' k' i' → (k' = k2 ∧ i' = i2) ∨ (live k' i' ∧ ¬ (k' = k ∧ i' = i) ∧ ¬ (k' = k2 ∧ i' = i2)))
    (ha : adr' k2 i2 = adr k i) (hG : G' k2 i2 = G k i) (ha2 : ∀ k' i', live' k' i' → ¬ (k' = k2 ∧ i' = i2) → adr' k' i' = adr k' i') (hG2 : ∀ k' i', live' k' i' → ¬ (k' = k2 ∧ i' = i2) → G' k' i' = G k' i') : HW D A live' adr' G' H := by
  obtain ⟨ids, h1, h2, h3⟩ := h
  have hki := h1 k i hl
  let F : List (Nat × Nat) := ids.filter (fun z => !decide (z.1 = k ∧ z.2 = i) && !decide (z.1 = k2 ∧ z.2 = i2))
  have hF : ∀ z, z ∈ F ↔ z ∈ ids ∧ ¬ (z.1 = k ∧ z.2 = i) ∧ ¬ (z.1 = k2 ∧ z.2 = i2) := by
    intro z
    simp only [F, List.mem_filter, Bool.and_eq_true, Bool.not_eq_true', decide_eq_false_iff_not]
  have h4 := va_D_iff.mp h3
  have key : HW D A live' (hU adr k2 i2 (adr k i)) (hU G k2 i2 (G k i)) H := by
    have e1 : hws (F ++ [(k2, i2)]) (hU adr k2 i2 (adr k i)) (hU G k2 i2 (G k i)) = hws F adr G ++ [(adr k i, G k i)] := by
      unfold hws
      rw [List.map_append]
      congr 1
      · apply List.map_congr_left
        intro z hz
        have hne := ((hF z).mp hz).2.2
        rw [hU_n _ _ hne, hU_n _ _ hne]
      · simp [hU]
    have hmem : ∀ q ∈ hws F adr G ++ [(adr k i, G k i)], q ∈ hws ids adr G := by
      intro q hq
      rcases List.mem_append.mp hq with hq | hq
      · obtain ⟨z, hz, rfl⟩ := List.mem_map.mp hq
        exact List.mem_map.mpr ⟨z, ((hF z).mp hz).1, rfl⟩
      · rw [List.mem_singleton.mp hq]
        exact List.mem_map.mpr ⟨(k, i), hki, rfl⟩
    refine ⟨F ++ [(k2, i2)], ?_, ?_, ?_⟩
    · intro k' i' hl'
      rcases hn k' i' hl' with ⟨rfl, rfl⟩ | ⟨q1, q2, q3⟩
      · simp
      · exact List.mem_append_left _ ((hF _).mpr ⟨h1 _ _ q1, q2, q3⟩)
    · rw [e1]
      exact va_P_iff.mpr fun q hq => va_P_iff.mp h2 q (hmem q hq)
    · rw [e1]
      refine va_D_iff.mpr ⟨?_, fun q hq => h4.2 q (hmem q hq)⟩
      rw [List.map_append]
      refine List.nodup_append.mpr ⟨?_, by simp, ?_⟩
      · exact List.Nodup.sublist ((List.Sublist.map _ List.filter_sublist).map Prod.fst) h4.1
      · intro a ha b hb
        have hb2 : b = adr k i := by simpa using hb
        subst hb2
        intro hab
        obtain ⟨q, hq, hqa⟩ := List.mem_map.mp ha
        obtain ⟨z, hz, rfl⟩ := List.mem_map.mp hq
        have hz2 := (hF z).mp hz
        obtain ⟨x, x1, x2⟩ := hws_at (adr := adr) (G := G) hki
        obtain ⟨y, y1, y2⟩ := hws_at (adr := adr) (G := G) (k := z.1) (i := z.2) hz2.1
        have hxy := h3.1 x y _ _ x2 y2 (by rw [← hab]; exact hqa.symm)
        subst hxy
        have := Option.some.inj (x1.symm.trans y1)
        exact hz2.2.1 ⟨(congrArg Prod.fst this).symm, (congrArg Prod.snd this).symm⟩
  refine key.only ?_ ?_
  · intro k' i' hl'
    by_cases hc : k' = k2 ∧ i' = i2
    · obtain ⟨rfl, rfl⟩ := hc
      rw [hU_s]; exact ha
    · rw [hU_n _ _ hc]; exact ha2 _ _ hl' hc
  · intro k' i' hl'
    by_cases hc : k' = k2 ∧ i' = i2
    · obtain ⟨rfl, rfl⟩ := hc
      rw [hU_s]; exact hG
    · rw [hU_n _ _ hc]; exact hG2 _ _ hl' hc
theorem cI_obj (hK : va_K D vwCl (tysOf cI) s) {cA : ClassId} (h : va_RA s cA (.object "java/lang/Object")) : cA = cI 2 := by
  obtain ⟨_, _, _, _, _, h1⟩ := h
  obtain ⟨_, _, _, _, _, h2⟩ := (hK.2 2 _ rfl).2
  exact Option.some.inj (h1.symm.trans h2)
theorem cI_int (hK : va_K D vwCl (tysOf cI) s) {cA : ClassId} (h : va_RA s cA .int) : cA = cI 0 :=
  Option.some.inj (Eq.trans (Eq.symm h) ((hK.2 0 _ rfl).2 : s.vm.findClass _ = some (cI 0)))
theorem r_oald (S : CallFix p m c cc nL s args WU own) (hg : GI D cI e0 A s s.heap) (hw : HW D A live adr G H) {k i : Nat} (hl : live k i) {n : Nat} {f : Nat → Option Nat} (hG : G k i = .inl (cI 2, n, .inr (.inr (.inr (.inr f))))) {j : Int32} (hj : vp_in j n) {a : Nat} (hf : f j.toNatClampNeg = some a) (hdg : decode cc pc = .ok (.aaload, 1))
    (kk : W p l e R s m args below meth c H locs cells slots Q (F0 m (pc + 1) ls (.ref a :: rest))) : W p l e R s m args below meth c H locs cells slots Q (F0 m pc ls (.int j :: .ref (adr k i) :: rest)) := by
  obtain ⟨ids, h1, h2, h3⟩ := hw
  obtain ⟨q, -, hn⟩ := hws_at (adr := adr) (G := G) (h1 k i hl)
  rw [hG] at hn
  refine va_aldq S.1 S.2.1 hg.1 h2 q 2 hn rfl hj hdg ?_
  rw [hf]
  exact kk
theorem r_oast (S : CallFix p m c cc nL s args WU own) (hg : GI D cI e0 A s s.heap) (hS : va_S A s.heap H locs) (hw : HW D A live adr G H) {k i : Nat} (hl : live k i) {n : Nat} {f : Nat → Option Nat} (hG : G k i = .inl (cI 2, n, .inr (.inr (.inr (.inr f))))) {k2 i2 : Nat} (hl2 : live k2 i2) {ci : Nat} {fs : List Value} (hG2 : G k2 i2 = .inr (ci, fs)) {r : vw_C} (hc : vwCl[ci]? = some r) (hca : (r.1, "java/lang/Object") ∈ gCa) {j : Int32} (hj : vp_in j n) (hdg : decode cc pc = .ok (.aastore, 1))
    (kk : ∀ (H1 : Heap) (locs1 : List Loc), HW D A live adr (hU G k i (.inl (cI 2, n, .inr (.inr (.inr (.inr (va_up f j.toNatClampNeg (some (adr k2 i2))))))))) H1 → va_S A s.heap H1 locs1 → W p l e R s m args below meth c H1 locs1 cells slots Q (F0 m (pc + 1) ls rest)) : W p l e R s m args below meth c H locs cells slots Q (F0 m pc ls (.ref (adr k2 i2) :: .int j :: .ref (adr k i) :: rest)) := by
  obtain ⟨ids, h1, h2, h3⟩ := hw
  obtain ⟨q, q1, hn⟩ := hws_at (adr := adr) (G := G) (h1 k i hl)
  obtain ⟨x, -, hx⟩ := hws_at (adr := adr) (G := G) (h1 k2 i2 hl2)
  rw [hG] at hn
  rw [hG2] at hx
  exact va_astqO S.1 S.2.1 hg.1 h2 h3 hS q 2 x ci hn rfl (hg.2.2.2.2.1.1 _ hca) hx hc hj hdg (fun H1 locs1 hP hD hS => kk H1 locs1 (HW.set h3 h1 q1 hP hD) hS)
/-- new Object[n], under the name (k, i) -/
theorem r_onew (S : CallFix p m c cc nL s args WU own) (hg : GI D cI e0 A s s.heap) (hS : va_S A s.heap H locs) (hw : HW D A live adr G H) (k i : Nat) {n : Int32} {N : Nat} (hl : Cond.classLink own index "java/lang/Object" ∈ WU) (hn : ¬ n < 0) (hN : n.toNatClampNeg = N) (hb : N * 4 ≤ 536870912) (hc : cells + 1 ≤ R.cells) (hs : slots + N ≤ R.slots) (hdg : decode cc pc = .ok (.anewarray index, 3))
    (kk : ∀ (q : Nat) (H1 : Heap), HW D A (fun k' i' => live k' i' ∨ (k' = k ∧ i' = i)) (hU adr k i q) (hU G k i (.inl (cI 2, N, .inr (.inr (.inr (.inr (fun _ => none))))))) H1 → va_S A s.heap H1 locs → W p l e R s m args below meth c H1 locs (cells + 1) (slots + N) Q (F0 m (pc + 3) ls (.ref q :: rest))) : W p l e R s m args below meth c H locs cells slots Q (F0 m pc ls (.int n :: rest)) := by
  obtain ⟨ids, h1, h2, h3⟩ := hw
  refine va_newq S.1 S.2.1 S.2.2.2.1 (S.2.2.2.2 _ hl) hg.2.2.2.2.2.2.2.2.1.1 hg.1 h2 h3 hS hg.2.2.2.2.2.2.2.2.2 hn hN hb hc hs hdg (fun q cA H1 hK hP hD hS => ?_)
  have e : cA = cI 2 := cI_obj hg.1 (hK.2 6 _ rfl).2
  subst e
  exact kk q H1 (HW.push h1 hP hD (fun _ _ h => h)) hS
theorem r_inew (S : CallFix p m c cc nL s args WU own) (hg : GI D cI e0 A s s.heap) (hS : va_S A s.heap H locs) (hw : HW D A live adr G H) (k i : Nat) {n : Int32} {N : Nat} (hl : Cond.arrayClass .int ∈ WU) (hn : ¬ n < 0) (hN : n.toNatClampNeg = N) (hb : N * 4 ≤ 536870912) (hc : cells + 1 ≤ R.cells) (hs : slots + N ≤ R.slots) (hdg : decode cc pc = .ok (.newarray .int, 2))
    (kk : ∀ (q : Nat) (H1 : Heap), HW D A (fun k' i' => live k' i' ∨ (k' = k ∧ i' = i)) (hU adr k i q) (hU G k i (.inl (cI 0, N, .inl (fun _ => 0)))) H1 → va_S A s.heap H1 locs → W p l e R s m args below meth c H1 locs (cells + 1) (slots + N) Q (F0 m (pc + 2) ls (.ref q :: rest))) : W p l e R s m args below meth c H locs cells slots Q (F0 m pc ls (.int n :: rest)) := by
  obtain ⟨ids, h1, h2, h3⟩ := hw
  refine va_newa (atype := .int) (ty := .int) (a0 := (N, .inl (fun _ => 0))) S.1 S.2.1 (S.2.2.2.2 _ hl) rfl hg.1 h2 h3 hS hg.2.2.2.2.2.2.2.2.2 (fun _ => rfl) hn hN hb hc hs hdg (fun q cA H1 hK hP hD hS => ?_)
  have e : cA = cI 0 := cI_int hg.1 (hK.2 6 _ rfl).2
  subst e
  exact kk q H1 (HW.push h1 hP hD (fun _ _ h => h)) hS
theorem dJxa1e45_init_da8c8_0 : decode cJxa1e45_init_da8c8 0 = .ok (.aload_n 0, 1) := by decide +kernel
theorem dJxa1e45_init_da8c8_1 : decode cJxa1e45_init_da8c8 1 = .ok (.invokespecial 1, 3) := by decide +kernel
theorem dJxa1e45_init_da8c8_4 : decode cJxa1e45_init_da8c8 4 = .ok (.return_, 1) := by decide +kernel
theorem dJxc12de_init_da8c8_0 : decode cJxc12de_init_da8c8 0 = .ok (.aload_n 0, 1) := by decide +kernel
theorem dJxc12de_init_da8c8_1 : decode cJxc12de_init_da8c8 1 = .ok (.invokespecial 1, 3) := by decide +kernel
theorem dJxc12de_init_da8c8_4 : decode cJxc12de_init_da8c8 4 = .ok (.aload_n 0, 1) := by decide +kernel
theorem dJxc12de_init_da8c8_5 : decode cJxc12de_init_da8c8 5 = .ok (.iconst 0, 1) := by decide +kernel
theorem dJxc12de_init_da8c8_6 : decode cJxc12de_init_da8c8 6 = .ok (.putfield 7, 3) := by decide +kernel
theorem dJxc12de_init_da8c8_9 : decode cJxc12de_init_da8c8 9 = .ok (.return_, 1) := by decide +kernel
theorem dJx4a65c_init_da8c8_0 : decode cJx4a65c_init_da8c8 0 = .ok (.aload_n 0, 1) := by decide +kernel
theorem dJx4a65c_init_da8c8_1 : decode cJx4a65c_init_da8c8 1 = .ok (.invokespecial 1, 3) := by decide +kernel
theorem dJx4a65c_init_da8c8_4 : decode cJx4a65c_init_da8c8 4 = .ok (.aload_n 0, 1) := by decide +kernel
theorem dJx4a65c_init_da8c8_5 : decode cJx4a65c_init_da8c8 5 = .ok (.getstatic 39, 3) := by decide +kernel
theorem dJx4a65c_init_da8c8_8 : decode cJx4a65c_init_da8c8 8 = .ok (.putfield 9, 3) := by decide +kernel
theorem dJx4a65c_init_da8c8_11 : decode cJx4a65c_init_da8c8 11 = .ok (.return_, 1) := by decide +kernel
theorem dJx4a65c_grow_92f84_0 : decode cJx4a65c_grow_92f84 0 = .ok (.aload_n 0, 1) := by decide +kernel
theorem dJx4a65c_grow_92f84_1 : decode cJx4a65c_grow_92f84 1 = .ok (.getfield 9, 3) := by decide +kernel
theorem dJx4a65c_grow_92f84_4 : decode cJx4a65c_grow_92f84 4 = .ok (.arraylength, 1) := by decide +kernel
theorem dJx4a65c_grow_92f84_5 : decode cJx4a65c_grow_92f84 5 = .ok (.istore_n 2, 1) := by decide +kernel
theorem dJx4a65c_grow_92f84_6 : decode cJx4a65c_grow_92f84 6 = .ok (.iload_n 2, 1) := by decide +kernel
theorem dJx4a65c_grow_92f84_7 : decode cJx4a65c_grow_92f84 7 = .ok (.ifCond .gt 13, 3) := by decide +kernel
theorem dJx4a65c_grow_92f84_10 : decode cJx4a65c_grow_92f84 10 = .ok (.aload_n 0, 1) := by decide +kernel
theorem dJx4a65c_grow_92f84_11 : decode cJx4a65c_grow_92f84 11 = .ok (.getfield 9, 3) := by decide +kernel
theorem dJx4a65c_grow_92f84_14 : decode cJx4a65c_grow_92f84 14 = .ok (.getstatic 39, 3) := by decide +kernel
theorem dJx4a65c_grow_92f84_17 : decode cJx4a65c_grow_92f84 17 = .ok (.if_acmp .eq 28, 3) := by decide +kernel
theorem dJx4a65c_grow_92f84_20 : decode cJx4a65c_grow_92f84 20 = .ok (.iload_n 2, 1) := by decide +kernel
theorem dJx4a65c_grow_92f84_21 : decode cJx4a65c_grow_92f84 21 = .ok (.iload_n 1, 1) := by decide +kernel
theorem dJx4a65c_grow_92f84_22 : decode cJx4a65c_grow_92f84 22 = .ok (.iload_n 2, 1) := by decide +kernel
theorem dJx4a65c_grow_92f84_23 : decode cJx4a65c_grow_92f84 23 = .ok (.isub, 1) := by decide +kernel
theorem dJx4a65c_grow_92f84_24 : decode cJx4a65c_grow_92f84 24 = .ok (.iload_n 2, 1) := by decide +kernel
theorem dJx4a65c_grow_92f84_25 : decode cJx4a65c_grow_92f84 25 = .ok (.iconst 1, 1) := by decide +kernel
theorem dJx4a65c_grow_92f84_26 : decode cJx4a65c_grow_92f84 26 = .ok (.ishr, 1) := by decide +kernel
theorem dJx4a65c_grow_92f84_27 : decode cJx4a65c_grow_92f84 27 = .ok (.invokestatic 73, 3) := by decide +kernel
theorem dJx4a65c_grow_92f84_30 : decode cJx4a65c_grow_92f84 30 = .ok (.istore_n 3, 1) := by decide +kernel
theorem dJx4a65c_grow_92f84_31 : decode cJx4a65c_grow_92f84 31 = .ok (.aload_n 0, 1) := by decide +kernel
theorem dJx4a65c_grow_92f84_32 : decode cJx4a65c_grow_92f84 32 = .ok (.aload_n 0, 1) := by decide +kernel
theorem dJx4a65c_grow_92f84_33 : decode cJx4a65c_grow_92f84 33 = .ok (.getfield 9, 3) := by decide +kernel
theorem dJx4a65c_grow_92f84_36 : decode cJx4a65c_grow_92f84 36 = .ok (.iload_n 3, 1) := by decide +kernel
theorem dJx4a65c_grow_92f84_37 : decode cJx4a65c_grow_92f84 37 = .ok (.invokestatic 66, 3) := by decide +kernel
theorem dJx4a65c_grow_92f84_40 : decode cJx4a65c_grow_92f84 40 = .ok (.dup_x1, 1) := by decide +kernel
theorem dJx4a65c_grow_92f84_41 : decode cJx4a65c_grow_92f84 41 = .ok (.putfield 9, 3) := by decide +kernel
theorem dJx4a65c_grow_92f84_44 : decode cJx4a65c_grow_92f84 44 = .ok (.areturn, 1) := by decide +kernel
theorem dJx4a65c_grow_92f84_45 : decode cJx4a65c_grow_92f84 45 = .ok (.aload_n 0, 1) := by decide +kernel
theorem dJx4a65c_grow_92f84_46 : decode cJx4a65c_grow_92f84 46 = .ok (.bipush 10, 2) := by decide +kernel
theorem dJx4a65c_grow_92f84_48 : decode cJx4a65c_grow_92f84 48 = .ok (.iload_n 1, 1) := by decide +kernel
theorem dJx4a65c_grow_92f84_49 : decode cJx4a65c_grow_92f84 49 = .ok (.invokestatic 79, 3) := by decide +kernel
theorem dJx4a65c_grow_92f84_52 : decode cJx4a65c_grow_92f84 52 = .ok (.anewarray 7, 3) := by decide +kernel
theorem dJx4a65c_grow_92f84_55 : decode cJx4a65c_grow_92f84 55 = .ok (.dup_x1, 1) := by decide +kernel
theorem dJx4a65c_grow_92f84_56 : decode cJx4a65c_grow_92f84 56 = .ok (.putfield 9, 3) := by decide +kernel
theorem dJx4a65c_grow_92f84_59 : decode cJx4a65c_grow_92f84 59 = .ok (.areturn, 1) := by decide +kernel
theorem dJx4a65c_grow_d5877_0 : decode cJx4a65c_grow_d5877 0 = .ok (.aload_n 0, 1) := by decide +kernel
theorem dJx4a65c_grow_d5877_1 : decode cJx4a65c_grow_d5877 1 = .ok (.aload_n 0, 1) := by decide +kernel
theorem dJx4a65c_grow_d5877_2 : decode cJx4a65c_grow_d5877 2 = .ok (.getfield 48, 3) := by decide +kernel
theorem dJx4a65c_grow_d5877_5 : decode cJx4a65c_grow_d5877 5 = .ok (.iconst 1, 1) := by decide +kernel
theorem dJx4a65c_grow_d5877_6 : decode cJx4a65c_grow_d5877 6 = .ok (.iadd, 1) := by decide +kernel
theorem dJx4a65c_grow_d5877_7 : decode cJx4a65c_grow_d5877 7 = .ok (.invokevirtual 69, 3) := by decide +kernel
theorem dJx4a65c_grow_d5877_10 : decode cJx4a65c_grow_d5877 10 = .ok (.areturn, 1) := by decide +kernel
theorem dJx4a65c_size_8abf5_0 : decode cJx4a65c_size_8abf5 0 = .ok (.aload_n 0, 1) := by decide +kernel
theorem dJx4a65c_size_8abf5_1 : decode cJx4a65c_size_8abf5 1 = .ok (.getfield 48, 3) := by decide +kernel
theorem dJx4a65c_size_8abf5_4 : decode cJx4a65c_size_8abf5 4 = .ok (.ireturn, 1) := by decide +kernel
theorem dJx4a65c_isEmpty_aae02_0 : decode cJx4a65c_isEmpty_aae02 0 = .ok (.aload_n 0, 1) := by decide +kernel
theorem dJx4a65c_isEmpty_aae02_1 : decode cJx4a65c_isEmpty_aae02 1 = .ok (.getfield 48, 3) := by decide +kernel
theorem dJx4a65c_isEmpty_aae02_4 : decode cJx4a65c_isEmpty_aae02 4 = .ok (.ifCond .ne 7, 3) := by decide +kernel
theorem dJx4a65c_isEmpty_aae02_7 : decode cJx4a65c_isEmpty_aae02 7 = .ok (.iconst 1, 1) := by decide +kernel
theorem dJx4a65c_isEmpty_aae02_8 : decode cJx4a65c_isEmpty_aae02 8 = .ok (.goto 4, 3) := by decide +kernel
theorem dJx4a65c_isEmpty_aae02_11 : decode cJx4a65c_isEmpty_aae02 11 = .ok (.iconst 0, 1) := by decide +kernel
theorem dJx4a65c_isEmpty_aae02_12 : decode cJx4a65c_isEmpty_aae02 12 = .ok (.ireturn, 1) := by decide +kernel
theorem dJx4a65c_elementData_915e3_0 : decode cJx4a65c_elementData_915e3 0 = .ok (.aload_n 0, 1) := by decide +kernel
theorem dJx4a65c_elementData_915e3_1 : decode cJx4a65c_elementData_915e3 1 = .ok (.getfield 9, 3) := by decide +kernel
theorem dJx4a65c_elementData_915e3_4 : decode cJx4a65c_elementData_915e3 4 = .ok (.iload_n 1, 1) := by decide +kernel
theorem dJx4a65c_elementData_915e3_5 : decode cJx4a65c_elementData_915e3 5 = .ok (.aaload, 1) := by decide +kernel
theorem dJx4a65c_elementData_915e3_6 : decode cJx4a65c_elementData_915e3 6 = .ok (.areturn, 1) := by decide +kernel
theorem dJx4a65c_get_915e3_0 : decode cJx4a65c_get_915e3 0 = .ok (.iload_n 1, 1) := by decide +kernel
theorem dJx4a65c_get_915e3_1 : decode cJx4a65c_get_915e3 1 = .ok (.aload_n 0, 1) := by decide +kernel
theorem dJx4a65c_get_915e3_2 : decode cJx4a65c_get_915e3 2 = .ok (.getfield 48, 3) := by decide +kernel
theorem dJx4a65c_get_915e3_5 : decode cJx4a65c_get_915e3 5 = .ok (.invokestatic 118, 3) := by decide +kernel
theorem dJx4a65c_get_915e3_8 : decode cJx4a65c_get_915e3 8 = .ok (.pop, 1) := by decide +kernel
theorem dJx4a65c_get_915e3_9 : decode cJx4a65c_get_915e3 9 = .ok (.aload_n 0, 1) := by decide +kernel
theorem dJx4a65c_get_915e3_10 : decode cJx4a65c_get_915e3 10 = .ok (.iload_n 1, 1) := by decide +kernel
theorem dJx4a65c_get_915e3_11 : decode cJx4a65c_get_915e3 11 = .ok (.invokevirtual 123, 3) := by decide +kernel
theorem dJx4a65c_get_915e3_14 : decode cJx4a65c_get_915e3 14 = .ok (.areturn, 1) := by decide +kernel
theorem dJx4a65c_add_72be8_0 : decode cJx4a65c_add_72be8 0 = .ok (.iload_n 3, 1) := by decide +kernel
theorem dJx4a65c_add_72be8_1 : decode cJx4a65c_add_72be8 1 = .ok (.aload_n 2, 1) := by decide +kernel
theorem dJx4a65c_add_72be8_2 : decode cJx4a65c_add_72be8 2 = .ok (.arraylength, 1) := by decide +kernel
theorem dJx4a65c_add_72be8_3 : decode cJx4a65c_add_72be8 3 = .ok (.if_icmp .ne 8, 3) := by decide +kernel
theorem dJx4a65c_add_72be8_6 : decode cJx4a65c_add_72be8 6 = .ok (.aload_n 0, 1) := by decide +kernel
theorem dJx4a65c_add_72be8_7 : decode cJx4a65c_add_72be8 7 = .ok (.invokevirtual 129, 3) := by decide +kernel
theorem dJx4a65c_add_72be8_10 : decode cJx4a65c_add_72be8 10 = .ok (.astore_n 2, 1) := by decide +kernel
theorem dJx4a65c_add_72be8_11 : decode cJx4a65c_add_72be8 11 = .ok (.aload_n 2, 1) := by decide +kernel
theorem dJx4a65c_add_72be8_12 : decode cJx4a65c_add_72be8 12 = .ok (.iload_n 3, 1) := by decide +kernel
theorem dJx4a65c_add_72be8_13 : decode cJx4a65c_add_72be8 13 = .ok (.aload_n 1, 1) := by decide +kernel
theorem dJx4a65c_add_72be8_14 : decode cJx4a65c_add_72be8 14 = .ok (.aastore, 1) := by decide +kernel
theorem dJx4a65c_add_72be8_15 : decode cJx4a65c_add_72be8 15 = .ok (.aload_n 0, 1) := by decide +kernel
theorem dJx4a65c_add_72be8_16 : decode cJx4a65c_add_72be8 16 = .ok (.iload_n 3, 1) := by decide +kernel
theorem dJx4a65c_add_72be8_17 : decode cJx4a65c_add_72be8 17 = .ok (.iconst 1, 1) := by decide +kernel
theorem dJx4a65c_add_72be8_18 : decode cJx4a65c_add_72be8 18 = .ok (.iadd, 1) := by decide +kernel
theorem dJx4a65c_add_72be8_19 : decode cJx4a65c_add_72be8 19 = .ok (.putfield 48, 3) := by decide +kernel
theorem dJx4a65c_add_72be8_22 : decode cJx4a65c_add_72be8 22 = .ok (.return_, 1) := by decide +kernel
theorem dJx4a65c_add_9ea2d_0 : decode cJx4a65c_add_9ea2d 0 = .ok (.aload_n 0, 1) := by decide +kernel
theorem dJx4a65c_add_9ea2d_1 : decode cJx4a65c_add_9ea2d 1 = .ok (.dup, 1) := by decide +kernel
theorem dJx4a65c_add_9ea2d_2 : decode cJx4a65c_add_9ea2d 2 = .ok (.getfield 63, 3) := by decide +kernel
theorem dJx4a65c_add_9ea2d_5 : decode cJx4a65c_add_9ea2d 5 = .ok (.iconst 1, 1) := by decide +kernel
theorem dJx4a65c_add_9ea2d_6 : decode cJx4a65c_add_9ea2d 6 = .ok (.iadd, 1) := by decide +kernel
theorem dJx4a65c_add_9ea2d_7 : decode cJx4a65c_add_9ea2d 7 = .ok (.putfield 63, 3) := by decide +kernel
theorem dJx4a65c_add_9ea2d_10 : decode cJx4a65c_add_9ea2d 10 = .ok (.aload_n 0, 1) := by decide +kernel
theorem dJx4a65c_add_9ea2d_11 : decode cJx4a65c_add_9ea2d 11 = .ok (.aload_n 1, 1) := by decide +kernel
theorem dJx4a65c_add_9ea2d_12 : decode cJx4a65c_add_9ea2d 12 = .ok (.aload_n 0, 1) := by decide +kernel
theorem dJx4a65c_add_9ea2d_13 : decode cJx4a65c_add_9ea2d 13 = .ok (.getfield 9, 3) := by decide +kernel
theorem dJx4a65c_add_9ea2d_16 : decode cJx4a65c_add_9ea2d 16 = .ok (.aload_n 0, 1) := by decide +kernel
theorem dJx4a65c_add_9ea2d_17 : decode cJx4a65c_add_9ea2d 17 = .ok (.getfield 48, 3) := by decide +kernel
theorem dJx4a65c_add_9ea2d_20 : decode cJx4a65c_add_9ea2d 20 = .ok (.invokevirtual 131, 3) := by decide +kernel
theorem dJx4a65c_add_9ea2d_23 : decode cJx4a65c_add_9ea2d 23 = .ok (.iconst 1, 1) := by decide +kernel
theorem dJx4a65c_add_9ea2d_24 : decode cJx4a65c_add_9ea2d 24 = .ok (.ireturn, 1) := by decide +kernel
theorem dJ7_copyOf_1904c_0 : decode cJ7_copyOf_1904c 0 = .ok (.aload_n 0, 1) := by decide +kernel
theorem dJ7_copyOf_1904c_1 : decode cJ7_copyOf_1904c 1 = .ok (.iload_n 1, 1) := by decide +kernel
theorem dJ7_copyOf_1904c_2 : decode cJ7_copyOf_1904c 2 = .ok (.aload_n 0, 1) := by decide +kernel
theorem dJ7_copyOf_1904c_3 : decode cJ7_copyOf_1904c 3 = .ok (.invokevirtual 86, 3) := by decide +kernel
theorem dJ7_copyOf_1904c_6 : decode cJ7_copyOf_1904c 6 = .ok (.invokestatic 300, 3) := by decide +kernel
theorem dJ7_copyOf_1904c_9 : decode cJ7_copyOf_1904c 9 = .ok (.areturn, 1) := by decide +kernel
theorem dJ7_copyOf_6403c_0 : decode cJ7_copyOf_6403c 0 = .ok (.aload_n 2, 1) := by decide +kernel
theorem dJ7_copyOf_6403c_1 : decode cJ7_copyOf_6403c 1 = .ok (.ldc 110, 2) := by decide +kernel
theorem dJ7_copyOf_6403c_3 : decode cJ7_copyOf_6403c 3 = .ok (.if_acmp .ne 10, 3) := by decide +kernel
theorem dJ7_copyOf_6403c_6 : decode cJ7_copyOf_6403c 6 = .ok (.iload_n 1, 1) := by decide +kernel
theorem dJ7_copyOf_6403c_7 : decode cJ7_copyOf_6403c 7 = .ok (.anewarray 2, 3) := by decide +kernel
theorem dJ7_copyOf_6403c_10 : decode cJ7_copyOf_6403c 10 = .ok (.goto 14, 3) := by decide +kernel
theorem dJ7_copyOf_6403c_13 : decode cJ7_copyOf_6403c 13 = .ok (.aload_n 2, 1) := by decide +kernel
theorem dJ7_copyOf_6403c_14 : decode cJ7_copyOf_6403c 14 = .ok (.invokevirtual 90, 3) := by decide +kernel
theorem dJ7_copyOf_6403c_17 : decode cJ7_copyOf_6403c 17 = .ok (.iload_n 1, 1) := by decide +kernel
theorem dJ7_copyOf_6403c_18 : decode cJ7_copyOf_6403c 18 = .ok (.invokestatic 95, 3) := by decide +kernel
theorem dJ7_copyOf_6403c_21 : decode cJ7_copyOf_6403c 21 = .ok (.checkcast 110, 3) := by decide +kernel
theorem dJ7_copyOf_6403c_24 : decode cJ7_copyOf_6403c 24 = .ok (.astore_n 3, 1) := by decide +kernel
theorem dJ7_copyOf_6403c_25 : decode cJ7_copyOf_6403c 25 = .ok (.aload_n 0, 1) := by decide +kernel
theorem dJ7_copyOf_6403c_26 : decode cJ7_copyOf_6403c 26 = .ok (.iconst 0, 1) := by decide +kernel
theorem dJ7_copyOf_6403c_27 : decode cJ7_copyOf_6403c 27 = .ok (.aload_n 3, 1) := by decide +kernel
theorem dJ7_copyOf_6403c_28 : decode cJ7_copyOf_6403c 28 = .ok (.iconst 0, 1) := by decide +kernel
theorem dJ7_copyOf_6403c_29 : decode cJ7_copyOf_6403c 29 = .ok (.aload_n 0, 1) := by decide +kernel
theorem dJ7_copyOf_6403c_30 : decode cJ7_copyOf_6403c 30 = .ok (.arraylength, 1) := by decide +kernel
theorem dJ7_copyOf_6403c_31 : decode cJ7_copyOf_6403c 31 = .ok (.iload_n 1, 1) := by decide +kernel
theorem dJ7_copyOf_6403c_32 : decode cJ7_copyOf_6403c 32 = .ok (.invokestatic 304, 3) := by decide +kernel
theorem dJ7_copyOf_6403c_35 : decode cJ7_copyOf_6403c 35 = .ok (.invokestatic 150, 3) := by decide +kernel
theorem dJ7_copyOf_6403c_38 : decode cJ7_copyOf_6403c 38 = .ok (.aload_n 3, 1) := by decide +kernel
theorem dJ7_copyOf_6403c_39 : decode cJ7_copyOf_6403c 39 = .ok (.areturn, 1) := by decide +kernel
theorem dJ7_copyOf_59c91_0 : decode cJ7_copyOf_59c91 0 = .ok (.iload_n 1, 1) := by decide +kernel
theorem dJ7_copyOf_59c91_1 : decode cJ7_copyOf_59c91 1 = .ok (.aload_n 0, 1) := by decide +kernel
theorem dJ7_copyOf_59c91_2 : decode cJ7_copyOf_59c91 2 = .ok (.arraylength, 1) := by decide +kernel
theorem dJ7_copyOf_59c91_3 : decode cJ7_copyOf_59c91 3 = .ok (.if_icmp .ne 11, 3) := by decide +kernel
theorem dJ7_copyOf_59c91_6 : decode cJ7_copyOf_59c91 6 = .ok (.aload_n 0, 1) := by decide +kernel
theorem dJ7_copyOf_59c91_7 : decode cJ7_copyOf_59c91 7 = .ok (.invokevirtual 316, 3) := by decide +kernel
theorem dJ7_copyOf_59c91_10 : decode cJ7_copyOf_59c91 10 = .ok (.checkcast 317, 3) := by decide +kernel
theorem dJ7_copyOf_59c91_13 : decode cJ7_copyOf_59c91 13 = .ok (.areturn, 1) := by decide +kernel
theorem dJ7_copyOf_59c91_14 : decode cJ7_copyOf_59c91 14 = .ok (.iload_n 1, 1) := by decide +kernel
theorem dJ7_copyOf_59c91_15 : decode cJ7_copyOf_59c91 15 = .ok (.newarray .int, 2) := by decide +kernel
theorem dJ7_copyOf_59c91_17 : decode cJ7_copyOf_59c91 17 = .ok (.astore_n 2, 1) := by decide +kernel
theorem dJ7_copyOf_59c91_18 : decode cJ7_copyOf_59c91 18 = .ok (.aload_n 0, 1) := by decide +kernel
theorem dJ7_copyOf_59c91_19 : decode cJ7_copyOf_59c91 19 = .ok (.iconst 0, 1) := by decide +kernel
theorem dJ7_copyOf_59c91_20 : decode cJ7_copyOf_59c91 20 = .ok (.aload_n 2, 1) := by decide +kernel
theorem dJ7_copyOf_59c91_21 : decode cJ7_copyOf_59c91 21 = .ok (.iconst 0, 1) := by decide +kernel
theorem dJ7_copyOf_59c91_22 : decode cJ7_copyOf_59c91 22 = .ok (.aload_n 0, 1) := by decide +kernel
theorem dJ7_copyOf_59c91_23 : decode cJ7_copyOf_59c91 23 = .ok (.arraylength, 1) := by decide +kernel
theorem dJ7_copyOf_59c91_24 : decode cJ7_copyOf_59c91 24 = .ok (.iload_n 1, 1) := by decide +kernel
theorem dJ7_copyOf_59c91_25 : decode cJ7_copyOf_59c91 25 = .ok (.invokestatic 304, 3) := by decide +kernel
theorem dJ7_copyOf_59c91_28 : decode cJ7_copyOf_59c91 28 = .ok (.invokestatic 150, 3) := by decide +kernel
theorem dJ7_copyOf_59c91_31 : decode cJ7_copyOf_59c91 31 = .ok (.aload_n 2, 1) := by decide +kernel
theorem dJ7_copyOf_59c91_32 : decode cJ7_copyOf_59c91 32 = .ok (.areturn, 1) := by decide +kernel
theorem dJ15_checkIndex_7cf53_0 : decode cJ15_checkIndex_7cf53 0 = .ok (.iload_n 0, 1) := by decide +kernel
theorem dJ15_checkIndex_7cf53_1 : decode cJ15_checkIndex_7cf53 1 = .ok (.iload_n 1, 1) := by decide +kernel
theorem dJ15_checkIndex_7cf53_2 : decode cJ15_checkIndex_7cf53 2 = .ok (.aconst_null, 1) := by decide +kernel
theorem dJ15_checkIndex_7cf53_3 : decode cJ15_checkIndex_7cf53 3 = .ok (.invokestatic 105, 3) := by decide +kernel
theorem dJ15_checkIndex_7cf53_6 : decode cJ15_checkIndex_7cf53 6 = .ok (.ireturn, 1) := by decide +kernel
theorem dJ8_newLength_cabcc_0 : decode cJ8_newLength_cabcc 0 = .ok (.iload_n 0, 1) := by decide +kernel
theorem dJ8_newLength_cabcc_1 : decode cJ8_newLength_cabcc 1 = .ok (.iload_n 1, 1) := by decide +kernel
theorem dJ8_newLength_cabcc_2 : decode cJ8_newLength_cabcc 2 = .ok (.iload_n 2, 1) := by decide +kernel
theorem dJ8_newLength_cabcc_3 : decode cJ8_newLength_cabcc 3 = .ok (.invokestatic 194, 3) := by decide +kernel
theorem dJ8_newLength_cabcc_6 : decode cJ8_newLength_cabcc 6 = .ok (.iadd, 1) := by decide +kernel
theorem dJ8_newLength_cabcc_7 : decode cJ8_newLength_cabcc 7 = .ok (.istore_n 3, 1) := by decide +kernel
theorem dJ8_newLength_cabcc_8 : decode cJ8_newLength_cabcc 8 = .ok (.iconst 0, 1) := by decide +kernel
theorem dJ8_newLength_cabcc_9 : decode cJ8_newLength_cabcc 9 = .ok (.iload_n 3, 1) := by decide +kernel
theorem dJ8_newLength_cabcc_10 : decode cJ8_newLength_cabcc 10 = .ok (.if_icmp .ge 11, 3) := by decide +kernel
theorem dJ8_newLength_cabcc_13 : decode cJ8_newLength_cabcc 13 = .ok (.iload_n 3, 1) := by decide +kernel
theorem dJ8_newLength_cabcc_14 : decode cJ8_newLength_cabcc 14 = .ok (.ldc 200, 2) := by decide +kernel
theorem dJ8_newLength_cabcc_16 : decode cJ8_newLength_cabcc 16 = .ok (.if_icmp .gt 5, 3) := by decide +kernel
theorem dJ8_newLength_cabcc_19 : decode cJ8_newLength_cabcc 19 = .ok (.iload_n 3, 1) := by decide +kernel
theorem dJ8_newLength_cabcc_20 : decode cJ8_newLength_cabcc 20 = .ok (.ireturn, 1) := by decide +kernel
theorem dJ8_newLength_cabcc_21 : decode cJ8_newLength_cabcc 21 = .ok (.iload_n 0, 1) := by decide +kernel
theorem dJ8_newLength_cabcc_22 : decode cJ8_newLength_cabcc 22 = .ok (.iload_n 1, 1) := by decide +kernel
theorem dJ8_newLength_cabcc_23 : decode cJ8_newLength_cabcc 23 = .ok (.invokestatic 201, 3) := by decide +kernel
theorem dJ8_newLength_cabcc_26 : decode cJ8_newLength_cabcc 26 = .ok (.ireturn, 1) := by decide +kernel
theorem dJ3_checkIndex_8e157_0 : decode cJ3_checkIndex_8e157 0 = .ok (.iload_n 0, 1) := by decide +kernel
theorem dJ3_checkIndex_8e157_1 : decode cJ3_checkIndex_8e157 1 = .ok (.ifCond .lt 8, 3) := by decide +kernel
theorem dJ3_checkIndex_8e157_4 : decode cJ3_checkIndex_8e157 4 = .ok (.iload_n 0, 1) := by decide +kernel
theorem dJ3_checkIndex_8e157_5 : decode cJ3_checkIndex_8e157 5 = .ok (.iload_n 1, 1) := by decide +kernel
theorem dJ3_checkIndex_8e157_6 : decode cJ3_checkIndex_8e157 6 = .ok (.if_icmp .lt 10, 3) := by decide +kernel
theorem dJ3_checkIndex_8e157_9 : decode cJ3_checkIndex_8e157 9 = .ok (.aload_n 2, 1) := by decide +kernel
theorem dJ3_checkIndex_8e157_10 : decode cJ3_checkIndex_8e157 10 = .ok (.iload_n 0, 1) := by decide +kernel
theorem dJ3_checkIndex_8e157_11 : decode cJ3_checkIndex_8e157 11 = .ok (.iload_n 1, 1) := by decide +kernel
theorem dJ3_checkIndex_8e157_12 : decode cJ3_checkIndex_8e157 12 = .ok (.invokestatic 95, 3) := by decide +kernel
theorem dJ3_checkIndex_8e157_15 : decode cJ3_checkIndex_8e157 15 = .ok (.athrow, 1) := by decide +kernel
theorem dJ3_checkIndex_8e157_16 : decode cJ3_checkIndex_8e157 16 = .ok (.iload_n 0, 1) := by decide +kernel
theorem dJ3_checkIndex_8e157_17 : decode cJ3_checkIndex_8e157 17 = .ok (.ireturn, 1) := by decide +kernel
theorem hdJxa1e45_init_da8c8 : yJxa1e45_init_da8c8.cls ≠ "java/lang/invoke/MethodHandle" ∧ yJxa1e45_init_da8c8.cls ≠ "java/lang/invoke/VarHandle" ∧ (parseMethodDescriptor yJxa1e45_init_da8c8.desc).map (fun d => d.parameters.length) = some 0 := by decide +kernel
theorem hdJxc12de_init_da8c8 : yJxc12de_init_da8c8.cls ≠ "java/lang/invoke/MethodHandle" ∧ yJxc12de_init_da8c8.cls ≠ "java/lang/invoke/VarHandle" ∧ (parseMethodDescriptor yJxc12de_init_da8c8.desc).map (fun d => d.parameters.length) = some 0 := by decide +kernel
theorem hdJx4a65c_init_da8c8 : yJx4a65c_init_da8c8.cls ≠ "java/lang/invoke/MethodHandle" ∧ yJx4a65c_init_da8c8.cls ≠ "java/lang/invoke/VarHandle" ∧ (parseMethodDescriptor yJx4a65c_init_da8c8.desc).map (fun d => d.parameters.length) = some 0 := by decide +kernel
theorem hdJx4a65c_grow_92f84 : yJx4a65c_grow_92f84.cls ≠ "java/lang/invoke/MethodHandle" ∧ yJx4a65c_grow_92f84.cls ≠ "java/lang/invoke/VarHandle" ∧ (parseMethodDescriptor yJx4a65c_grow_92f84.desc).map (fun d => d.parameters.length) = some 1 := by decide +kernel
theorem hdJx4a65c_grow_d5877 : yJx4a65c_grow_d5877.cls ≠ "java/lang/invoke/MethodHandle" ∧ yJx4a65c_grow_d5877.cls ≠ "java/lang/invoke/VarHandle" ∧ (parseMethodDescriptor yJx4a65c_grow_d5877.desc).map (fun d => d.parameters.length) = some 0 := by decide +kernel
theorem hdJx4a65c_size_8abf5 : yJx4a65c_size_8abf5.cls ≠ "java/lang/invoke/MethodHandle" ∧ yJx4a65c_size_8abf5.cls ≠ "java/lang/invoke/VarHandle" ∧ (parseMethodDescriptor yJx4a65c_size_8abf5.desc).map (fun d => d.parameters.length) = some 0 := by decide +kernel
theorem hdJx4a65c_isEmpty_aae02 : yJx4a65c_isEmpty_aae02.cls ≠ "java/lang/invoke/MethodHandle" ∧ yJx4a65c_isEmpty_aae02.cls ≠ "java/lang/invoke/VarHandle" ∧ (parseMethodDescriptor yJx4a65c_isEmpty_aae02.desc).map (fun d => d.parameters.length) = some 0 := by decide +kernel
theorem hdJx4a65c_elementData_915e3 : yJx4a65c_elementData_915e3.cls ≠ "java/lang/invoke/MethodHandle" ∧ yJx4a65c_elementData_915e3.cls ≠ "java/lang/invoke/VarHandle" ∧ (parseMethodDescriptor yJx4a65c_elementData_915e3.desc).map (fun d => d.parameters.length) = some 1 := by decide +kernel
theorem hdJx4a65c_get_915e3 : yJx4a65c_get_915e3.cls ≠ "java/lang/invoke/MethodHandle" ∧ yJx4a65c_get_915e3.cls ≠ "java/lang/invoke/VarHandle" ∧ (parseMethodDescriptor yJx4a65c_get_915e3.desc).map (fun d => d.parameters.length) = some 1 := by decide +kernel
theorem hdJx4a65c_add_72be8 : yJx4a65c_add_72be8.cls ≠ "java/lang/invoke/MethodHandle" ∧ yJx4a65c_add_72be8.cls ≠ "java/lang/invoke/VarHandle" ∧ (parseMethodDescriptor yJx4a65c_add_72be8.desc).map (fun d => d.parameters.length) = some 3 := by decide +kernel
theorem hdJx4a65c_add_9ea2d : yJx4a65c_add_9ea2d.cls ≠ "java/lang/invoke/MethodHandle" ∧ yJx4a65c_add_9ea2d.cls ≠ "java/lang/invoke/VarHandle" ∧ (parseMethodDescriptor yJx4a65c_add_9ea2d.desc).map (fun d => d.parameters.length) = some 1 := by decide +kernel
theorem hdJ7_copyOf_1904c : yJ7_copyOf_1904c.cls ≠ "java/lang/invoke/MethodHandle" ∧ yJ7_copyOf_1904c.cls ≠ "java/lang/invoke/VarHandle" ∧ (parseMethodDescriptor yJ7_copyOf_1904c.desc).map (fun d => d.parameters.length) = some 2 := by decide +kernel
theorem hdJ7_copyOf_6403c : yJ7_copyOf_6403c.cls ≠ "java/lang/invoke/MethodHandle" ∧ yJ7_copyOf_6403c.cls ≠ "java/lang/invoke/VarHandle" ∧ (parseMethodDescriptor yJ7_copyOf_6403c.desc).map (fun d => d.parameters.length) = some 3 := by decide +kernel
theorem hdJ7_copyOf_59c91 : yJ7_copyOf_59c91.cls ≠ "java/lang/invoke/MethodHandle" ∧ yJ7_copyOf_59c91.cls ≠ "java/lang/invoke/VarHandle" ∧ (parseMethodDescriptor yJ7_copyOf_59c91.desc).map (fun d => d.parameters.length) = some 2 := by decide +kernel
theorem hdJ15_checkIndex_7cf53 : yJ15_checkIndex_7cf53.cls ≠ "java/lang/invoke/MethodHandle" ∧ yJ15_checkIndex_7cf53.cls ≠ "java/lang/invoke/VarHandle" ∧ (parseMethodDescriptor yJ15_checkIndex_7cf53.desc).map (fun d => d.parameters.length) = some 2 := by decide +kernel
theorem hdJ8_newLength_cabcc : yJ8_newLength_cabcc.cls ≠ "java/lang/invoke/MethodHandle" ∧ yJ8_newLength_cabcc.cls ≠ "java/lang/invoke/VarHandle" ∧ (parseMethodDescriptor yJ8_newLength_cabcc.desc).map (fun d => d.parameters.length) = some 3 := by decide +kernel
theorem hdJ8_hugeLength_7cf53 : yJ8_hugeLength_7cf53.cls ≠ "java/lang/invoke/MethodHandle" ∧ yJ8_hugeLength_7cf53.cls ≠ "java/lang/invoke/VarHandle" ∧ (parseMethodDescriptor yJ8_hugeLength_7cf53.desc).map (fun d => d.parameters.length) = some 2 := by decide +kernel
theorem hdJ3_checkIndex_8e157 : yJ3_checkIndex_8e157.cls ≠ "java/lang/invoke/MethodHandle" ∧ yJ3_checkIndex_8e157.cls ≠ "java/lang/invoke/VarHandle" ∧ (parseMethodDescriptor yJ3_checkIndex_8e157.desc).map (fun d => d.parameters.length) = some 3 := by decide +kernel
theorem mtL_size {mc ms n : Nat} (hn : n < 4 + 2 * nD K) : CM l D cI e0 A yJx4a65c_size_8abf5 cJx4a65c_size_8abf5 1 (some .int) 0 0 mc ms [.ref (ad 8 n)] (HT D cI e0 A ad K M ap o od) (qE (some (.int (K 8 2 n))) (HT D cI e0 A ad K M ap o od)) xN := by
  refine CM.of (by decide) (Nat.le_of_ble_eq_true rfl) (fun p e s m below meth c ls FX hw hS hl => ?_)
  obtain ⟨S, hg, hr, hlk, hnm, hout⟩ := FX
  have hl : lv_has ls 1 [(0, .ref (ad 8 n))] := hl
  have hw0 := hw
  obtain ⟨av, hw⟩ := hw
  refine lv_aload_n S.1 S.2.1 dJx4a65c_size_8abf5_0 rfl (lv_at hl 0 rfl) ?_
  refine r_get S hg hw (k := 8) (i := n) hn rfl rfl iWJx4a65c 2 (by decide) u77 rfl dJx4a65c_size_8abf5_1 ?_
  exact r_iret (y := yJx4a65c_size_8abf5) S hr rfl hlk hS (by omega) (by omega) dJx4a65c_size_8abf5_4 ⟨rfl, hw0⟩
theorem mtL_isEmpty {mc ms n : Nat} (hn : n < 4 + 2 * nD K) : CM l D cI e0 A yJx4a65c_isEmpty_aae02 cJx4a65c_isEmpty_aae02 1 (some .boolean) 0 0 mc ms [.ref (ad 8 n)] (HT D cI e0 A ad K M ap o od) (qE (some (.int (if K 8 2 n = 0 then 1 else 0))) (HT D cI e0 A ad K M ap o od)) xN := by
  refine CM.of (by decide) (Nat.le_of_ble_eq_true rfl) (fun p e s m below meth c ls FX hw hS hl => ?_)
  obtain ⟨S, hg, hr, hlk, hnm, hout⟩ := FX
  have hl : lv_has ls 1 [(0, .ref (ad 8 n))] := hl
  have hw0 := hw
  obtain ⟨av, hw⟩ := hw
  refine lv_aload_n S.1 S.2.1 dJx4a65c_isEmpty_aae02_0 rfl (lv_at hl 0 rfl) ?_
  refine r_get S hg hw (k := 8) (i := n) hn rfl rfl iWJx4a65c 2 (by decide) u77 rfl dJx4a65c_isEmpty_aae02_1 ?_
  refine lv_if_ne (tgt := 11) S.1 S.2.1 dJx4a65c_isEmpty_aae02_4 (by decide) (fun c1 => ?_) (fun c1 => ?_)
  · refine lv_iconst (v := 0) S.1 S.2.1 dJx4a65c_isEmpty_aae02_11 (by decide) ?_
    exact r_iret (y := yJx4a65c_isEmpty_aae02) S hr rfl hlk hS (by omega) (by omega) dJx4a65c_isEmpty_aae02_12 ⟨by rw [if_neg c1], hw0⟩
  · refine lv_iconst (v := 1) S.1 S.2.1 dJx4a65c_isEmpty_aae02_7 (by decide) ?_
    refine lv_goto (tgt := 12) S.1 S.2.1 dJx4a65c_isEmpty_aae02_8 (by decide) ?_
    exact r_iret (y := yJx4a65c_isEmpty_aae02) S hr rfl hlk hS (by omega) (by omega) dJx4a65c_isEmpty_aae02_12 ⟨by rw [if_pos c1], hw0⟩
theorem mtL_check3 {mc ms : Nat} {i n : Int32} (h0 : ¬ i < 0) (h1 : i < n) (P : Heap → Prop) : CM l D cI e0 A yJ3_checkIndex_8e157 cJ3_checkIndex_8e157 3 (some .int) 0 0 mc ms [.int i, .int n, .null] P (qE (some (.int i)) (P)) xN := by
  refine CM.of (by decide) (Nat.le_of_ble_eq_true rfl) (fun p e s m below meth c ls FX hw hS hl => ?_)
  obtain ⟨S, hg, hr, hlk, hnm, hout⟩ := FX
  have hl : lv_has ls 3 [(0, .int i), (1, .int n), (2, .null)] := hl
  refine lv_iload_n S.1 S.2.1 dJ3_checkIndex_8e157_0 rfl (lv_at hl 0 rfl) ?_
  refine lv_if_lt (tgt := 9) S.1 S.2.1 dJ3_checkIndex_8e157_1 (by decide) (fun c1 => absurd c1 h0) (fun c1 => ?_)
  refine lv_iload_n S.1 S.2.1 dJ3_checkIndex_8e157_4 rfl (lv_at hl 0 rfl) ?_
  refine lv_iload_n S.1 S.2.1 dJ3_checkIndex_8e157_5 rfl (lv_at hl 1 rfl) ?_
  refine lv_icmp_lt (tgt := 16) S.1 S.2.1 dJ3_checkIndex_8e157_6 (by decide) (fun c1 => ?_) (fun c1 => absurd h1 c1)
  refine lv_iload_n S.1 S.2.1 dJ3_checkIndex_8e157_16 rfl (lv_at hl 0 rfl) ?_
  exact r_iret (y := yJ3_checkIndex_8e157) S hr rfl hlk hS (by omega) (by omega) dJ3_checkIndex_8e157_17 ⟨rfl, hw⟩
theorem mtL_check2 {mc ms : Nat} {i n : Int32} (h0 : ¬ i < 0) (h1 : i < n) (P : Heap → Prop) : CM l D cI e0 A yJ15_checkIndex_7cf53 cJ15_checkIndex_7cf53 2 (some .int) 1 22 mc ms [.int i, .int n] P (qE (some (.int i)) (P)) xN := by
  refine CM.of (by decide) (Nat.le_of_ble_eq_true rfl) (fun p e s m below meth c ls FX hw hS hl => ?_)
  obtain ⟨S, hg, hr, hlk, hnm, hout⟩ := FX
  have hl : lv_has ls 2 [(0, .int i), (1, .int n)] := hl
  refine lv_iload_n S.1 S.2.1 dJ15_checkIndex_7cf53_0 rfl (lv_at hl 0 rfl) ?_
  refine lv_iload_n S.1 S.2.1 dJ15_checkIndex_7cf53_1 rfl (lv_at hl 1 rfl) ?_
  refine lv_null S.1 S.2.1 dJ15_checkIndex_7cf53_2 ?_
  refine r_callS (rest := []) S hg hS (mtL_check3 (mc := 0) (ms := 0) h0 h1 P) u184 u185 u48 u186 hdJ3_checkIndex_8e157 hw ⟨Nat.le_of_ble_eq_true rfl, Nat.le_of_ble_eq_true rfl⟩ ⟨by show 0 + 0 ≤ mc; omega, by show 0 + 0 ≤ ms; omega⟩ hl.1 (Nat.le_of_ble_eq_true rfl) rfl dJ15_checkIndex_7cf53_3 (fun E ce q H1 locs1 hx hS1 hc1 hc2 hc3 => hx.elim) (fun rv H locs hq hS => ?_)
  obtain ⟨rfl, hw⟩ := hq
  exact r_iret (y := yJ15_checkIndex_7cf53) S hr rfl hlk hS (by omega) (by omega) dJ15_checkIndex_7cf53_6 ⟨rfl, hw⟩
theorem mtL_elem {mc ms n : Nat} {j : Int32} (hn : n < 4 + 2 * nD K) (hj : okGet K n j) : CM l D cI e0 A yJx4a65c_elementData_915e3 cJx4a65c_elementData_915e3 2 (some (.object "java/lang/Object")) 0 0 mc ms [.ref (ad 8 n), .int j] (HT D cI e0 A ad K M ap o od) (qE (some (.ref (ad (ek n) (K 9 n j.toNatClampNeg).toNatClampNeg))) (HT D cI e0 A ad K M ap o od)) xN := by
  refine CM.of (by decide) (Nat.le_of_ble_eq_true rfl) (fun p e s m below meth c ls FX hw hS hl => ?_)
  obtain ⟨S, hg, hr, hlk, hnm, hout⟩ := FX
  have hl : lv_has ls 2 [(0, .ref (ad 8 n)), (1, .int j)] := hl
  have hw0 := hw
  obtain ⟨av, hw⟩ := hw
  obtain ⟨j0, j1, j2, j3⟩ := hj
  have jl : j.toNatClampNeg < (K 8 2 n).toNatClampNeg := by
    have a1 := Int32.lt_iff_toInt_lt.mp j1
    have a0 : ¬ j.toInt < 0 := fun z => j0 (Int32.lt_iff_toInt_lt.mpr z)
    show j.toInt.toNat < (K 8 2 n).toInt.toNat
    omega
  refine lv_aload_n S.1 S.2.1 dJx4a65c_elementData_915e3_0 rfl (lv_at hl 0 rfl) ?_
  refine r_get S hg hw (k := 8) (i := n) hn rfl rfl iWJx4a65c 1 (by decide) u76 (v := .ref (av 9 n)) (by show some (Value.ref (if K 8 3 n = 0 then e0 else av 9 n)) = _; rw [if_neg j2]) dJx4a65c_elementData_915e3_1 ?_
  refine lv_iload_n S.1 S.2.1 dJx4a65c_elementData_915e3_4 rfl (lv_at hl 1 rfl) ?_
  refine r_oald S hg hw (k := 9) (i := n) ⟨hn, j2⟩ rfl (j := j) (a := ad (ek n) (K 9 n j.toNatClampNeg).toNatClampNeg) (fun z => z.elim j0 (fun z => by omega)) (by show (if _ then _ else _) = _; rw [if_pos jl]) dJx4a65c_elementData_915e3_5 ?_
  exact r_aret (y := yJx4a65c_elementData_915e3) S hr (Or.inl ⟨_, rfl⟩) hlk hS (by omega) (by omega) dJx4a65c_elementData_915e3_6 ⟨rfl, hw0⟩
theorem rv8 (hg : GI D cI e0 A s s.heap) (hw : HT D cI e0 A ad K M ap o od H) {i : Nat} (hi : i < 4 + 2 * nD K) : ∃ cell : Cell, H[ad 8 i]? = some cell ∧ cell.vm.isStatics = false ∧ s.vm.findClass RJx4a65c = some cell.cls := by
  obtain ⟨av, hw⟩ := hw
  exact r_recv hg hw (k := 8) (i := i) hi rfl (q := (RJx4a65c, TJx4a65c, 3)) rfl
theorem mtL_get {mc ms n : Nat} {j : Int32} (hn : n < 4 + 2 * nD K) (hj : okGet K n j) : CM l D cI e0 A yJx4a65c_get_915e3 cJx4a65c_get_915e3 2 (some (.object "java/lang/Object")) 2 60 mc ms [.ref (ad 8 n), .int j] (HT D cI e0 A ad K M ap o od) (qE (some (.ref (ad (ek n) (K 9 n j.toNatClampNeg).toNatClampNeg))) (HT D cI e0 A ad K M ap o od)) xN := by
  refine CM.of (by decide) (Nat.le_of_ble_eq_true rfl) (fun p e s m below meth c ls FX hw hS hl => ?_)
  obtain ⟨S, hg, hr, hlk, hnm, hout⟩ := FX
  have hl : lv_has ls 2 [(0, .ref (ad 8 n)), (1, .int j)] := hl
  have hw0 := hw
  obtain ⟨av, hw1⟩ := hw
  refine lv_iload_n S.1 S.2.1 dJx4a65c_get_915e3_0 rfl (lv_at hl 1 rfl) ?_
  refine lv_aload_n S.1 S.2.1 dJx4a65c_get_915e3_1 rfl (lv_at hl 0 rfl) ?_
  refine r_get S hg hw1 (k := 8) (i := n) hn rfl rfl iWJx4a65c 2 (by decide) u77 rfl dJx4a65c_get_915e3_2 ?_
  refine r_callS (rest := []) S hg hS (mtL_check2 (mc := 0) (ms := 0) hj.1 hj.2.1 (HT D cI e0 A ad K M ap o od)) u181 u182 u47 u183 hdJ15_checkIndex_7cf53 hw0 ⟨Nat.le_of_ble_eq_true rfl, Nat.le_of_ble_eq_true rfl⟩ ⟨by show 0 + 0 ≤ mc; omega, by show 0 + 0 ≤ ms; omega⟩ hl.1 (Nat.le_of_ble_eq_true rfl) rfl dJx4a65c_get_915e3_5 (fun E ce q H1 locs1 hx hS1 hc1 hc2 hc3 => hx.elim) (fun rv H locs hq hS => ?_)
  obtain ⟨rfl, hw⟩ := hq
  refine lv_pop S.1 S.2.1 dJx4a65c_get_915e3_8 rfl ?_
  refine lv_aload_n S.1 S.2.1 dJx4a65c_get_915e3_9 rfl (lv_at hl 0 rfl) ?_
  refine lv_iload_n S.1 S.2.1 dJx4a65c_get_915e3_10 rfl (lv_at hl 1 rfl) ?_
  refine r_call (rest := []) S hg hS (mtL_elem (mc := 0) (ms := 0) hn hj) u187 u188 u189 u30 u190 hdJx4a65c_elementData_915e3 (rv8 hg hw hn) hw ⟨Nat.le_of_ble_eq_true rfl, Nat.le_of_ble_eq_true rfl⟩ ⟨by show 0 + 0 + 0 ≤ mc; omega, by show 0 + 0 + 0 ≤ ms; omega⟩ hl.1 (Nat.le_of_ble_eq_true rfl) rfl dJx4a65c_get_915e3_11 (fun E ce q H1 locs1 hx hS1 hc1 hc2 hc3 => hx.elim) (fun rv H locs hq hS => ?_)
  obtain ⟨rfl, hw⟩ := hq
  exact r_aret (y := yJx4a65c_get_915e3) S hr (Or.inl ⟨_, rfl⟩) hlk hS (by omega) (by omega) dJx4a65c_get_915e3_14 ⟨rfl, hw⟩
theorem rL_size (S : CallFix p m c cc nL s args WU own) (hg : GI D cI e0 A s s.heap) (hS : va_S A s.heap H locs) (hw : HT D cI e0 A ad K M ap o od H) {n : Nat} (hn : n < 4 + 2 * nD K) (k1 : Cond.methodLink own index yJx4a65c_size_8abf5 ∈ WU) (hsz : ls.size = nL) (hrest : (rest.map fun v => v.category).sum ≤ 8) (hR : 1 ≤ R.frames ∧ 20 ≤ R.locals) (hcs : cells ≤ R.cells ∧ slots ≤ R.slots) (hd : decode cc pc = .ok (.invokevirtual index, 3))
    (kk : ∀ (H1 : Heap) (locs1 : List Loc), HT D cI e0 A ad K M ap o od H1 → va_S A s.heap H1 locs1 → W p l e R s m args below meth c H1 locs1 cells slots Q (F0 m (pc + 3) ls (.int (K 8 2 n) :: rest))) : W p l e R s m args below meth c H locs cells slots Q (F0 m pc ls (.ref (ad 8 n) :: rest)) :=
  r_call (rest := rest) S hg hS (mtL_size (mc := 0) (ms := 0) hn) k1 u174 u175 u30 u176 (by decide +kernel) (rv8 hg hw hn) hw ⟨hR.1, hR.2⟩ hcs hsz hrest rfl hd (fun E ce q H1 locs1 hx hS1 hc1 hc2 hc3 => hx.elim) (fun rv H locs hq hS => by obtain ⟨rfl, hw⟩ := hq; exact kk H locs hw hS)
theorem rL_isEmpty (S : CallFix p m c cc nL s args WU own) (hg : GI D cI e0 A s s.heap) (hS : va_S A s.heap H locs) (hw : HT D cI e0 A ad K M ap o od H) {n : Nat} (hn : n < 4 + 2 * nD K) (k1 : Cond.methodLink own index yJx4a65c_isEmpty_aae02 ∈ WU) (hsz : ls.size = nL) (hrest : (rest.map fun v => v.category).sum ≤ 8) (hR : 1 ≤ R.frames ∧ 20 ≤ R.locals) (hcs : cells ≤ R.cells ∧ slots ≤ R.slots) (hd : decode cc pc = .ok (.invokevirtual index, 3))
    (kk : ∀ (H1 : Heap) (locs1 : List Loc), HT D cI e0 A ad K M ap o od H1 → va_S A s.heap H1 locs1 → W p l e R s m args below meth c H1 locs1 cells slots Q (F0 m (pc + 3) ls (.int (if K 8 2 n = 0 then 1 else 0) :: rest))) : W p l e R s m args below meth c H locs cells slots Q (F0 m pc ls (.ref (ad 8 n) :: rest)) :=
  r_call (rest := rest) S hg hS (mtL_isEmpty (mc := 0) (ms := 0) hn) k1 u650 u651 u30 u652 (by decide +kernel) (rv8 hg hw hn) hw ⟨hR.1, hR.2⟩ hcs hsz hrest rfl hd (fun E ce q H1 locs1 hx hS1 hc1 hc2 hc3 => hx.elim) (fun rv H locs hq hS => by obtain ⟨rfl, hw⟩ := hq; exact kk H locs hw hS)
theorem rL_get (S : CallFix p m c cc nL s args WU own) (hg : GI D cI e0 A s s.heap) (hS : va_S A s.heap H locs) (hw : HT D cI e0 A ad K M ap o od H) {n : Nat} {j : Int32} (hn : n < 4 + 2 * nD K) (hj : okGet K n j) (k1 : Cond.methodLink own index yJx4a65c_get_915e3 ∈ WU) (hsz : ls.size = nL) (hrest : (rest.map fun v => v.category).sum ≤ 8) (hR : 3 ≤ R.frames ∧ 81 ≤ R.locals) (hcs : cells ≤ R.cells ∧ slots ≤ R.slots) (hd : decode cc pc = .ok (.invokevirtual index, 3))
    (kk : ∀ (H1 : Heap) (locs1 : List Loc), HT D cI e0 A ad K M ap o od H1 → va_S A s.heap H1 locs1 → W p l e R s m args below meth c H1 locs1 cells slots Q (F0 m (pc + 3) ls (.ref (ad (ek n) (K 9 n j.toNatClampNeg).toNatClampNeg) :: rest))) : W p l e R s m args below meth c H locs cells slots Q (F0 m pc ls (.int j :: .ref (ad 8 n) :: rest)) :=
  r_call (rest := rest) S hg hS (mtL_get (mc := 0) (ms := 0) hn hj) k1 u178 u179 u30 u180 hdJx4a65c_get_915e3 (rv8 hg hw hn) hw ⟨hR.1, hR.2⟩ hcs hsz hrest rfl hd (fun E ce q H1 locs1 hx hS1 hc1 hc2 hc3 => hx.elim) (fun rv H locs hq hS => by obtain ⟨rfl, hw⟩ := hq; exact kk H locs hw hS)
theorem mtL_newLen {mc ms : Nat} {o1 a b : Int32} (h1 : (if a < b then b else a) = o1 - o1 + (if a < b then b else a)) {r : Int32} (hr0 : o1 + (if a < b then b else a) = r) (hp : 0 < r) (hm : ¬ 2147483639 < r) (P : Heap → Prop) : CM l D cI e0 A yJ8_newLength_cabcc cJ8_newLength_cabcc 4 (some .int) 1 40 mc ms [.int o1, .int a, .int b] P (qE (some (.int r)) P) xN := by
  refine CM.of (by decide) (Nat.le_of_ble_eq_true rfl) (fun p e s m below meth c ls FX hw hS hl => ?_)
  obtain ⟨S, hg, hr, hlk, hnm, hout⟩ := FX
  have hl : lv_has ls 4 [(0, .int o1), (1, .int a), (2, .int b)] := hl
  refine lv_iload_n S.1 S.2.1 dJ8_newLength_cabcc_0 rfl (lv_at hl 0 rfl) ?_
  refine lv_iload_n S.1 S.2.1 dJ8_newLength_cabcc_1 rfl (lv_at hl 1 rfl) ?_
  refine lv_iload_n S.1 S.2.1 dJ8_newLength_cabcc_2 rfl (lv_at hl 2 rfl) ?_
  refine va_mmax S.1 S.2.1 (S.2.2.1.trans hl.1.symm) S.2.2.2.1 (S.2.2.2.2 _ u424) (S.2.2.2.2 _ u425) (S.2.2.2.2 _ u33) (S.2.2.2.2 _ u426) (Nat.le_of_ble_eq_true rfl) (Nat.le_of_ble_eq_true rfl) (by show 0 ≤ mc; omega) (by show 0 ≤ ms; omega) dJ8_newLength_cabcc_3 ?_
  refine lv_iadd S.1 S.2.1 dJ8_newLength_cabcc_6 ?_
  rw [hr0]
  refine lv_istore_n (lv' := [(3, .int r), (0, .int o1), (1, .int a), (2, .int b)]) S.1 S.2.1 dJ8_newLength_cabcc_7 rfl hl (by decide) rfl (fun ls hl => ?_)
  refine lv_iconst (v := 0) S.1 S.2.1 dJ8_newLength_cabcc_8 (by decide) ?_
  refine lv_iload_n S.1 S.2.1 dJ8_newLength_cabcc_9 rfl (lv_at hl 0 rfl) ?_
  refine lv_icmp_ge (tgt := 21) S.1 S.2.1 dJ8_newLength_cabcc_10 (by decide) (fun c1 => absurd hp (Int32.not_lt.mpr c1)) (fun c1 => ?_)
  refine lv_iload_n S.1 S.2.1 dJ8_newLength_cabcc_13 rfl (lv_at hl 0 rfl) ?_
  refine lv_ldc S.1 S.2.1 S.2.2.2.1 (S.2.2.2.2 _ u427) dJ8_newLength_cabcc_14 ?_
  refine lv_icmp_gt (tgt := 21) S.1 S.2.1 dJ8_newLength_cabcc_16 (by decide) (fun c1 => absurd c1 hm) (fun c1 => ?_)
  refine lv_iload_n S.1 S.2.1 dJ8_newLength_cabcc_19 rfl (lv_at hl 0 rfl) ?_
  exact r_iret (y := yJ8_newLength_cabcc) S hr rfl hlk hS (by omega) (by omega) dJ8_newLength_cabcc_20 ⟨rfl, hw⟩
/-- list n's elements at a, and a copy of them in the N places at q -/
def HTc (D : va_G) (cI : Nat → ClassId) (e0 : Nat) (A : Nat → Prop) (ad : Nat → Nat → Nat) (K M : KS) (ap o : Int64) (od : UInt64) (n a N q : Nat) (H : Heap) : Prop := ∃ av, av 9 n = a ∧ HW D A (fun k i => lvK K k i ∨ (k = 30 ∧ i = 0)) (hU (adK ad av) 30 0 q) (hU (ctK cI e0 ad av K M ap o od) 30 0 (.inl (cI 2, N, .inr (.inr (.inr (.inr (fun j => if j < (K 8 2 n).toNatClampNeg then some (ad (ek n) (K 9 n j).toNatClampNeg) else none))))))) H
def HTe (D : va_G) (cI : Nat → ClassId) (e0 : Nat) (A : Nat → Prop) (ad : Nat → Nat → Nat) (K M : KS) (ap o : Int64) (od : UInt64) (n a : Nat) (H : Heap) : Prop := ∃ av, av 9 n = a ∧ HW D A (lvK K) (adK ad av) (ctK cI e0 ad av K M ap o od) H
theorem ek_known {n : Nat} : ∃ (r : vw_C) (ci : Nat), vwCl[ci]? = some r ∧ (r.1, "java/lang/Object") ∈ gCa ∧ ∀ (K M : KS) (ap o : Int64) (od : UInt64) (cI : Nat → ClassId) (e0 : Nat) (ad av : Nat → Nat → Nat) (i : Nat), ∃ fs, ctK cI e0 ad av K M ap o od (ek n) i = .inr (ci, fs) := by
  have h : ek n = 4 ∨ ek n = 5 ∨ ek n = 6 := by
    unfold ek
    split <;> simp
  rcases h with h | h | h
  · refine ⟨(RX1, TX1, 6), 4, rfl, by decide +kernel, fun K M ap o od cI e0 ad av i => ?_⟩
    rw [h]; exact ⟨_, rfl⟩
  · refine ⟨(RX4, TX4, 6), 7, rfl, by decide +kernel, fun K M ap o od cI e0 ad av i => ?_⟩
    rw [h]; exact ⟨_, rfl⟩
  · refine ⟨(RX2, TX2, 11), 5, rfl, by decide +kernel, fun K M ap o od cI e0 ad av i => ?_⟩
    rw [h]; exact ⟨_, rfl⟩
theorem r_ocpy (S : CallFix p m c cc nL s args WU own) (hg : GI D cI e0 A s s.heap) (hS : va_S A s.heap H locs) (hw : HW D A live adr G H) {k i k2 i2 : Nat} (hl : live k i) (hl2 : live k2 i2) {n1 n2 : Nat} {f g : Nat → Option Nat} (hG : G k i = .inl (cI 2, n1, .inr (.inr (.inr (.inr f))))) (hG2 : G k2 i2 = .inl (cI 2, n2, .inr (.inr (.inr (.inr g)))))
    {r : vw_C} {ci kx : Nat} (hc : vwCl[ci]? = some r) (hca : (r.1, "java/lang/Object") ∈ gCa) {n : Int32} (h3 : ¬ n < 0) (h4 : n.toNatClampNeg ≤ n1) (h5 : n.toNatClampNeg ≤ n2) (hel : ∀ j, j < n.toNatClampNeg → ∀ y, f j = some y → ∃ ix fs, y = adr kx ix ∧ live kx ix ∧ G kx ix = .inr (ci, fs)) (hk : Cond.methodLink own index ⟨"java/lang/System", "arraycopy", "(Ljava/lang/Object;ILjava/lang/Object;II)V"⟩ ∈ WU) (hsz : ls.size = nL) (hf : 1 ≤ R.frames) (hlo : (rest.map fun v => v.category).sum + 30 ≤ R.locals) (hdg : decode cc pc = .ok (.invokestatic index, 3))
    (kk : ∀ (H1 : Heap) (locs1 : List Loc), HW D A live adr (hU G k2 i2 (.inl (cI 2, n2, .inr (.inr (.inr (.inr (va_cpy f g 0 0 n.toNatClampNeg))))))) H1 → va_S A s.heap H1 locs1 → W p l e R s m args below meth c H1 locs1 cells slots Q (F0 m (pc + 3) ls rest)) : W p l e R s m args below meth c H locs cells slots Q (F0 m pc ls (.int n :: .int 0 :: .ref (adr k2 i2) :: .int 0 :: .ref (adr k i) :: rest)) := by
  have hw0 := hw
  obtain ⟨ids, h1, h2, hD⟩ := hw
  obtain ⟨q, -, hq⟩ := hws_at (adr := adr) (G := G) (h1 k i hl)
  obtain ⟨q2, q3, hq2⟩ := hws_at (adr := adr) (G := G) (h1 k2 i2 hl2)
  rw [hG] at hq
  rw [hG2] at hq2
  refine va_copyq (rest := rest) (C := r.1) (sp := 0) (dp := 0) S.1 S.2.1 (S.2.2.1.trans hsz.symm) S.2.2.2.1 (S.2.2.2.2 _ hk) (S.2.2.2.2 _ u464) (S.2.2.2.2 _ u463) (S.2.2.2.2 _ u46) hg.1 h2 hD hS q q2 2 2 hq hq2 rfl rfl (by decide) (by decide) h3 (by rw [tn0]; omega) (by rw [tn0]; omega) ?_ ?_ hf (by have := nfw; omega) hdg (fun H1 locs1 hP hD2 hS => kk H1 locs1 (HW.set hD h1 q3 hP hD2) hS)
  · intro j hj y hy
    rw [show (0 : Int32).toNatClampNeg = 0 from rfl, Nat.zero_add] at hy
    obtain ⟨ix, fs, rfl, q5, q6⟩ := hel j hj y hy
    exact r_recv hg hw0 q5 q6 hc
  · intro comp c0 e1 e2
    have h9 := hg.2.2.2.2.1.1 _ hca
    obtain ⟨c3, c4, a1, a2, a3⟩ := Cond.castable_spec (va_Nw.use (A := args) rfl h9)
    cases Option.some.inj (a1.symm.trans e2)
    cases Option.some.inj (a2.symm.trans e1)
    exact a3
def qC (D : va_G) (cI : Nat → ClassId) (e0 : Nat) (A : Nat → Prop) (ad : Nat → Nat → Nat) (K M : KS) (ap o : Int64) (od : UInt64) (n a N : Nat) (rv : Option Value) (H : Heap) : Prop := ∃ q, rv = some (.ref q) ∧ HTc D cI e0 A ad K M ap o od n a N q H
def qG (D : va_G) (cI : Nat → ClassId) (e0 : Nat) (A : Nat → Prop) (ad : Nat → Nat → Nat) (K M : KS) (ap o : Int64) (od : UInt64) (n : Nat) (rv : Option Value) (H : Heap) : Prop := ∃ a, rv = some (.ref a) ∧ HTe D cI e0 A ad K M ap o od n a H
theorem objArr : "[" ++ (FieldType.object "java/lang/Object").toString = "[Ljava/lang/Object;" := by decide +kernel
theorem r_rarr (hg : GI D cI e0 A s s.heap) (hw : HW D A live adr G H) {k i : Nat} (hl : live k i) {x : vp_A} (hG : G k i = .inl (cI 2, x)) : ∃ cell : Cell, H[adr k i]? = some cell ∧ cell.vm.isStatics = false ∧ s.vm.findClass "[Ljava/lang/Object;" = some cell.cls := by
  obtain ⟨ids, h1, h2, h3⟩ := hw
  obtain ⟨q, -, hq⟩ := hws_at (adr := adr) (G := G) (h1 k i hl)
  rw [hG] at hq
  obtain ⟨_, _, _, _, _, h9⟩ := (hg.1.2 2 _ rfl).2
  rw [objArr] at h9
  refine ⟨_, h2 q _ hq, ?_, ?_⟩
  · obtain ⟨x1, x2⟩ := x
    rcases x2 with f | f | f | f | f <;> rfl
  · rw [h9]
    obtain ⟨x1, x2⟩ := x
    rcases x2 with f | f | f | f | f <;> rfl
set_option maxHeartbeats 4000000 in
theorem mtL_copy4 {mc ms n a N q : Nat} (hq : K 8 3 n = nI q) (hq0 : 2 ≤ q) (hN : q < N) (hN2 : N ≤ 65536) (hn : n < 4 + 2 * nD K) (hc : (K 8 2 n).toNatClampNeg ≤ q) (hel : ∀ j, j < (K 8 2 n).toNatClampNeg → lvK K (ek n) (K 9 n j).toNatClampNeg) (h1 : 1 ≤ mc) (h2 : N ≤ ms) : CM l D cI e0 A yJ7_copyOf_6403c cJ7_copyOf_6403c 4 (some (.array (.object "java/lang/Object"))) 1 60 mc ms [.ref a, .int (nI N), .ref (cI 9)] (HTe D cI e0 A ad K M ap o od n a) (qC D cI e0 A ad K M ap o od n a N) xN := by
  refine CM.of (by decide) (Nat.le_of_ble_eq_true rfl) (fun p e s m below meth c ls FX hw hS hl => ?_)
  obtain ⟨S, hg, hr, hlk, hnm, hout⟩ := FX
  have hl : lv_has ls 4 [(0, .ref a), (1, .int (nI N)), (2, .ref (cI 9))] := hl
  obtain ⟨av, rfl, hw⟩ := hw
  have hcap : (K 8 3 n).toNatClampNeg = q := by rw [hq]; exact nI_clamp (by omega)
  have hne : K 8 3 n ≠ 0 := by rw [hq]; exact nI_ne0 (by omega) (by omega)
  refine lv_aload_n S.1 S.2.1 dJ7_copyOf_6403c_0 rfl (lv_at hl 2 rfl) ?_
  refine va_ldcM S.1 S.2.1 S.2.2.2.1 (S.2.2.2.2 _ u456) hg.2.2.2.2.2.2.1.1 dJ7_copyOf_6403c_1 ?_
  refine lv_acmp_ne (rx := some (cI 9)) (ry := some (cI 9)) (tgt := 13) S.1 S.2.1 dJ7_copyOf_6403c_3 (by decide) (fun c1 => absurd rfl c1) (fun c1 => ?_)
  refine lv_iload_n S.1 S.2.1 dJ7_copyOf_6403c_6 rfl (lv_at hl 1 rfl) ?_
  refine r_onew S hg hS hw 30 0 (N := N) u458 (nI_pos (by omega)) (nI_clamp (by omega)) (by omega) (by show 0 + 1 ≤ mc; omega) (by show 0 + N ≤ ms; omega) dJ7_copyOf_6403c_7 (fun x H hw hS => ?_)
  refine lv_goto (tgt := 24) S.1 S.2.1 dJ7_copyOf_6403c_10 (by decide) ?_
  refine lv_astore_n (lv' := [(3, .ref x), (0, .ref (av 9 n)), (1, .int (nI N)), (2, .ref (cI 9))]) S.1 S.2.1 dJ7_copyOf_6403c_24 rfl hl (by decide) rfl (fun ls hl => ?_)
  refine lv_aload_n S.1 S.2.1 dJ7_copyOf_6403c_25 rfl (lv_at hl 1 rfl) ?_
  refine lv_iconst (v := 0) S.1 S.2.1 dJ7_copyOf_6403c_26 (by decide) ?_
  refine lv_aload_n S.1 S.2.1 dJ7_copyOf_6403c_27 rfl (lv_at hl 0 rfl) ?_
  refine lv_iconst (v := 0) S.1 S.2.1 dJ7_copyOf_6403c_28 (by decide) ?_
  refine lv_aload_n S.1 S.2.1 dJ7_copyOf_6403c_29 rfl (lv_at hl 1 rfl) ?_
  have ea : hU (adK ad av) 30 0 x 9 n = av 9 n := hU_n _ _ (by omega)
  have ex : hU (adK ad av) 30 0 x 30 0 = x := hU_s _ _ _ _
  have eg : hU (ctK cI e0 ad av K M ap o od) 30 0 (.inl (cI 2, N, .inr (.inr (.inr (.inr (fun _ => none)))))) 9 n = ctK cI e0 ad av K M ap o od 9 n := hU_n _ _ (by omega)
  have hl9 : lvK K 9 n := ⟨hn, hne⟩
  rw [← ea]
  refine r_alen S hg hw (k := 9) (i := n) (Or.inl hl9) 2 rfl (x := ((K 8 3 n).toNatClampNeg, .inr (.inr (.inr (.inr (fun j => if j < (K 8 2 n).toNatClampNeg then some (ad (ek n) (K 9 n j).toNatClampNeg) else none)))))) eg dJ7_copyOf_6403c_30 ?_
  refine lv_iload_n S.1 S.2.1 dJ7_copyOf_6403c_31 rfl (lv_at hl 2 rfl) ?_
  refine va_mmin S.1 S.2.1 (S.2.2.1.trans hl.1.symm) S.2.2.2.1 (S.2.2.2.2 _ u459) (S.2.2.2.2 _ u460) (S.2.2.2.2 _ u33) (S.2.2.2.2 _ u461) (Nat.le_of_ble_eq_true rfl) (Nat.le_of_ble_eq_true rfl) (by show 0 + 1 ≤ mc; omega) (by show 0 + N ≤ ms; omega) dJ7_copyOf_6403c_32 ?_
  rw [hcap, if_neg (nI_nlt (by omega) (by omega))]
  have ex2 : (Value.ref x) = .ref (hU (adK ad av) 30 0 x 30 0) := by rw [ex]
  rw [ex2]
  obtain ⟨r, ci, hc1, hca, hck⟩ := ek_known (n := n)
  have hek : ¬ (ek n = 30 ∧ True) := by
    unfold ek
    split <;> simp
  have hek2 : ∀ i, ¬ (ek n = 30 ∧ i = 0) := fun i z => hek ⟨z.1, trivial⟩
  have hek9 : ∀ i, adK ad av (ek n) i = ad (ek n) i := by
    intro i
    unfold ek
    split <;> rfl
  refine r_ocpy (rest := []) S hg hS hw (k := 9) (i := n) (k2 := 30) (i2 := 0) (Or.inl hl9) (Or.inr ⟨rfl, rfl⟩) (n1 := q) (f := fun j => if j < (K 8 2 n).toNatClampNeg then some (ad (ek n) (K 9 n j).toNatClampNeg) else none) (by rw [eg]; show Sum.inl (cI 2, (K 8 3 n).toNatClampNeg, _) = _; rw [hcap]) (hU_s _ _ _ _) (kx := ek n) hc1 hca (nI_pos (by omega)) (by rw [nI_clamp (by omega)]; exact Nat.le_refl _) (by rw [nI_clamp (by omega)]; omega) ?_ u462 hl.1 (Nat.le_of_ble_eq_true rfl) (Nat.le_of_ble_eq_true rfl) dJ7_copyOf_6403c_35 (fun H locs hw hS => ?_)
  · intro j hj y hy
    by_cases hjc : j < (K 8 2 n).toNatClampNeg
    · have hy2 : some (ad (ek n) (K 9 n j).toNatClampNeg) = some y := by rw [← hy]; exact (if_pos hjc).symm
      obtain ⟨fs, hfs⟩ := hck K M ap o od cI e0 ad av (K 9 n j).toNatClampNeg
      refine ⟨(K 9 n j).toNatClampNeg, fs, ?_, Or.inl (hel j hjc), ?_⟩
      · rw [hU_n _ _ (hek2 _), hek9]; exact (Option.some.inj hy2).symm
      · rw [hU_n _ _ (hek2 _)]; exact hfs
    · exact absurd (show none = some y by rw [← hy]; exact (if_neg hjc).symm) (by simp)
  refine lv_aload_n S.1 S.2.1 dJ7_copyOf_6403c_38 rfl (lv_at hl 0 rfl) ?_
  refine r_aret (y := yJ7_copyOf_6403c) S hr (Or.inr ⟨_, rfl⟩) hlk hS (by omega) (by omega) dJ7_copyOf_6403c_39 ⟨x, rfl, av, rfl, hw.only (fun _ _ _ => rfl) (fun k i hli => ?_)⟩
  by_cases h30 : k = 30 ∧ i = 0
  · obtain ⟨rfl, rfl⟩ := h30
    rw [hU_s, hU_s]
    refine congrArg (fun f => Sum.inl (cI 2, N, Sum.inr (Sum.inr (Sum.inr (Sum.inr f))))) (funext fun j => ?_)
    show _ = va_cpy _ _ 0 0 (nI q).toNatClampNeg j
    rw [nI_clamp (by omega)]
    unfold va_cpy
    by_cases hjq : j < q
    · rw [if_pos (show 0 ≤ j ∧ j < 0 + q from ⟨Nat.zero_le _, by omega⟩)]
      simp
    · rw [if_neg (show ¬ (0 ≤ j ∧ j < 0 + q) by omega), if_neg (show ¬ j < (K 8 2 n).toNatClampNeg by omega)]
  · rw [hU_n _ _ h30, hU_n _ _ h30, hU_n _ _ h30]
set_option maxHeartbeats 4000000 in
theorem mtL_copy2 {mc ms n a N q : Nat} (hq : K 8 3 n = nI q) (hq0 : 2 ≤ q) (hN : q < N) (hN2 : N ≤ 65536) (hn : n < 4 + 2 * nD K) (hc : (K 8 2 n).toNatClampNeg ≤ q) (hel : ∀ j, j < (K 8 2 n).toNatClampNeg → lvK K (ek n) (K 9 n j).toNatClampNeg) (h1 : 1 ≤ mc) (h2 : N ≤ ms) : CM l D cI e0 A yJ7_copyOf_1904c cJ7_copyOf_1904c 2 (some (.array (.object "java/lang/Object"))) 2 90 mc ms [.ref a, .int (nI N)] (HTe D cI e0 A ad K M ap o od n a) (qC D cI e0 A ad K M ap o od n a N) xN := by
  refine CM.of (by decide) (Nat.le_of_ble_eq_true rfl) (fun p e s m below meth c ls FX hw hS hl => ?_)
  obtain ⟨S, hg, hr, hlk, hnm, hout⟩ := FX
  have hl : lv_has ls 2 [(0, .ref a), (1, .int (nI N))] := hl
  have hw0 := hw
  obtain ⟨av, rfl, hw⟩ := hw
  have hne : K 8 3 n ≠ 0 := by rw [hq]; exact nI_ne0 (by omega) (by omega)
  refine lv_aload_n S.1 S.2.1 dJ7_copyOf_1904c_0 rfl (lv_at hl 0 rfl) ?_
  refine lv_iload_n S.1 S.2.1 dJ7_copyOf_1904c_1 rfl (lv_at hl 1 rfl) ?_
  refine lv_aload_n S.1 S.2.1 dJ7_copyOf_1904c_2 rfl (lv_at hl 0 rfl) ?_
  refine va_getC S.1 S.2.1 (S.2.2.1.trans hl.1.symm) S.2.2.2.1 (S.2.2.2.2 _ u434) (va_Dc.use hg.2.2.2.2.2.2.1.2) (S.2.2.2.2 _ u955) (S.2.2.2.2 _ u435) (S.2.2.2.2 _ u452) hg.2.2.2.2.2.2.1.1 (r_rarr hg hw (k := 9) (i := n) ⟨hn, hne⟩ rfl) (Nat.le_of_ble_eq_true rfl) (Nat.le_of_ble_eq_true rfl) dJ7_copyOf_1904c_3 ?_
  refine r_callS (rest := []) S hg hS (mtL_copy4 (mc := mc) (ms := ms) hq hq0 hN hN2 hn hc hel h1 h2) u453 u454 u45 u455 hdJ7_copyOf_6403c hw0 ⟨Nat.le_of_ble_eq_true rfl, Nat.le_of_ble_eq_true rfl⟩ ⟨by show 0 + mc ≤ mc; omega, by show 0 + ms ≤ ms; omega⟩ hl.1 (Nat.le_of_ble_eq_true rfl) rfl dJ7_copyOf_1904c_6 (fun E ce q H1 locs1 hx hS1 hc1 hc2 hc3 => hx.elim) (fun rv H locs hq hS => ?_)
  obtain ⟨x, rfl, hw⟩ := hq
  exact r_aret (y := yJ7_copyOf_1904c) S hr (Or.inr ⟨_, rfl⟩) hlk hS (by omega) (by omega) dJ7_copyOf_1904c_9 ⟨x, rfl, hw⟩
theorem ek_r {n : Nat} : ek n = 4 ∨ ek n = 5 ∨ ek n = 6 := by
  unfold ek
  split <;> simp
theorem lvK_30 {K : KS} {k i : Nat} (h : lvK K k i) : ¬ (k = 30 ∧ i = 0) := by
  rintro ⟨rfl, rfl⟩
  exact h
theorem lvK_cap {n : Nat} {v : Int32} {k i : Nat} (h : lvK (k3 K 8 3 n v) k i) : lvK K k i ∨ (k = 9 ∧ i = n) := by
  by_cases hk : k = 9
  · subst hk
    by_cases hi : i = n
    · exact Or.inr ⟨rfl, hi⟩
    · refine Or.inl ?_
      have h2 : i < 4 + 2 * nD K ∧ k3 K 8 3 n v 8 3 i ≠ 0 := h
      rw [k3_c K v hi] at h2
      exact h2
  · refine Or.inl ?_
    unfold lvK at h ⊢
    split at h <;> first | exact h | exact absurd rfl hk
/-- the room of list n is another, its elements lie elsewhere -/
theorem ct_cap {n q : Nat} {v : Int32} {f : Nat → Option Nat} (hv : v ≠ 0) {k i : Nat} (hf : ctK cI e0 ad (hU av 9 n q) (k3 K 8 3 n v) M ap o od 9 n = .inl (cI 2, v.toNatClampNeg, .inr (.inr (.inr (.inr f))))) : ctK cI e0 ad (hU av 9 n q) (k3 K 8 3 n v) M ap o od k i = hU (hU (ctK cI e0 ad av K M ap o od) 9 n (.inl (cI 2, v.toNatClampNeg, .inr (.inr (.inr (.inr f)))))) 8 n (.inr (2, [.int (K 8 0 n), .ref q, .int (K 8 2 n)])) k i := by
  by_cases h8 : k = 8 ∧ i = n
  · obtain ⟨rfl, rfl⟩ := h8
    rw [hU_s]
    simp [ctK, k3_b, k3_s, hv, hU]
  · rw [hU_n _ _ h8]
    by_cases h9 : k = 9 ∧ i = n
    · obtain ⟨rfl, rfl⟩ := h9
      rw [hU_s]; exact hf
    · rw [hU_n _ _ h9]
      by_cases hk8 : k = 8
      · subst hk8
        have hi : ¬ i = n := fun z => h8 ⟨rfl, z⟩
        simp [ctK, k3_c, hi, k3_b, hU]
      · by_cases hk9 : k = 9
        · subst hk9
          have hi : ¬ i = n := fun z => h9 ⟨rfl, z⟩
          simp only [ctK]
          rw [k3_b K v (show ¬ 2 = 3 by decide), k3_a K v (show ¬ 9 = 8 by decide)]
          have e : k3 K 8 3 n v 8 3 i = K 8 3 i := k3_c K v hi
          rw [e]
        · have e11 : hU av 9 n q 11 0 = av 11 0 := hU_n _ _ (by omega)
          unfold ctK
          split <;> first | rfl | (exact absurd rfl hk8) | (exact absurd rfl hk9) | (rw [e11])
theorem ad_cap {n q k i : Nat} : adK ad (hU av 9 n q) k i = hU (adK ad av) 9 n q k i := by
  by_cases h9 : k = 9 ∧ i = n
  · obtain ⟨rfl, rfl⟩ := h9
    rw [hU_s]; exact hU_s _ _ _ _
  · rw [hU_n _ _ h9]
    unfold adK
    split
    · exact hU_n _ _ h9
    · exact hU_n _ _ (by omega)
    · rfl
theorem r_putE (S : CallFix p m c cc nL s args WU own) (hg : GI D cI e0 A s s.heap) (hS : va_S A s.heap H locs) (hw : HW D A live adr G H) {n : Nat} (hl : live 8 n) {m0 c0 : Int32} {v0 : Value} (hG : G 8 n = .inr (2, [.int m0, v0, .int c0])) {q : Nat} (hlink : Cond.fieldLink own index "java/util/ArrayList" "elementData" "[Ljava/lang/Object;" ∈ WU) (hdg : decode cc pc = .ok (.putfield index, 3))
    (kk : ∀ (H1 : Heap) (locs1 : List Loc), HW D A live adr (hU G 8 n (.inr (2, [.int m0, .ref q, .int c0]))) H1 → va_S A s.heap H1 locs1 → W p l e R s m args below meth c H1 locs1 cells slots Q (F0 m (pc + 3) ls rest)) : W p l e R s m args below meth c H locs cells slots Q (F0 m pc ls (.ref q :: .ref (adr 8 n) :: rest)) :=
  r_put S hg hS hw hl hG rfl iWJx4a65c tyJx4a65c tyJx4a65c_ok nmJx4a65c 1 (by decide) hlink rfl rfl rfl (Nat.le_of_ble_eq_true rfl) hdg kk
set_option maxHeartbeats 4000000 in
theorem mtL_grow1F {mc ms n q : Nat} (hq : K 8 3 n = nI q) (hq0 : 2 ≤ q) (hN2 : q + q / 2 ≤ 65536) (hn : n < 4 + 2 * nD K) (hc : K 8 2 n = nI q) (hel : ∀ j, j < q → lvK K (ek n) (K 9 n j).toNatClampNeg) (h1 : 1 ≤ mc) (h2 : q + q / 2 ≤ ms) : CM l D cI e0 A yJx4a65c_grow_92f84 cJx4a65c_grow_92f84 4 (some (.array (.object "java/lang/Object"))) 3 130 mc ms [.ref (ad 8 n), .int (nI (q + 1))] (HT D cI e0 A ad K M ap o od) (qG D cI e0 A ad (k3 K 8 3 n (nI (q + q / 2))) M ap o od n) xN := by
  refine CM.of (by decide) (Nat.le_of_ble_eq_true rfl) (fun p e s m below meth c ls FX hw hS hl => ?_)
  obtain ⟨S, hg, hr, hlk, hnm, hout⟩ := FX
  have hl : lv_has ls 4 [(0, .ref (ad 8 n)), (1, .int (nI (q + 1)))] := hl
  obtain ⟨av, hw⟩ := hw
  have hcap : (K 8 3 n).toNatClampNeg = q := by rw [hq]; exact nI_clamp (by omega)
  have hcs : (K 8 2 n).toNatClampNeg = q := by rw [hc]; exact nI_clamp (by omega)
  have hne : K 8 3 n ≠ 0 := by rw [hq]; exact nI_ne0 (by omega) (by omega)
  have hcell : ctK cI e0 ad av K M ap o od 8 n = .inr (2, [.int (K 8 0 n), .ref (av 9 n), .int (K 8 2 n)]) := by
    show Sum.inr (2, [Value.int (K 8 0 n), .ref (if K 8 3 n = 0 then e0 else av 9 n), .int (K 8 2 n)]) = _
    rw [if_neg hne]
  refine lv_aload_n S.1 S.2.1 dJx4a65c_grow_92f84_0 rfl (lv_at hl 0 rfl) ?_
  refine r_get S hg hw (k := 8) (i := n) hn hcell rfl iWJx4a65c 1 (by decide) u76 rfl dJx4a65c_grow_92f84_1 ?_
  refine r_alen S hg hw (k := 9) (i := n) ⟨hn, hne⟩ 2 rfl rfl dJx4a65c_grow_92f84_4 ?_
  show W p l e _ s m _ below meth c s.heap [] 0 0 _ (F0 m 5 ls [.int (nI (K 8 3 n).toNatClampNeg)])
  rw [hcap]
  refine lv_istore_n (lv' := [(2, .int (nI q)), (0, .ref (ad 8 n)), (1, .int (nI (q + 1)))]) S.1 S.2.1 dJx4a65c_grow_92f84_5 rfl hl (by decide) rfl (fun ls hl => ?_)
  refine lv_iload_n S.1 S.2.1 dJx4a65c_grow_92f84_6 rfl (lv_at hl 0 rfl) ?_
  refine lv_if_gt (tgt := 20) S.1 S.2.1 dJx4a65c_grow_92f84_7 (by decide) (fun c1 => ?_) (fun c1 => absurd (show 0 < nI q from nI_lt (a := 0) (by omega) (by omega)) c1)
  refine lv_iload_n S.1 S.2.1 dJx4a65c_grow_92f84_20 rfl (lv_at hl 0 rfl) ?_
  refine lv_iload_n S.1 S.2.1 dJx4a65c_grow_92f84_21 rfl (lv_at hl 2 rfl) ?_
  refine lv_iload_n S.1 S.2.1 dJx4a65c_grow_92f84_22 rfl (lv_at hl 0 rfl) ?_
  refine lv_isub S.1 S.2.1 dJx4a65c_grow_92f84_23 ?_
  refine lv_iload_n S.1 S.2.1 dJx4a65c_grow_92f84_24 rfl (lv_at hl 0 rfl) ?_
  refine lv_iconst (v := 1) S.1 S.2.1 dJx4a65c_grow_92f84_25 (by decide) ?_
  refine lv_ishr S.1 S.2.1 dJx4a65c_grow_92f84_26 ?_
  have e1 : nI (q + 1) - nI q = nI 1 := by rw [pk_sub (by omega), Nat.add_sub_cancel_left]
  have e2 : nI q >>> ((1 : Int32) &&& 31) = nI (q / 2) := by
    have k := pk_shrN (n := q) (by omega) ((1 : Int32) &&& 31) 1 (by decide)
    rw [Nat.pow_one] at k
    exact k
  rw [e1, e2]
  have e3 : (if nI 1 < nI (q / 2) then nI (q / 2) else nI 1) = nI (q / 2) := by
    by_cases h : 1 < q / 2
    · rw [if_pos (nI_lt h (by omega))]
    · rw [if_neg (nI_nlt (by omega) (by omega))]
      have : q / 2 = 1 := by omega
      rw [this]
  refine r_callS (rest := []) S hg hS (mtL_newLen (mc := 0) (ms := 0) (o1 := nI q) (a := nI 1) (b := nI (q / 2)) (r := nI (q + q / 2)) (by rw [e3, pk_sub (Nat.le_refl q), Nat.sub_self]; show _ = 0 + _; simp) (by rw [e3, nI_add]) (show 0 < nI (q + q / 2) from nI_lt (a := 0) (by omega) (by omega)) (show ¬ nI 2147483639 < nI (q + q / 2) from nI_nlt (by omega) (by decide)) (HW D A (lvK K) (adK ad av) (ctK cI e0 ad av K M ap o od))) u421 u422 u44 u423 hdJ8_newLength_cabcc hw ⟨Nat.le_of_ble_eq_true rfl, Nat.le_of_ble_eq_true rfl⟩ ⟨by show 0 + 0 ≤ mc; omega, by show 0 + 0 ≤ ms; omega⟩ hl.1 (Nat.le_of_ble_eq_true rfl) rfl dJx4a65c_grow_92f84_27 (fun E ce q H1 locs1 hx hS1 hc1 hc2 hc3 => hx.elim) (fun rv H locs hq hS => ?_)
  obtain ⟨rfl, hw⟩ := hq
  refine lv_istore_n (lv' := [(3, .int (nI (q + q / 2))), (2, .int (nI q)), (0, .ref (ad 8 n)), (1, .int (nI (q + 1)))]) S.1 S.2.1 dJx4a65c_grow_92f84_30 rfl hl (by decide) rfl (fun ls hl => ?_)
  refine lv_aload_n S.1 S.2.1 dJx4a65c_grow_92f84_31 rfl (lv_at hl 2 rfl) ?_
  refine lv_aload_n S.1 S.2.1 dJx4a65c_grow_92f84_32 rfl (lv_at hl 2 rfl) ?_
  refine r_get S hg hw (k := 8) (i := n) hn hcell rfl iWJx4a65c 1 (by decide) u76 rfl dJx4a65c_grow_92f84_33 ?_
  refine lv_iload_n S.1 S.2.1 dJx4a65c_grow_92f84_36 rfl (lv_at hl 0 rfl) ?_
  refine r_callS (rest := [.ref (ad 8 n)]) S hg hS (mtL_copy2 (mc := mc) (ms := ms) (a := av 9 n) hq hq0 (show q < q + q / 2 by omega) hN2 hn (by omega) (by rw [hcs]; exact hel) h1 h2) u431 u432 u45 u433 hdJ7_copyOf_1904c ⟨av, rfl, hw⟩ ⟨Nat.le_of_ble_eq_true rfl, Nat.le_of_ble_eq_true rfl⟩ ⟨by show 0 + 0 + mc ≤ mc; omega, by show 0 + 0 + ms ≤ ms; omega⟩ hl.1 (Nat.le_of_ble_eq_true rfl) rfl dJx4a65c_grow_92f84_37 (fun E ce q H1 locs1 hx hS1 hc1 hc2 hc3 => hx.elim) (fun rv H locs hq2 hS => ?_)
  obtain ⟨x, rfl, av2, hav, hw⟩ := hq2
  show W p l e _ s m _ below meth c H locs _ _ _ (F0 m 40 ls [.ref x, .ref (ad 8 n)])
  refine lv_dup_x1 S.1 S.2.1 dJx4a65c_grow_92f84_40 rfl rfl ?_
  have h8 : hU (adK ad av2) 30 0 x 8 n = ad 8 n := hU_n _ _ (by omega)
  have ev0 : ∀ v : Int32, v = nI (q + q / 2) → v ≠ 0 := fun v h => by rw [h]; exact nI_ne0 (by omega) (by omega)
  rw [← h8]
  refine r_putE S hg hS hw (n := n) (m0 := K 8 0 n) (c0 := K 8 2 n) (v0 := .ref (if K 8 3 n = 0 then e0 else av2 9 n)) (Or.inl hn) (by rw [hU_n _ _ (by omega)]; rfl) u76 dJx4a65c_grow_92f84_41 (fun H locs hw hS => ?_)
  refine r_aret (y := yJx4a65c_grow_92f84) S hr (Or.inr ⟨_, rfl⟩) hlk hS (by show 0 + 0 + mc ≤ mc; omega) (by show 0 + 0 + ms ≤ ms; omega) dJx4a65c_grow_92f84_44 ⟨x, rfl, hU av2 9 n x, hU_s _ _ _ _, ?_⟩
  have hf : ctK cI e0 ad (hU av2 9 n x) (k3 K 8 3 n (nI (q + q / 2))) M ap o od 9 n = .inl (cI 2, (nI (q + q / 2)).toNatClampNeg, .inr (.inr (.inr (.inr (fun j => if j < (K 8 2 n).toNatClampNeg then some (ad (ek n) (K 9 n j).toNatClampNeg) else none))))) := by
    simp only [ctK]
    rw [k3_b K _ (show ¬ 2 = 3 by decide), k3_a K _ (show ¬ 9 = 8 by decide), k3_s]
  refine HW.ren hw (k := 30) (i := 0) (k2 := 9) (i2 := n) (Or.inr ⟨rfl, rfl⟩) ?_ ?_ ?_ ?_ ?_
  · intro k i h
    rcases lvK_cap h with h | h
    · by_cases h9 : k = 9 ∧ i = n
      · exact Or.inl h9
      · exact Or.inr ⟨Or.inl h, fun z => (by obtain ⟨rfl, rfl⟩ := z; exact h), h9⟩
    · exact Or.inl h
  · rw [ad_cap, hU_s, hU_s]
  · rw [hf, hU_n _ _ (by omega), hU_s, nI_clamp (by omega)]
  · intro k i h hne9
    rw [ad_cap, hU_n _ _ hne9, hU_n _ _ (lvK_30 h)]
  · intro k i h hne9
    rw [ct_cap (ev0 _ rfl) hf]
    by_cases h8 : k = 8 ∧ i = n
    · obtain ⟨rfl, rfl⟩ := h8
      rw [hU_s, hU_s]
    · rw [hU_n _ _ h8, hU_n _ _ hne9, hU_n _ _ h8, hU_n _ _ (lvK_30 h)]
set_option maxHeartbeats 4000000 in
theorem mtL_grow1E {mc ms n : Nat} (hq : K 8 3 n = 0) (hn : n < 4 + 2 * nD K) (hc : K 8 2 n = 0) (h1 : 1 ≤ mc) (h2 : 10 ≤ ms) : CM l D cI e0 A yJx4a65c_grow_92f84 cJx4a65c_grow_92f84 4 (some (.array (.object "java/lang/Object"))) 3 130 mc ms [.ref (ad 8 n), .int 1] (HT D cI e0 A ad K M ap o od) (qG D cI e0 A ad (k3 K 8 3 n 10) M ap o od n) xN := by
  refine CM.of (by decide) (Nat.le_of_ble_eq_true rfl) (fun p e s m below meth c ls FX hw hS hl => ?_)
  obtain ⟨S, hg, hr, hlk, hnm, hout⟩ := FX
  have hl : lv_has ls 4 [(0, .ref (ad 8 n)), (1, .int 1)] := hl
  obtain ⟨av, hw⟩ := hw
  have hcell : ctK cI e0 ad av K M ap o od 8 n = .inr (2, [.int (K 8 0 n), .ref e0, .int (K 8 2 n)]) := by
    show Sum.inr (2, [Value.int (K 8 0 n), .ref (if K 8 3 n = 0 then e0 else av 9 n), .int (K 8 2 n)]) = _
    rw [if_pos hq]
  refine lv_aload_n S.1 S.2.1 dJx4a65c_grow_92f84_0 rfl (lv_at hl 0 rfl) ?_
  refine r_get S hg hw (k := 8) (i := n) hn hcell rfl iWJx4a65c 1 (by decide) u76 rfl dJx4a65c_grow_92f84_1 ?_
  refine va_tlen S.1 S.2.1 hg.2.1.2 hS rfl dJx4a65c_grow_92f84_4 ?_
  refine lv_istore_n (lv' := [(2, .int (nI 0)), (0, .ref (ad 8 n)), (1, .int 1)]) S.1 S.2.1 dJx4a65c_grow_92f84_5 rfl hl (by decide) rfl (fun ls hl => ?_)
  refine lv_iload_n S.1 S.2.1 dJx4a65c_grow_92f84_6 rfl (lv_at hl 0 rfl) ?_
  refine lv_if_gt (tgt := 20) S.1 S.2.1 dJx4a65c_grow_92f84_7 (by decide) (fun c1 => absurd c1 (by decide)) (fun c1 => ?_)
  refine lv_aload_n S.1 S.2.1 dJx4a65c_grow_92f84_10 rfl (lv_at hl 1 rfl) ?_
  refine r_get S hg hw (k := 8) (i := n) hn hcell rfl iWJx4a65c 1 (by decide) u76 rfl dJx4a65c_grow_92f84_11 ?_
  refine va_gets S.1 S.2.1 hg.2.1.1 hS S.2.2.2.1 (S.2.2.2.2 _ u74) (fun _ h => h) dJx4a65c_grow_92f84_14 ?_
  refine lv_acmp_eq (rx := some e0) (ry := some e0) (tgt := 45) S.1 S.2.1 dJx4a65c_grow_92f84_17 (by decide) (fun c1 => ?_) (fun c1 => absurd rfl c1)
  refine lv_aload_n S.1 S.2.1 dJx4a65c_grow_92f84_45 rfl (lv_at hl 1 rfl) ?_
  refine lv_bipush (v := 10) S.1 S.2.1 dJx4a65c_grow_92f84_46 (by decide) ?_
  refine lv_iload_n S.1 S.2.1 dJx4a65c_grow_92f84_48 rfl (lv_at hl 2 rfl) ?_
  refine va_mmax S.1 S.2.1 (S.2.2.1.trans hl.1.symm) S.2.2.2.1 (S.2.2.2.2 _ u465) (S.2.2.2.2 _ u425) (S.2.2.2.2 _ u33) (S.2.2.2.2 _ u426) (Nat.le_of_ble_eq_true rfl) (Nat.le_of_ble_eq_true rfl) (by show 0 ≤ mc; omega) (by show 0 ≤ ms; omega) dJx4a65c_grow_92f84_49 ?_
  rw [if_neg (show ¬ (10 : Int32) < 1 by decide)]
  refine r_onew S hg hS hw 9 n (N := 10) u466 (by decide) (by decide) (by decide) (by show 0 + 1 ≤ mc; omega) (by show 0 + 10 ≤ ms; omega) dJx4a65c_grow_92f84_52 (fun x H hw hS => ?_)
  refine lv_dup_x1 S.1 S.2.1 dJx4a65c_grow_92f84_55 rfl rfl ?_
  have h8 : hU (adK ad av) 9 n x 8 n = ad 8 n := hU_n _ _ (by omega)
  rw [← h8]
  refine r_putE S hg hS hw (n := n) (m0 := K 8 0 n) (c0 := K 8 2 n) (v0 := .ref e0) (Or.inl hn) (by rw [hU_n _ _ (by omega)]; exact hcell) u76 dJx4a65c_grow_92f84_56 (fun H locs hw hS => ?_)
  refine r_aret (y := yJx4a65c_grow_92f84) S hr (Or.inr ⟨_, rfl⟩) hlk hS (by show 0 + 1 ≤ mc; omega) (by show 0 + 10 ≤ ms; omega) dJx4a65c_grow_92f84_59 ⟨x, rfl, hU av 9 n x, hU_s _ _ _ _, ?_⟩
  have hf : ctK cI e0 ad (hU av 9 n x) (k3 K 8 3 n 10) M ap o od 9 n = .inl (cI 2, (10 : Int32).toNatClampNeg, .inr (.inr (.inr (.inr (fun _ => none))))) := by
    simp only [ctK]
    rw [k3_b K _ (show ¬ 2 = 3 by decide), k3_a K _ (show ¬ 9 = 8 by decide), k3_s, hc]
    rfl
  refine hw.same (fun k i h => lvK_cap h) (fun k i h => ad_cap) (fun k i h => ?_)
  rw [ct_cap (show (10 : Int32) ≠ 0 by decide) hf]
  rfl
theorem nI1 : (1 : Int32) = nI 1 := rfl
set_option maxHeartbeats 4000000 in
theorem mtL_grow0 {mc ms n q : Nat} (hc : K 8 2 n = nI q) (hq : K 8 3 n = nI q) (hq0 : q = 0 ∨ 2 ≤ q) (hN2 : q ≤ 40000) (hn : n < 4 + 2 * nD K) (hel : ∀ j, j < q → lvK K (ek n) (K 9 n j).toNatClampNeg) (h1 : 1 ≤ mc) (h2 : (q = 0 → 10 ≤ ms) ∧ (q ≠ 0 → q + q / 2 ≤ ms)) : CM l D cI e0 A yJx4a65c_grow_d5877 cJx4a65c_grow_d5877 1 (some (.array (.object "java/lang/Object"))) 4 160 mc ms [.ref (ad 8 n)] (HT D cI e0 A ad K M ap o od) (qG D cI e0 A ad (k3 K 8 3 n (lCap (K 8 2 n) (K 8 3 n))) M ap o od n) xN := by
  refine CM.of (by decide) (Nat.le_of_ble_eq_true rfl) (fun p e s m below meth c ls FX hw hS hl => ?_)
  obtain ⟨S, hg, hr, hlk, hnm, hout⟩ := FX
  have hl : lv_has ls 1 [(0, .ref (ad 8 n))] := hl
  have hw0 := hw
  obtain ⟨av, hw⟩ := hw
  refine lv_aload_n S.1 S.2.1 dJx4a65c_grow_d5877_0 rfl (lv_at hl 0 rfl) ?_
  refine lv_aload_n S.1 S.2.1 dJx4a65c_grow_d5877_1 rfl (lv_at hl 0 rfl) ?_
  refine r_get S hg hw (k := 8) (i := n) hn rfl rfl iWJx4a65c 2 (by decide) u77 rfl dJx4a65c_grow_d5877_2 ?_
  refine lv_iconst (v := 1) S.1 S.2.1 dJx4a65c_grow_d5877_5 (by decide) ?_
  refine lv_iadd S.1 S.2.1 dJx4a65c_grow_d5877_6 ?_
  rw [hc, nI_1]
  rcases hq0 with rfl | hq0
  · have hcap : lCap (nI 0) (K 8 3 n) = 10 := by unfold lCap; rw [if_pos (by rw [hq]; rfl)]
    rw [hcap]
    refine r_call (rest := []) S hg hS (mtL_grow1E (mc := mc) (ms := ms) hq hn hc h1 (h2.1 rfl)) u417 u419 u5 u30 u420 hdJx4a65c_grow_92f84 (rv8 hg hw0 hn) hw0 ⟨Nat.le_of_ble_eq_true rfl, Nat.le_of_ble_eq_true rfl⟩ ⟨by show 0 + mc ≤ mc; omega, by show 0 + ms ≤ ms; omega⟩ hl.1 (Nat.le_of_ble_eq_true rfl) rfl dJx4a65c_grow_d5877_7 (fun E ce q H1 locs1 hx hS1 hc1 hc2 hc3 => hx.elim) (fun rv H locs hq9 hS => ?_)
    obtain ⟨x, rfl, hw⟩ := hq9
    exact r_aret (y := yJx4a65c_grow_d5877) S hr (Or.inr ⟨_, rfl⟩) hlk hS (by omega) (by omega) dJx4a65c_grow_d5877_10 ⟨x, rfl, hw⟩
  · have hcap : lCap (nI q) (K 8 3 n) = nI (q + q / 2) := by
      unfold lCap
      rw [hq, if_neg (nI_ne0 (by omega) (by omega)), if_pos rfl, nI_clamp (by omega)]
    rw [hcap]
    refine r_call (rest := []) S hg hS (mtL_grow1F (mc := mc) (ms := ms) hq hq0 (by omega) hn hc hel h1 (h2.2 (by omega))) u417 u419 u5 u30 u420 hdJx4a65c_grow_92f84 (rv8 hg hw0 hn) hw0 ⟨Nat.le_of_ble_eq_true rfl, Nat.le_of_ble_eq_true rfl⟩ ⟨by show 0 + mc ≤ mc; omega, by show 0 + ms ≤ ms; omega⟩ hl.1 (Nat.le_of_ble_eq_true rfl) rfl dJx4a65c_grow_d5877_7 (fun E ce q H1 locs1 hx hS1 hc1 hc2 hc3 => hx.elim) (fun rv H locs hq9 hS => ?_)
    obtain ⟨x, rfl, hw⟩ := hq9
    exact r_aret (y := yJx4a65c_grow_d5877) S hr (Or.inr ⟨_, rfl⟩) hlk hS (by omega) (by omega) dJx4a65c_grow_d5877_10 ⟨x, rfl, hw⟩
theorem k3_id (K : KS) (a b d : Nat) : k3 K a b d (K a b d) = K := by
  funext a' b' c'
  by_cases ha : a' = a
  · subst ha
    by_cases hb : b' = b
    · subst hb
      by_cases hc : c' = d
      · subst hc; rw [k3_s]
      · rw [k3_c K _ hc]
    · rw [k3_b K _ hb]
  · rw [k3_a K _ ha]
theorem tn_lt (v : Int32) : v.toNatClampNeg < 2 ^ 31 := by
  have := v.toInt_lt
  show v.toInt.toNat < _
  omega
theorem lv_small {n x : Nat} (h : lvK K (ek n) x) : x < 2 ^ 31 := by
  rcases ek_r (n := n) with e | e | e <;> rw [e] at h
  · exact Nat.lt_trans (show x < nC K from h) (tn_lt _)
  · exact Nat.lt_trans (show x < nO K from h) (tn_lt _)
  · exact Nat.lt_trans (show x < nD K from h) (tn_lt _)
theorem ct_add {n x k0 : Nat} (hc : K 8 2 n = nI k0) (hk0 : k0 < 2 ^ 30) (hx : x < 2 ^ 31) {k i : Nat} : ctK cI e0 ad av (k3 (k3 K 9 n k0 (nI x)) 8 2 n (nI (k0 + 1))) M ap o od k i = hU (hU (ctK cI e0 ad av K M ap o od) 9 n (.inl (cI 2, (K 8 3 n).toNatClampNeg, .inr (.inr (.inr (.inr (va_up (fun j => if j < (K 8 2 n).toNatClampNeg then some (ad (ek n) (K 9 n j).toNatClampNeg) else none) k0 (some (ad (ek n) x))))))))) 8 n (.inr (2, [.int (K 8 0 n), .ref (if K 8 3 n = 0 then e0 else av 9 n), .int (nI (k0 + 1))])) k i := by
  have f1 : ∀ z w, k3 (k3 K 9 n k0 (nI x)) 8 2 n w 8 z = if z = 2 then va_up (K 8 2) n w else K 8 z := by
    intro z w
    by_cases hz : z = 2
    · subst hz
      rw [if_pos rfl]
      funext y
      by_cases hy : y = n
      · subst hy; rw [k3_s, va_up_s]
      · rw [k3_c _ _ hy, k3_a K _ (show ¬ 8 = 9 by decide), va_up_n _ _ hy]
    · rw [if_neg hz, k3_b _ _ hz, k3_a K _ (show ¬ 8 = 9 by decide)]
  by_cases h8 : k = 8 ∧ i = n
  · obtain ⟨rfl, rfl⟩ := h8
    rw [hU_s]
    simp [ctK, f1, va_up_s]
  · rw [hU_n _ _ h8]
    by_cases h9 : k = 9 ∧ i = n
    · obtain ⟨rfl, rfl⟩ := h9
      rw [hU_s]
      simp only [ctK, f1]
      rw [if_neg (by decide), if_pos trivial, va_up_s]
      refine congrArg (fun f => Sum.inl (cI 2, (K 8 3 i).toNatClampNeg, Sum.inr (Sum.inr (Sum.inr (Sum.inr f))))) (funext fun j => ?_)
      rw [nI_clamp (by omega), k3_a _ _ (show ¬ 9 = 8 by decide), hc, nI_clamp (by omega)]
      by_cases hj : j = k0
      · subst hj
        rw [if_pos (by omega), k3_s, va_up_s, nI_clamp (by omega)]
      · rw [k3_c _ _ hj, va_up_n _ _ hj]
        by_cases hj2 : j < k0
        · rw [if_pos (by omega), if_pos hj2]
        · rw [if_neg (by omega), if_neg hj2]
    · rw [hU_n _ _ h9]
      by_cases hk8 : k = 8
      · subst hk8
        have hi : ¬ i = n := fun z => h8 ⟨rfl, z⟩
        simp [ctK, f1, va_up_n _ _ hi]
      · by_cases hk9 : k = 9
        · subst hk9
          have hi : ¬ i = n := fun z => h9 ⟨rfl, z⟩
          simp only [ctK, f1]
          rw [if_neg (by decide), if_pos trivial, va_up_n _ _ hi, k3_a _ _ (show ¬ 9 = 8 by decide), k3_b _ _ hi]
        · unfold ctK
          split <;> first | rfl | (exact absurd rfl hk8) | (exact absurd rfl hk9)
theorem lv_add {n x k0 : Nat} {v : Int32} {k i : Nat} (h : lvK (k3 (k3 K 9 n k0 (nI x)) 8 2 n v) k i) : lvK K k i := by
  unfold lvK at h ⊢
  split at h <;> exact h
/-- the end of add(e, elements, size): the element is laid, the size is one more -/
theorem add3_tail {y : MethodName} {mc ms n x k0 a : Nat} {ls : Array Slot} {XX : String → Heap → Prop} (hc : K 8 2 n = nI k0) (hq : K 8 3 n ≠ 0) (hcq : k0 < (K 8 3 n).toNatClampNeg) (hk0 : k0 ≤ 40000) (hn : n < 4 + 2 * nD K) (hx : lvK K (ek n) x) (S : CallFix p m c cJx4a65c_add_72be8 4 s args WU RJx4a65c) (hr : meth.sig.returnType = none) (hlk : meth.locks = false) (hg : GI D cI e0 A s s.heap) (hS : va_S A s.heap H locs) (hw : HTe D cI e0 A ad K M ap o od n a H) (hl : lv_has ls 4 [(0, .ref (ad 8 n)), (1, .ref (ad (ek n) x)), (2, .ref a), (3, .int (nI k0))]) (hcc : cells ≤ mc) (hss : slots ≤ ms) :
    W p l e R s m args below meth c H locs cells slots (MQQ below (qE none (HT D cI e0 A ad (k3 (k3 K 9 n k0 (nI x)) 8 2 n (nI (k0 + 1))) M ap o od)) XX args s mc ms A) (F0 m 11 ls []) := by
  obtain ⟨av, rfl, hw⟩ := hw
  have hek9 : ∀ i, adK ad av (ek n) i = ad (ek n) i := by
    intro i
    rcases ek_r (n := n) with e | e | e <;> rw [e] <;> rfl
  obtain ⟨r, ci, hc1, hca, hck⟩ := ek_known (n := n)
  obtain ⟨fs, hfs⟩ := hck K M ap o od cI e0 ad av x
  refine lv_aload_n S.1 S.2.1 dJx4a65c_add_72be8_11 rfl (lv_at hl 2 rfl) ?_
  refine lv_iload_n S.1 S.2.1 dJx4a65c_add_72be8_12 rfl (lv_at hl 3 rfl) ?_
  refine lv_aload_n S.1 S.2.1 dJx4a65c_add_72be8_13 rfl (lv_at hl 1 rfl) ?_
  rw [← hek9 x]
  refine r_oast S hg hS hw (k := 9) (i := n) ⟨hn, hq⟩ rfl (k2 := ek n) (i2 := x) hx hfs hc1 hca (vp_in_nI hcq (tn_lt _)) dJx4a65c_add_72be8_14 (fun H locs hw hS => ?_)
  rw [nI_clamp (by omega), hek9] at hw
  refine lv_aload_n S.1 S.2.1 dJx4a65c_add_72be8_15 rfl (lv_at hl 0 rfl) ?_
  refine lv_iload_n S.1 S.2.1 dJx4a65c_add_72be8_16 rfl (lv_at hl 3 rfl) ?_
  refine lv_iconst (v := 1) S.1 S.2.1 dJx4a65c_add_72be8_17 (by decide) ?_
  refine lv_iadd S.1 S.2.1 dJx4a65c_add_72be8_18 ?_
  rw [nI_1]
  refine r_put S hg hS hw (k := 8) (i := n) hn (ci := 2) (fs := [.int (K 8 0 n), .ref (if K 8 3 n = 0 then e0 else av 9 n), .int (K 8 2 n)]) (hU_n _ _ (by omega)) rfl iWJx4a65c tyJx4a65c tyJx4a65c_ok nmJx4a65c 2 (by decide) u77 rfl rfl rfl (Nat.le_of_ble_eq_true rfl) dJx4a65c_add_72be8_19 (fun H locs hw hS => ?_)
  exact r_vret (y := yJx4a65c_add_72be8) S hr hlk hS hcc hss dJx4a65c_add_72be8_22 ⟨rfl, av, hw.same (fun k i h => lv_add h) (fun _ _ _ => rfl) (fun k i h => ct_add hc (by omega) (lv_small hx))⟩
/-- the address of list n's elements -/
def HTl (D : va_G) (cI : Nat → ClassId) (e0 : Nat) (A : Nat → Prop) (ad : Nat → Nat → Nat) (K M : KS) (ap o : Int64) (od : UInt64) (n a : Nat) (H : Heap) : Prop := (K 8 3 n = 0 ∧ a = e0 ∧ HT D cI e0 A ad K M ap o od H) ∨ (K 8 3 n ≠ 0 ∧ HTe D cI e0 A ad K M ap o od n a H)
theorem HTe.ht {n a : Nat} (h : HTe D cI e0 A ad K M ap o od n a H) : HT D cI e0 A ad K M ap o od H := by
  obtain ⟨av, -, hw⟩ := h
  exact ⟨av, hw⟩
theorem HTl.ht {n a : Nat} (h : HTl D cI e0 A ad K M ap o od n a H) : HT D cI e0 A ad K M ap o od H := by
  rcases h with ⟨-, -, h⟩ | ⟨-, h⟩
  · exact h
  · exact h.ht
set_option maxHeartbeats 4000000 in
theorem mtL_add3 {mc ms n x a : Nat} (hok : okAdd K n mc ms) (hn : n < 4 + 2 * nD K) (hx : lvK K (ek n) x) : CM l D cI e0 A yJx4a65c_add_72be8 cJx4a65c_add_72be8 4 none 5 190 mc ms [.ref (ad 8 n), .ref (ad (ek n) x), .ref a, .int (K 8 2 n)] (HTl D cI e0 A ad K M ap o od n a) (qE none (HT D cI e0 A ad (k3 (k3 (k3 K 8 3 n (lCap (K 8 2 n) (K 8 3 n))) 9 n (K 8 2 n).toNatClampNeg (nI x)) 8 2 n (K 8 2 n + 1)) M ap o od)) xN := by
  refine CM.of (by decide) (Nat.le_of_ble_eq_true rfl) (fun p e s m below meth c ls FX hw hS hl => ?_)
  obtain ⟨S, hg, hr, hlk, hnm, hout⟩ := FX
  generalize hae : #[Value.ref (ad 8 n), Value.ref (ad (ek n) x), Value.ref a, Value.int (K 8 2 n)] = ar at S ⊢
  have hl : lv_has ls 4 [(0, .ref (ad 8 n)), (1, .ref (ad (ek n) x)), (2, .ref a), (3, .int (K 8 2 n))] := hl
  obtain ⟨k0, q, hk0, hq, hkq, hq4, hq0, hgr⟩ := hok
  have hw0 := hw.ht
  have hcq : (K 8 2 n).toNatClampNeg = k0 := by rw [hk0]; exact nI_clamp (by omega)
  have hcap : (K 8 3 n).toNatClampNeg = q := by rw [hq]; exact nI_clamp (by omega)
  rw [hcq, hk0, nI_1]
  rw [hk0] at hl
  refine lv_iload_n S.1 S.2.1 dJx4a65c_add_72be8_0 rfl (lv_at hl 3 rfl) ?_
  refine lv_aload_n S.1 S.2.1 dJx4a65c_add_72be8_1 rfl (lv_at hl 2 rfl) ?_
  have key : W p l e ({ frames := 5, cells := mc, slots := ms, locals := 190 } : Room) s m ar below meth c s.heap [] 0 0 (MQQ below (qE none (HT D cI e0 A ad (k3 (k3 (k3 K 8 3 n (lCap (nI k0) (K 8 3 n))) 9 n k0 (nI x)) 8 2 n (nI (k0 + 1))) M ap o od)) xN ar s mc ms A) (F0 m 3 ls [.int (nI q), .int (nI k0)]) := by
    refine lv_icmp_ne (tgt := 11) S.1 S.2.1 dJx4a65c_add_72be8_3 (by decide) (fun c1 => ?_) (fun c1 => ?_)
    · have hne : k0 ≠ q := fun z => c1 (by rw [z])
      have hq1 : q ≠ 0 := by omega
      have hqn : K 8 3 n ≠ 0 := by rw [hq]; exact nI_ne0 (by omega) (by omega)
      have hcp : lCap (nI k0) (K 8 3 n) = K 8 3 n := by
        unfold lCap
        rw [if_neg hqn, if_neg (by rw [hq]; intro z; exact hne ((nI_eq (by omega) (by omega)).mp z))]
      rw [hcp, k3_id]
      rcases hw with ⟨z, -, -⟩ | ⟨-, hw⟩
      · exact absurd z hqn
      · exact add3_tail (y := yJx4a65c_add_72be8) hk0 hqn (by omega) (by omega) hn hx S hr hlk hg hS hw hl (by omega) (by omega)
    · have heq : k0 = q := (nI_eq (by omega) (by omega)).mp c1
      subst heq
      obtain ⟨g1, g2, g3, g4⟩ := hgr rfl
      refine lv_aload_n S.1 S.2.1 dJx4a65c_add_72be8_6 rfl (lv_at hl 0 rfl) ?_
      refine r_call (rest := []) S hg hS (mtL_grow0 (mc := mc) (ms := ms) hk0 hq hq0 hq4 hn g4 g1 ⟨g2, g3⟩) u413 u415 u4 u30 u416 hdJx4a65c_grow_d5877 (rv8 hg hw0 hn) hw0 ⟨Nat.le_of_ble_eq_true rfl, Nat.le_of_ble_eq_true rfl⟩ ⟨by show 0 + mc ≤ mc; omega, by show 0 + ms ≤ ms; omega⟩ hl.1 (Nat.le_of_ble_eq_true rfl) rfl dJx4a65c_add_72be8_7 (fun E ce q H1 locs1 hx hS1 hc1 hc2 hc3 => hx.elim) (fun rv H locs hq9 hS => ?_)
      obtain ⟨x9, rfl, hw⟩ := hq9
      show W p l e _ s m _ below meth c H locs _ _ _ (F0 m 10 ls [.ref x9])
      refine lv_astore_n (lv' := [(2, .ref x9), (0, .ref (ad 8 n)), (1, .ref (ad (ek n) x)), (3, .int (nI k0))]) S.1 S.2.1 dJx4a65c_add_72be8_10 rfl hl (by decide) rfl (fun ls hl => ?_)
      have hl := lv_sub hl (l' := [(0, .ref (ad 8 n)), (1, .ref (ad (ek n) x)), (2, .ref x9), (3, .int (nI k0))]) [1, 2, 0, 3] rfl
      rw [hk0] at hw
      have hcp : lCap (nI k0) (K 8 3 n) ≠ 0 ∧ k0 < (lCap (nI k0) (K 8 3 n)).toNatClampNeg := by
        unfold lCap
        rcases hq0 with rfl | h2
        · rw [if_pos (by rw [hq]; rfl)]; exact ⟨by decide, by decide⟩
        · rw [hq, if_neg (nI_ne0 (by omega) (by omega)), if_pos rfl, nI_clamp (by omega), nI_clamp (by omega)]
          exact ⟨nI_ne0 (by omega) (by omega), by omega⟩
      refine add3_tail (y := yJx4a65c_add_72be8) (K := k3 K 8 3 n (lCap (nI k0) (K 8 3 n))) (by rw [k3_b K _ (show ¬ 2 = 3 by decide)]; exact hk0) (by rw [k3_s]; exact hcp.1) (by rw [k3_s]; exact hcp.2) (by omega) hn ?_ S hr hlk hg hS hw hl (by omega) (by omega)
      rcases ek_r (n := n) with e | e | e <;> rw [e] at hx ⊢ <;> exact hx
  rcases id hw with ⟨z, rfl, hw9⟩ | ⟨z, hw9⟩
  · have hq1 : q = 0 := by
      rcases Nat.eq_zero_or_pos q with h | h
      · exact h
      · exact absurd (hq.symm.trans z) (nI_ne0 h (by omega))
    subst hq1
    exact va_tlen S.1 S.2.1 hg.2.1.2 hS rfl dJx4a65c_add_72be8_2 key
  · obtain ⟨av, rfl, hw9⟩ := hw9
    refine r_alen S hg hw9 (k := 9) (i := n) ⟨hn, z⟩ 2 rfl rfl dJx4a65c_add_72be8_2 ?_
    show W p l e _ s m _ below meth c _ _ _ _ _ (F0 m 3 ls [.int (nI (K 8 3 n).toNatClampNeg), .int (nI k0)])
    rw [hcap]
    exact key
theorem lv_mod {n : Nat} {v : Int32} {k i : Nat} : lvK (k3 K 8 0 n v) k i ↔ lvK K k i := by
  unfold lvK
  split <;> exact Iff.rfl
theorem ct_mod {n : Nat} {v : Int32} {k i : Nat} : ctK cI e0 ad av (k3 K 8 0 n v) M ap o od k i = hU (ctK cI e0 ad av K M ap o od) 8 n (.inr (2, [.int v, .ref (if K 8 3 n = 0 then e0 else av 9 n), .int (K 8 2 n)])) k i := by
  by_cases h8 : k = 8 ∧ i = n
  · obtain ⟨rfl, rfl⟩ := h8
    rw [hU_s]
    simp [ctK, k3_b, k3_s]
  · rw [hU_n _ _ h8]
    by_cases hk8 : k = 8
    · subst hk8
      have hi : ¬ i = n := fun z => h8 ⟨rfl, z⟩
      simp [ctK, k3_c, hi, k3_b]
    · unfold ctK
      split <;> first | rfl | (exact absurd rfl hk8)
set_option maxHeartbeats 4000000 in
theorem mtL_add1 {mc ms n x : Nat} (hok : okAdd K n mc ms) (hn : n < 4 + 2 * nD K) (hx : lvK K (ek n) x) : CM l D cI e0 A yJx4a65c_add_9ea2d cJx4a65c_add_9ea2d 2 (some .boolean) 6 300 mc ms [.ref (ad 8 n), .ref (ad (ek n) x)] (HT D cI e0 A ad K M ap o od) (qE (some (.int 1)) (HT D cI e0 A ad (lAdd K n x) M ap o od)) xN := by
  refine CM.of (by decide) (Nat.le_of_ble_eq_true rfl) (fun p e s m below meth c ls FX hw hS hl => ?_)
  obtain ⟨S, hg, hr, hlk, hnm, hout⟩ := FX
  have hl : lv_has ls 2 [(0, .ref (ad 8 n)), (1, .ref (ad (ek n) x))] := hl
  obtain ⟨av, hw⟩ := hw
  have hsame : ∀ z, s.fieldFound? (TJx4a65c 0).1 (TJx4a65c 0).2.1 (TJx4a65c 0).2.2.1 = some z → s.fieldFound? "java/util/ArrayList" (TJx4a65c 0).2.1 (TJx4a65c 0).2.2.1 = some z := fun z hz => u_same (S.2.2.2.2 _ u80) z hz
  refine lv_aload_n S.1 S.2.1 dJx4a65c_add_9ea2d_0 rfl (lv_at hl 0 rfl) ?_
  refine lv_dup S.1 S.2.1 dJx4a65c_add_9ea2d_1 rfl ?_
  obtain ⟨ids, h1, h2, h3⟩ := id hw
  obtain ⟨r, r1, r2⟩ := hws_at (adr := adK ad av) (G := ctK cI e0 ad av K M ap o od) (h1 8 n hn)
  refine va_get S.1 S.2.1 S.2.2.2.2 iWJx4a65c S.2.2.2.1 hg.1 h2 r r2 rfl 0 (by decide) (S.2.2.2.2 _ u79) hsame rfl dJx4a65c_add_9ea2d_2 ?_
  refine lv_iconst (v := 1) S.1 S.2.1 dJx4a65c_add_9ea2d_5 (by decide) ?_
  refine lv_iadd S.1 S.2.1 dJx4a65c_add_9ea2d_6 ?_
  refine va_put S.1 S.2.1 S.2.2.2.2 iWJx4a65c tyJx4a65c tyJx4a65c_ok nmJx4a65c S.2.2.2.1 hg.1 h2 h3 hS r r2 rfl 0 (by decide) (S.2.2.2.2 _ u79) hsame rfl (tyJx4a65c_ok 0 (by decide)) rfl rfl (Nat.le_of_ble_eq_true rfl) dJx4a65c_add_9ea2d_7 (fun H locs hP hD hS => ?_)
  have hw : HW D A (lvK (k3 K 8 0 n (K 8 0 n + 1))) (adK ad av) (ctK cI e0 ad av (k3 K 8 0 n (K 8 0 n + 1)) M ap o od) H := (HW.set h3 h1 r1 hP hD).same (fun k i h => lv_mod.mp h) (fun _ _ _ => rfl) (fun k i h => ct_mod)
  have e2 : k3 K 8 0 n (K 8 0 n + 1) 8 2 n = K 8 2 n := by rw [k3_b K _ (show ¬ 2 = 0 by decide)]
  have e3 : k3 K 8 0 n (K 8 0 n + 1) 8 3 n = K 8 3 n := by rw [k3_b K _ (show ¬ 3 = 0 by decide)]
  refine lv_aload_n S.1 S.2.1 dJx4a65c_add_9ea2d_10 rfl (lv_at hl 0 rfl) ?_
  refine lv_aload_n S.1 S.2.1 dJx4a65c_add_9ea2d_11 rfl (lv_at hl 1 rfl) ?_
  refine lv_aload_n S.1 S.2.1 dJx4a65c_add_9ea2d_12 rfl (lv_at hl 0 rfl) ?_
  refine r_get S hg hw (k := 8) (i := n) hn rfl rfl iWJx4a65c 1 (by decide) u76 rfl dJx4a65c_add_9ea2d_13 ?_
  refine lv_aload_n S.1 S.2.1 dJx4a65c_add_9ea2d_16 rfl (lv_at hl 0 rfl) ?_
  refine r_get S hg hw (k := 8) (i := n) hn rfl rfl iWJx4a65c 2 (by decide) u77 rfl dJx4a65c_add_9ea2d_17 ?_
  have hok2 : okAdd (k3 K 8 0 n (K 8 0 n + 1)) n mc ms := by
    obtain ⟨k0, q, a1, a2, a3, a4, a5, a6⟩ := hok
    refine ⟨k0, q, e2.trans a1, e3.trans a2, a3, a4, a5, fun h => ?_⟩
    obtain ⟨b1, b2, b3, b4⟩ := a6 h
    refine ⟨b1, b2, b3, fun j hj => lv_mod.mpr ?_⟩
    have := b4 j hj
    rw [k3_a K _ (show ¬ 9 = 8 by decide)]
    exact this
  have hwl : HTl D cI e0 A ad (k3 K 8 0 n (K 8 0 n + 1)) M ap o od n (if k3 K 8 0 n (K 8 0 n + 1) 8 3 n = 0 then e0 else av 9 n) H := by
    by_cases hz : k3 K 8 0 n (K 8 0 n + 1) 8 3 n = 0
    · exact Or.inl ⟨hz, by rw [if_pos hz], av, hw⟩
    · exact Or.inr ⟨hz, by rw [if_neg hz]; exact ⟨av, rfl, hw⟩⟩
  refine r_call (rest := []) S hg hS (mtL_add3 (mc := mc) (ms := ms) hok2 hn (lv_mod.mpr hx)) u409 u411 u3 u30 u412 hdJx4a65c_add_72be8 (rv8 hg ⟨av, hw⟩ hn) hwl ⟨Nat.le_of_ble_eq_true rfl, Nat.le_of_ble_eq_true rfl⟩ ⟨by show 0 + mc ≤ mc; omega, by show 0 + ms ≤ ms; omega⟩ hl.1 (Nat.le_of_ble_eq_true rfl) rfl dJx4a65c_add_9ea2d_20 (fun E ce q H1 locs1 hx hS1 hc1 hc2 hc3 => hx.elim) (fun rv H locs hq9 hS => ?_)
  obtain ⟨rfl, hw⟩ := hq9
  show W p l e _ s m _ below meth c H locs _ _ _ (F0 m 23 ls [])
  refine lv_iconst (v := 1) S.1 S.2.1 dJx4a65c_add_9ea2d_23 (by decide) ?_
  refine r_iret (y := yJx4a65c_add_9ea2d) S hr rfl hlk hS (by omega) (by omega) dJx4a65c_add_9ea2d_24 ⟨rfl, ?_⟩
  rw [e2, e3] at hw
  exact hw
theorem rL_add {mc ms : Nat} (S : CallFix p m c cc nL s args WU own) (hg : GI D cI e0 A s s.heap) (hS : va_S A s.heap H locs) (hw : HT D cI e0 A ad K M ap o od H) {n x : Nat} (hn : n < 4 + 2 * nD K) (hx : lvK K (ek n) x) (hok : okAdd K n mc ms) (hsz : ls.size = nL) (hrest : (rest.map fun v => v.category).sum ≤ 8) (hR : 7 ≤ R.frames ∧ 321 ≤ R.locals) (hcs : cells + mc ≤ R.cells ∧ slots + ms ≤ R.slots) (k1 : Cond.methodLink own index yJx4a65c_add_9ea2d ∈ WU) (hd : decode cc pc = .ok (.invokevirtual index, 3))
    (kk : ∀ (H1 : Heap) (locs1 : List Loc), HT D cI e0 A ad (lAdd K n x) M ap o od H1 → va_S A s.heap H1 locs1 → W p l e R s m args below meth c H1 locs1 (cells + mc) (slots + ms) Q (F0 m (pc + 3) ls (.int 1 :: rest))) : W p l e R s m args below meth c H locs cells slots Q (F0 m pc ls (.ref (ad (ek n) x) :: .ref (ad 8 n) :: rest)) :=
  r_call (rest := rest) S hg hS (mtL_add1 (mc := mc) (ms := ms) hok hn hx) k1 u406 u407 u30 u408 hdJx4a65c_add_9ea2d (rv8 hg hw hn) hw ⟨hR.1, hR.2⟩ hcs hsz hrest rfl hd (fun E ce q H1 locs1 hx hS1 hc1 hc2 hc3 => hx.elim) (fun rv H locs hq hS => by obtain ⟨rfl, hw⟩ := hq; exact kk H locs hw hS)
/-- the postings' row at a, and a longer copy of it at q -/
def HTd (D : va_G) (cI : Nat → ClassId) (e0 : Nat) (A : Nat → Prop) (ad : Nat → Nat → Nat) (K M : KS) (ap o : Int64) (od : UInt64) (N q : Nat) (H : Heap) : Prop := ∃ av, HW D A (fun k i => lvK K k i ∨ (k = 30 ∧ i = 0)) (hU (adK ad av) 30 0 q) (hU (ctK cI e0 ad av K M ap o od) 30 0 (.inl (cI 0, N, .inl (va_cpy (K 11 0) (fun _ => 0) 0 0 (K 1 5 0).toNatClampNeg)))) H
def qD (D : va_G) (cI : Nat → ClassId) (e0 : Nat) (A : Nat → Prop) (ad : Nat → Nat → Nat) (K M : KS) (ap o : Int64) (od : UInt64) (N : Nat) (rv : Option Value) (H : Heap) : Prop := ∃ q, rv = some (.ref q) ∧ HTd D cI e0 A ad K M ap o od N q H
set_option maxHeartbeats 4000000 in
theorem mtL_copyI {mc ms a N r : Nat} (hr1 : K 1 5 0 = nI r) (hN : r < N) (hN2 : N ≤ 65536) (h1 : 1 ≤ mc) (h2 : N ≤ ms) : CM l D cI e0 A yJ7_copyOf_59c91 cJ7_copyOf_59c91 3 (some (.array .int)) 1 60 mc ms [.ref a, .int (nI N)] (HTa D cI e0 A ad K M ap o od a) (qD D cI e0 A ad K M ap o od N) xN := by
  refine CM.of (by decide) (Nat.le_of_ble_eq_true rfl) (fun p e s m below meth c ls FX hw hS hl => ?_)
  obtain ⟨S, hg, hr, hlk, hnm, hout⟩ := FX
  have hl : lv_has ls 3 [(0, .ref a), (1, .int (nI N))] := hl
  obtain ⟨av, rfl, hw⟩ := hw
  have hrn : (K 1 5 0).toNatClampNeg = r := by rw [hr1]; exact nI_clamp (by omega)
  refine lv_iload_n S.1 S.2.1 dJ7_copyOf_59c91_0 rfl (lv_at hl 1 rfl) ?_
  refine lv_aload_n S.1 S.2.1 dJ7_copyOf_59c91_1 rfl (lv_at hl 0 rfl) ?_
  refine r_alen S hg hw (k := 11) (i := 0) rfl 0 rfl rfl dJ7_copyOf_59c91_2 ?_
  refine lv_icmp_ne (tgt := 14) S.1 S.2.1 dJ7_copyOf_59c91_3 (by decide) (fun c1 => ?_) (fun c1 => absurd (show nI N = nI (K 1 5 0).toNatClampNeg from c1) (by rw [hrn]; intro z; have := (nI_eq (by omega) (by omega)).mp z; omega))
  refine lv_iload_n S.1 S.2.1 dJ7_copyOf_59c91_14 rfl (lv_at hl 1 rfl) ?_
  refine r_inew S hg hS hw 30 0 (N := N) u88 (nI_pos (by omega)) (nI_clamp (by omega)) (by omega) (by show 0 + 1 ≤ mc; omega) (by show 0 + N ≤ ms; omega) dJ7_copyOf_59c91_15 (fun x H hw hS => ?_)
  refine lv_astore_n (lv' := [(2, .ref x), (0, .ref (av 11 0)), (1, .int (nI N))]) S.1 S.2.1 dJ7_copyOf_59c91_17 rfl hl (by decide) rfl (fun ls hl => ?_)
  refine lv_aload_n S.1 S.2.1 dJ7_copyOf_59c91_18 rfl (lv_at hl 1 rfl) ?_
  refine lv_iconst (v := 0) S.1 S.2.1 dJ7_copyOf_59c91_19 (by decide) ?_
  refine lv_aload_n S.1 S.2.1 dJ7_copyOf_59c91_20 rfl (lv_at hl 0 rfl) ?_
  refine lv_iconst (v := 0) S.1 S.2.1 dJ7_copyOf_59c91_21 (by decide) ?_
  refine lv_aload_n S.1 S.2.1 dJ7_copyOf_59c91_22 rfl (lv_at hl 1 rfl) ?_
  have ea : hU (adK ad av) 30 0 x 11 0 = av 11 0 := hU_n _ _ (by omega)
  have ex : hU (adK ad av) 30 0 x 30 0 = x := hU_s _ _ _ _
  have eg : hU (ctK cI e0 ad av K M ap o od) 30 0 (.inl (cI 0, N, .inl (fun _ => 0))) 11 0 = .inl (cI 0, (K 1 5 0).toNatClampNeg, .inl (K 11 0)) := hU_n _ _ (by omega)
  rw [← ea]
  refine r_alen S hg hw (k := 11) (i := 0) (Or.inl rfl) 0 rfl eg dJ7_copyOf_59c91_23 ?_
  refine lv_iload_n S.1 S.2.1 dJ7_copyOf_59c91_24 rfl (lv_at hl 2 rfl) ?_
  refine va_mmin S.1 S.2.1 (S.2.2.1.trans hl.1.symm) S.2.2.2.1 (S.2.2.2.2 _ u459) (S.2.2.2.2 _ u460) (S.2.2.2.2 _ u33) (S.2.2.2.2 _ u461) (Nat.le_of_ble_eq_true rfl) (Nat.le_of_ble_eq_true rfl) (by show 0 + 1 ≤ mc; omega) (by show 0 + N ≤ ms; omega) dJ7_copyOf_59c91_25 ?_
  rw [if_neg (by rw [hrn]; exact nI_nlt (by omega) (by omega))]
  have ex2 : (Value.ref x) = .ref (hU (adK ad av) 30 0 x 30 0) := by rw [ex]
  rw [ex2]
  obtain ⟨ids, i1, i2, i3⟩ := id hw
  obtain ⟨y, -, y2⟩ := hws_at (adr := hU (adK ad av) 30 0 x) (G := hU (ctK cI e0 ad av K M ap o od) 30 0 (.inl (cI 0, N, .inl (fun _ => 0)))) (i1 11 0 (Or.inl rfl))
  obtain ⟨z, z1, z2⟩ := hws_at (adr := hU (adK ad av) 30 0 x) (G := hU (ctK cI e0 ad av K M ap o od) 30 0 (.inl (cI 0, N, .inl (fun _ => 0)))) (i1 30 0 (Or.inr ⟨rfl, rfl⟩))
  rw [eg] at y2
  rw [hU_s] at z2
  rw [hU_s] at z2
  have z3 := z2
  rw [hU_s]
  refine va_copyi (rest := []) (sp := 0) (dp := 0) S.1 S.2.1 (S.2.2.1.trans hl.1.symm) S.2.2.2.1 (S.2.2.2.2 _ u462) (S.2.2.2.2 _ u464) (S.2.2.2.2 _ u463) (S.2.2.2.2 _ u46) hg.1 i2 i3 hS y z 0 0 y2 z2 rfl rfl rfl (by decide) (by decide) (nI_pos (by rw [hrn]; omega)) (by rw [tn0, nI_clamp (by rw [hrn]; omega)]; omega) (by rw [tn0, nI_clamp (by rw [hrn]; omega)]; omega) (fun _ _ => rfl) (Nat.le_of_ble_eq_true rfl) (by have := nfw; show 0 + _ ≤ 60; omega) dJ7_copyOf_59c91_28 (fun H locs hP hD hS => ?_)
  refine lv_aload_n S.1 S.2.1 dJ7_copyOf_59c91_31 rfl (lv_at hl 0 rfl) ?_
  refine r_aret (y := yJ7_copyOf_59c91) S hr (Or.inr ⟨_, rfl⟩) hlk hS (by omega) (by omega) dJ7_copyOf_59c91_32 ⟨x, rfl, av, ?_⟩
  rw [← ex] at hP hD
  refine (HW.set i3 i1 z1 (by rw [ex] at hP ⊢; exact hP) (by rw [ex] at hD ⊢; exact hD)).only (fun _ _ _ => rfl) (fun k i hli => ?_)
  rw [tn0, nI_clamp (by rw [hrn]; omega)]
  by_cases h30 : k = 30 ∧ i = 0
  · obtain ⟨rfl, rfl⟩ := h30
    rw [hU_s, hU_s]
  · rw [hU_n _ _ h30, hU_n _ _ h30, hU_n _ _ h30]
def eGrow (K : KS) (N : Nat) : KS := kr (k3 K 1 5 0 (nI N)) 11 0 (va_cpy (K 11 0) (fun _ => 0) 0 0 (K 1 5 0).toNatClampNeg)
/-- the ledger's row, twice as long -/
def okGrow (K : KS) (n : Int32) (N mc ms : Nat) : Prop := n = nI N ∧ ∃ r : Nat, K 1 5 0 = nI r ∧ r < N ∧ N ≤ 65536 ∧ 1 ≤ mc ∧ N ≤ ms
theorem e_grow {n : Int32} {N mc ms a : Nat} (S : CallFix p m c cX3_enter nL s args WU RX3) (hg : GI D cI e0 A s s.heap) (hS : va_S A s.heap H locs) (hw : HTa D cI e0 A ad K M ap o od a H) (hok : okGrow K n N mc ms) (hsz : ls.size = nL) (hR : 2 ≤ R.frames ∧ 82 ≤ R.locals) (hcs : cells + mc ≤ R.cells ∧ slots + ms ≤ R.slots) (hd : decode cX3_enter pc = .ok (.invokestatic 19, 3)) (hd2 : decode cX3_enter (pc + 3) = .ok (.putfield 9, 3))
    (kk : ∀ (H1 : Heap) (locs1 : List Loc), HT D cI e0 A ad (eGrow K N) M ap o od H1 → va_S A s.heap H1 locs1 → W p l e R s m args below meth c H1 locs1 (cells + mc) (slots + ms) Q (F0 m (pc + 3 + 3) ls [])) : W p l e R s m args below meth c H locs cells slots Q (F0 m pc ls [.int n, .ref a, .ref (ad 1 0)]) := by
  obtain ⟨rfl, r, h1, h2, h3, h4, h5⟩ := hok
  refine r_callS (rest := [.ref (ad 1 0)]) S hg hS (mtL_copyI (mc := mc) (ms := ms) h1 h2 h3 h4 h5) u471 u472 u45 u473 hdJ7_copyOf_59c91 hw ⟨hR.1, hR.2⟩ hcs hsz (Nat.le_of_ble_eq_true rfl) rfl hd (fun E ce q H1 locs1 hx hS1 hc1 hc2 hc3 => hx.elim) (fun rv H locs hq9 hS => ?_)
  obtain ⟨x, rfl, av, hw⟩ := hq9
  show W p l e _ s m _ below meth c H locs _ _ _ (F0 m (pc + 3) ls [.ref x, .ref (ad 1 0)])
  have e1 : hU (adK ad av) 30 0 x 1 0 = ad 1 0 := hU_n _ _ (by omega)
  rw [← e1]
  refine r_put S hg hS hw (k := 1) (i := 0) (Or.inl rfl) (ci := 6) (fs := [.ref (av 11 0), .int (K 1 1 0)]) (hU_n _ _ (by omega)) rfl iWX3 tyX3 tyX3_ok nmX3 0 (by decide) u95 rfl rfl rfl (Nat.le_of_ble_eq_true rfl) hd2 (fun H locs hw hS => kk H locs ⟨hU av 11 0 x, ?_⟩ hS)
  have f1 : ∀ z, ¬ z = 11 → ∀ b, ¬ (z = 1 ∧ b = 5) → eGrow K N z b = K z b := by
    intro z hz b hb
    unfold eGrow
    rw [kr_a _ _ hz]
    by_cases h : z = 1
    · subst h
      exact k3_b K _ (fun q => hb ⟨rfl, q⟩)
    · rw [k3_a K _ h]
  have f5 : eGrow K N 1 5 0 = nI N := by unfold eGrow; rw [kr_a _ _ (show ¬ 1 = 11 by decide), k3_s]
  have f11 : eGrow K N 11 0 = va_cpy (K 11 0) (fun _ => 0) 0 0 (K 1 5 0).toNatClampNeg := by unfold eGrow; rw [kr_s]
  have hlv : ∀ k i, lvK (eGrow K N) k i → lvK K k i := by
    intro k i h
    unfold lvK at h ⊢
    split at h <;> exact h
  refine HW.ren hw (k := 30) (i := 0) (k2 := 11) (i2 := 0) (Or.inr ⟨rfl, rfl⟩) ?_ ?_ ?_ ?_ ?_
  · intro k i h
    by_cases h11 : k = 11 ∧ i = 0
    · exact Or.inl h11
    · exact Or.inr ⟨Or.inl (hlv k i h), lvK_30 (hlv k i h), h11⟩
  · rw [hU_s]; exact hU_s _ _ _ _
  · rw [hU_n _ _ (by omega), hU_s]
    show Sum.inl (cI 0, (eGrow K N 1 5 0).toNatClampNeg, Sum.inl (eGrow K N 11 0)) = _
    rw [f5, f11, nI_clamp (by omega)]
  · intro k i h h11
    rw [hU_n _ _ (lvK_30 (hlv k i h))]
    unfold adK
    split
    · exact hU_n _ _ (by omega)
    · exact hU_n _ _ h11
    · rfl
  · intro k i h h11
    by_cases h1 : k = 1 ∧ i = 0
    · obtain ⟨rfl, rfl⟩ := h1
      rw [hU_s]
      show Sum.inr (6, [Value.ref (hU av 11 0 x 11 0), Value.int (eGrow K N 1 1 0)]) = _
      rw [hU_s, f1 1 (by decide) 1 (by omega)]
      rfl
    · rw [hU_n _ _ h1, hU_n _ _ (lvK_30 (hlv k i h))]
      have e9 : ∀ i, hU av 11 0 x 9 i = av 9 i := fun i => hU_n _ _ (by omega)
      by_cases hk1 : k = 1
      · subst hk1; exact absurd ⟨rfl, hlv _ _ h⟩ h1
      · by_cases hk11 : k = 11
        · subst hk11; exact absurd ⟨rfl, hlv _ _ h⟩ h11
        · unfold ctK
          split <;> first | rfl | (exact absurd rfl hk1) | (exact absurd rfl hk11) | (rw [e9]; rfl)
theorem s11 {a : Nat} (S : CallFix p m c cc nL s args WU own) (hg : GI D cI e0 A s s.heap) (hS : va_S A s.heap H locs) (hw : HTa D cI e0 A ad K M ap o od a H) {j x : Int32} (hj : vp_in j (K 1 5 0).toNatClampNeg) (hd : decode cc pc = .ok (.iastore, 1)) (kk : ∀ (H1 : Heap) (locs1 : List Loc), HT D cI e0 A ad (k3 K 11 0 j.toNatClampNeg x) M ap o od H1 → va_S A s.heap H1 locs1 → W p l e R s m args below meth c H1 locs1 cells slots Q (F0 m (pc + 1) ls rest)) : W p l e R s m args below meth c H locs cells slots Q (F0 m pc ls (.int x :: .int j :: .ref a :: rest)) := by
  obtain ⟨av, rfl, hw⟩ := hw
  refine r_iast S hg hS hw (k := 11) (i := 0) rfl rfl hj hd (fun H1 locs1 hw hS => kk H1 locs1 ⟨av, hw.same (fun _ _ h => h) (fun _ _ _ => rfl) (fun k i2 hl => ?_)⟩ hS)
  by_cases hc : k = 11 ∧ i2 = 0
  · obtain ⟨rfl, rfl⟩ := hc
    rw [hU_s]
    simp [ctK, k3_r, k3_a]
  · rw [hU_n _ _ hc]
    by_cases hk2 : k = 11
    · subst hk2
      exact absurd ⟨rfl, hl⟩ hc
    · unfold ctK
      split <;> first | rfl | (exact absurd rfl hk2)
end JDK
