/-! What always holds, out of what the Statement gives of the start. -/
theorem arrT_of {s : State} {ty : FieldType} {k : Class} {cA comp : ClassId} (h1 : s.vm.classes[cA]? = some k) (h2 : k.kind = .array comp ty) : ArrOfT s cA ty := fun n z => ⟨(fun k9 h => nomatch h), k, h1, comp, h2⟩
theorem gi_str {args : Array Value} {s : State} {own tx : String} {k : Nat} (h1 : (Cond.stringRef own k tx).before args s = true) (h2 : (Cond.exactly (.string own k) "java/lang/String").before args s = true) : ∃ a, vk_R own k tx a s := by
  obtain ⟨a, c, cell, kk, he, -⟩ := Cond.exactly_spec h2
  exact ⟨a, vk_R.of h1 he⟩
set_option maxHeartbeats 4000000 in
set_option maxRecDepth 100000 in
theorem gi_of {p : Program} {s : State} {m : MethodId} {meth : Method} {c : Code} {b L : Nat} {xs : Nat → Int32} (C0 : lw_At p s m meth c b L xs) : ∃ (D : va_G) (cI : Nat → ClassId) (e0 : Nat), GI D cI e0 (fun q => s.heap.size ≤ q) s s.heap := by
  obtain ⟨hx, hb, hr, hml, hown, hts, hX, hbl, hlocks, hgv⟩ := C0
  have hs := flat_of_before _ hgv
  have ht : ∀ w ∈ WU, w.before #[Value.ref b] s = true := fun w hw => hts w (List.mem_filter.mp hw).1
  have hA : ∀ a : Nat, a < s.heap.size → ¬ (fun q : Nat => s.heap.size ≤ q) a := fun a h => Nat.not_le.mpr h
  obtain ⟨c0, i0, hc0⟩ := u_known (C := RJ0) (T := TJ0) (N := 2) ht iWJ0 (ht _ u293)
  obtain ⟨c1, i1, hc1⟩ := u_known (C := RJx00060) (T := TJx00060) (N := 6) ht iWJx00060 (ht _ u220)
  obtain ⟨c2, i2, hc2⟩ := u_known (C := RJx4a65c) (T := TJx4a65c) (N := 3) ht iWJx4a65c (ht _ u63)
  obtain ⟨c3, i3, hc3⟩ := u_known (C := RX0) (T := TX0) (N := 2) ht iWX0 (ht _ u104)
  obtain ⟨c4, i4, hc4⟩ := u_known (C := RX1) (T := TX1) (N := 6) ht iWX1 (ht _ u376)
  obtain ⟨c5, i5, hc5⟩ := u_known (C := RX2) (T := TX2) (N := 11) ht iWX2 (ht _ u538)
  obtain ⟨c6, i6, hc6⟩ := u_known (C := RX3) (T := TX3) (N := 2) ht iWX3 (ht _ u90)
  obtain ⟨c7, i7, hc7⟩ := u_known (C := RX4) (T := TX4) (N := 6) ht iWX4 (ht _ u871)
  obtain ⟨c8, i8, hc8⟩ := u_known (C := RX5) (T := TX5) (N := 4) ht iWX5 (ht _ u546)
  obtain ⟨c9, i9, hc9⟩ := u_known (C := RX6) (T := TX6) (N := 12) ht iWX6 (ht _ u55)
  obtain ⟨dC, dI, hKc⟩ : ∃ (dC : Nat → ClassId) (dI : Nat → Nat → Nat), ∀ (k : Nat) (q : vw_C), vwCl[k]? = some q → u_Kn s q.1 q.2.1 q.2.2 (dC k) (dI k) := by
    refine ⟨fun k => if k = 0 then c0 else if k = 1 then c1 else if k = 2 then c2 else if k = 3 then c3 else if k = 4 then c4 else if k = 5 then c5 else if k = 6 then c6 else if k = 7 then c7 else if k = 8 then c8 else c9, fun k => if k = 0 then i0 else if k = 1 then i1 else if k = 2 then i2 else if k = 3 then i3 else if k = 4 then i4 else if k = 5 then i5 else if k = 6 then i6 else if k = 7 then i7 else if k = 8 then i8 else i9, ?_⟩
    intro k q hq
    match k, hq with
    | 0, hq => cases hq; exact hc0
    | 1, hq => cases hq; exact hc1
    | 2, hq => cases hq; exact hc2
    | 3, hq => cases hq; exact hc3
    | 4, hq => cases hq; exact hc4
    | 5, hq => cases hq; exact hc5
    | 6, hq => cases hq; exact hc6
    | 7, hq => cases hq; exact hc7
    | 8, hq => cases hq; exact hc8
    | 9, hq => cases hq; exact hc9
    | k + 10, hq => simp [vwCl] at hq
  obtain ⟨a0, k0, d0, f0, g0, l0⟩ := Cond.arrayClass_spec (ht (.arrayClass .int) (by decide +kernel))
  obtain ⟨d2, a2, k2, f2, -, g2, l2, j2⟩ := Cond.arrayOver_spec (hts (.arrayOver (.object "java/lang/Object")) (by decide +kernel))
  obtain ⟨d3, a3, k3, f3, g3, l3, j3⟩ := Cond.arrayOver_specA (hts (.arrayOver (.array .int)) (by decide +kernel))
  obtain ⟨mi, hmi⟩ := va_Mi.of (C := "[Ljava/lang/Object;") (hs _ (by decide +kernel))
  have harr : (Cond.arrayOf (.static "java/util/ArrayList" "DEFAULTCAPACITY_EMPTY_ELEMENTDATA" "[Ljava/lang/Object;") (.object "java/lang/Object")).before #[Value.ref b] s = true := hs _ (by decide +kernel)
  have hle0 : (Cond.eq (.length (.static "java/util/ArrayList" "DEFAULTCAPACITY_EMPTY_ELEMENTDATA" "[Ljava/lang/Object;")) (.int 0)).before #[Value.ref b] s = true := hs _ (by decide +kernel)
  have hlen : (Term.length (.static "java/util/ArrayList" "DEFAULTCAPACITY_EMPTY_ELEMENTDATA" "[Ljava/lang/Object;")).eval #[Value.ref b] s none [] s = some (.int (Int32.ofNat 0)) := by
    have h9 : (Cond.eq (.length (.static "java/util/ArrayList" "DEFAULTCAPACITY_EMPTY_ELEMENTDATA" "[Ljava/lang/Object;")) (.int 0)).holds #[Value.ref b] s none s [] = true := hle0
    revert h9
    simp only [Cond.holds, Cond.value]
    cases hv : (Term.length (.static "java/util/ArrayList" "DEFAULTCAPACITY_EMPTY_ELEMENTDATA" "[Ljava/lang/Object;")).eval #[Value.ref b] s none [] s with
    | none => simp [hv]
    | some v =>
      intro h9
      cases v <;> simp [Term.eval] at h9
      rw [h9]
      rfl
  obtain ⟨e0, he0, hT⟩ := va_Tof (N := 0) (f := fun _ => .null) (A := fun q => s.heap.size ≤ q) (by decide) harr hlen (fun j hj => absurd hj (Nat.not_lt_zero j)) hA
  have hZ := va_Zof (A := fun q => s.heap.size ≤ q) (hts (.laysStatic "java/util/ArrayList" "DEFAULTCAPACITY_EMPTY_ELEMENTDATA" "[Ljava/lang/Object;") (by decide +kernel)) (hts (.initialized "java/util/ArrayList") (by decide +kernel)) he0 hA
  have hz1 := vx_Zqof (A := fun q => s.heap.size ≤ q) (hts (.laysStatic Bundle.tN "UNASSIGNED_STACK" Bundle.steD) (by decide +kernel)) (hts (.initialized Bundle.tN) (by decide +kernel)) (hs (.isRef (.static Bundle.tN "UNASSIGNED_STACK" Bundle.steD)) (by decide +kernel)) hA
  have hz2 := vx_Zqof (A := fun q => s.heap.size ≤ q) (hts (.laysStatic Bundle.tN "SUPPRESSED_SENTINEL" Bundle.listD) (by decide +kernel)) (hts (.initialized Bundle.tN) (by decide +kernel)) (hs (.isRef (.static Bundle.tN "SUPPRESSED_SENTINEL" Bundle.listD)) (by decide +kernel)) hA
  have hstr : ∀ q ∈ gStr, ∃ a, vk_R q.1 q.2.1 q.2.2 a s := by
    have w1 : ∀ q ∈ gStr, Cond.stringRef q.1 q.2.1 q.2.2 ∈ lw_tbl := by decide +kernel
    have w2 : ∀ q ∈ gStr, Cond.exactly (.string q.1 q.2.1) "java/lang/String" ∈ flatC (Jvm.Cond.and given_1 narrow_1) := by decide +kernel
    exact fun q hq => gi_str (hts _ (w1 q hq)) (hs _ (w2 q hq))
  have hca : ∀ q ∈ gCa, va_Nw (.castable q.1 q.2) s := by
    have w1 : ∀ q ∈ gCa, Cond.castable q.1 q.2 ∈ lw_tbl := by decide +kernel
    exact fun q hq => va_Nw.of rfl (hts _ (w1 q hq))
  have hdc : ∀ q ∈ gDc, va_Nw (.declares q) s := by
    have w1 : ∀ q ∈ gDc, Cond.declares q ∈ lw_tbl := by decide +kernel
    exact fun q hq => va_Nw.of rfl (hts _ (w1 q hq))
  have hnc : ∀ q ∈ gNc, va_Nc q.1 q.2 s := by
    have w2 : ∀ q ∈ gNc, Cond.not (.castable q.1 q.2) ∈ flatC (Jvm.Cond.and given_1 narrow_1) := by decide +kernel
    exact fun q hq => va_Nc.of (hs _ (w2 q hq))
  have hK : va_K (dC, dI) vwCl (tysOf (fun k => if k = 0 then a0 else if k = 1 then a0 else if k = 2 then a2 else if k = 3 then a3 else if k = 4 then a0 else if k = 5 then a0 else mi)) s := by
    refine ⟨hKc, fun k q hq => ?_⟩
    match k, hq with
    | 0, hq => cases hq; exact ⟨arrT_of g0 l0, f0⟩
    | 1, hq => cases hq; exact ⟨arrT_of g0 l0, f0⟩
    | 2, hq => cases hq; exact ⟨arrT_of g2 l2, k2, d2, g2, l2, f2, j2⟩
    | 3, hq => cases hq; exact ⟨arrT_of g3 l3, j3⟩
    | 4, hq => cases hq; exact ⟨arrT_of g0 l0, f0⟩
    | 5, hq => cases hq; exact ⟨arrT_of g0 l0, f0⟩
    | k + 6, hq => simp [tysOf] at hq
  exact ⟨(dC, dI), _, e0, hK, ⟨hZ, hT⟩, ⟨hz1, hz2⟩, hstr, ⟨hca, hdc⟩, hnc, ⟨hmi, va_Dc.of (hts _ (by decide +kernel))⟩, ⟨va_Nw.of rfl (hts _ (by decide +kernel)), va_Nw.of rfl (hts _ (by decide +kernel))⟩, ⟨va_AO.of (hts _ (by decide +kernel)), va_AOA.of (hts _ (by decide +kernel))⟩, fun q h => h⟩
