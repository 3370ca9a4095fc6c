/-! The law's cell: some number of the script, or one that is computed. -/
section CELL
variable {p : Program} {l : Launch} {e : Env} {R : Room} {s : State} {m : MethodId} {args : Array Value} {below : List Frame} {meth : Method} {c : Code} {H : Heap} {locs : List Loc} {cells slots : Nat} {Q : State → Prop}
variable {D : va_G} {cI : Nat → ClassId} {e0 : Nat} {A : Nat → Prop} {ad av : Nat → Nat → Nat} {K M : KS} {ap o : Int64} {od : UInt64}
variable {cc : ByteArray} {nL pc : Nat} {ls : Array Slot} {rest : List Value} {own : String} {index : Nat}
theorem dL_cell_0 : decode cL_cell 0 = .ok (.iload_n 1, 1) := by decide +kernel
theorem dL_cell_1 : decode cL_cell 1 = .ok (.aload_n 0, 1) := by decide +kernel
theorem dL_cell_2 : decode cL_cell 2 = .ok (.arraylength, 1) := by decide +kernel
theorem dL_cell_3 : decode cL_cell 3 = .ok (.if_icmp .ge 9, 3) := by decide +kernel
theorem dL_cell_6 : decode cL_cell 6 = .ok (.aload_n 0, 1) := by decide +kernel
theorem dL_cell_7 : decode cL_cell 7 = .ok (.iload_n 1, 1) := by decide +kernel
theorem dL_cell_8 : decode cL_cell 8 = .ok (.iaload, 1) := by decide +kernel
theorem dL_cell_9 : decode cL_cell 9 = .ok (.goto 10, 3) := by decide +kernel
theorem dL_cell_12 : decode cL_cell 12 = .ok (.ldc 7, 2) := by decide +kernel
theorem dL_cell_14 : decode cL_cell 14 = .ok (.iload_n 1, 1) := by decide +kernel
theorem dL_cell_15 : decode cL_cell 15 = .ok (.imul, 1) := by decide +kernel
theorem dL_cell_16 : decode cL_cell 16 = .ok (.bipush 29, 2) := by decide +kernel
theorem dL_cell_18 : decode cL_cell 18 = .ok (.iadd, 1) := by decide +kernel
theorem dL_cell_19 : decode cL_cell 19 = .ok (.ireturn, 1) := by decide +kernel
theorem hdL_cell : yL_cell.cls ≠ "java/lang/invoke/MethodHandle" ∧ yL_cell.cls ≠ "java/lang/invoke/VarHandle" ∧ (parseMethodDescriptor yL_cell.desc).map (fun d => d.parameters.length) = some 2 := by decide +kernel
def xB (b L : Nat) (xs : Nat → Int32) (A : Nat → Prop) (U : State) : Prop := va_X b L xs U U.heap ∧ b < U.heap.size ∧ ¬ A b
set_option maxHeartbeats 4000000 in
theorem mtL_cell {b L j : Nat} {xs : Nat → Int32} {P : Heap → Prop} (hj : j < 2 ^ 30) (hL : L < 2 ^ 30) : vx_Met l yL_cell (Cond.code yL_cell cL_cell 2 (some .int) :: WU) ({ frames := 0, cells := 0, slots := 0, locals := 0 }) (va_Pc [.ref b, .int (nI j)] (fun U => (GI D cI e0 A U U.heap ∧ P U.heap) ∧ xB b L xs A U)) (fun _ st oc t => (∃ r, oc = .returned r ∧ ∃ v, r = some (.int v) ∧ P t.heap) ∧ va_F A st t) (fun E st t => xN E t.heap ∧ va_F A st t) 0 0 A := by
  refine vx_ofW (cc := cL_cell) (maxL := 2) (ret := some .int) (by decide) rfl ?_
  intro p e s m args below meth c s₁ B hml hout hv
  obtain ⟨rfl, ⟨hg, hP⟩, hX, hbl, hbA⟩ := hv
  have hts := atoms_spec (ws := Cond.code yL_cell cL_cell 2 (some .int) :: WU) B.pre
  rw [lg_entry_eq]
  have S : CallFix p m c cL_cell 2 s #[.ref b, .int (nI j)] WU RL := ⟨B.exec, B.bytes, hml, findClass_of_methodNamed B.named, fun w hw => hts w (List.mem_cons_of_mem _ hw)⟩
  have key : ∀ ls : Array Slot, lv_has ls 2 (lv_args 0 [Value.ref b, .int (nI j)]) → W p l e ({ frames := 0, cells := 0, slots := 0, locals := 0 }) s m #[.ref b, .int (nI j)] below meth c s.heap [] 0 0 (vx_MQ below (fun _ st oc t => (∃ r, oc = .returned r ∧ ∃ v, r = some (.int v) ∧ P t.heap) ∧ va_F A st t) (fun E st t => xN E t.heap ∧ va_F A st t) #[.ref b, .int (nI j)] s 0 0 A) (F0 m 0 ls []) := by
    intro ls hl
    have hl : lv_has ls 2 [(0, .ref b), (1, .int (nI j))] := hl
    have hS : va_S A s.heap s.heap [] := va_S.rf
    have hr := B.returns
    have hlk := B.notSynchronized
    refine lv_iload_n S.1 S.2.1 dL_cell_0 rfl (lv_at hl 1 rfl) ?_
    refine lv_aload_n S.1 S.2.1 dL_cell_1 rfl (lv_at hl 0 rfl) ?_
    refine va_slen S.1 S.2.1 hX hbl hbA hS dL_cell_2 ?_
    refine lv_icmp_ge (tgt := 12) S.1 S.2.1 dL_cell_3 (by decide) (fun c1 => ?_) (fun c1 => ?_)
    · refine lv_ldc S.1 S.2.1 S.2.2.2.1 (S.2.2.2.2 _ u211) dL_cell_12 ?_
      refine lv_iload_n S.1 S.2.1 dL_cell_14 rfl (lv_at hl 1 rfl) ?_
      refine lv_imul S.1 S.2.1 dL_cell_15 ?_
      refine lv_bipush (v := 29) S.1 S.2.1 dL_cell_16 (by decide) ?_
      refine lv_iadd S.1 S.2.1 dL_cell_18 ?_
      exact r_iret (y := yL_cell) (QQ := fun r H => ∃ v, r = some (.int v) ∧ P H) S hr rfl hlk hS (Nat.le_refl _) (Nat.le_refl _) dL_cell_19 ⟨_, rfl, hP⟩
    · refine lv_aload_n S.1 S.2.1 dL_cell_6 rfl (lv_at hl 0 rfl) ?_
      refine lv_iload_n S.1 S.2.1 dL_cell_7 rfl (lv_at hl 1 rfl) ?_
      have hlt : j < L := by
        have c2 := Int32.not_le.mp c1
        rw [show Int32.ofNat L = nI L from rfl] at c2
        exact (nI_ltI (by omega) (by omega)).mp c2
      refine va_sld S.1 S.2.1 hX hbl hbA hS (vp_in_nI hlt (by omega)) dL_cell_8 ?_
      refine lv_goto (tgt := 19) S.1 S.2.1 dL_cell_9 (by decide) ?_
      exact r_iret (y := yL_cell) (QQ := fun r H => ∃ v, r = some (.int v) ∧ P H) S hr rfl hlk hS (Nat.le_refl _) (Nat.le_refl _) dL_cell_19 ⟨_, rfl, hP⟩
  exact key _ (lv_entry _ (Nat.le_of_ble_eq_true rfl))
theorem r_cell {b L : Nat} {xs : Nat → Int32} {j : Nat} {x : Int32} {P : Heap → Prop} (S : CallFix p m c cc nL s args WU own) (hg : GI D cI e0 A s s.heap) (hS : va_S A s.heap H locs) (hX : va_X b L xs s s.heap) (hbl : b < s.heap.size) (hbA : ¬ A b) (hj : x = nI j ∧ j < 2 ^ 30) (hL : L < 2 ^ 30)
    (k1 : Cond.methodLink own index yL_cell ∈ WU) (hP : P H) (hR : 1 ≤ R.frames ∧ 30 ≤ R.locals) (hcs : cells ≤ R.cells ∧ slots ≤ R.slots)
    (hsize : ls.size = nL) (hrest : (rest.map fun v => v.category).sum ≤ 8) (hdg : decode cc pc = .ok (.invokestatic index, 3))
    (kk : ∀ (v : Int32) (H1 : Heap) (locs1 : List Loc), P H1 → va_S A s.heap H1 locs1 → W p l e R s m args below meth c H1 locs1 cells slots Q (F0 m (pc + 3) ls (.int v :: rest))) : W p l e R s m args below meth c H locs cells slots Q (F0 m pc ls (.int x :: .ref b :: rest)) := by
  obtain ⟨rfl, hj⟩ := hj
  have hM := mtL_cell (l := l) (D := D) (cI := cI) (e0 := e0) (A := A) (b := b) (xs := xs) (P := P) hj hL
  have hcw : CallB R s args own index yL_cell cL_cell 2 (some .int) (Cond.code yL_cell cL_cell 2 (some .int) :: WU) ({ frames := 0, cells := 0, slots := 0, locals := 0 }) 0 0 2 ∧ (Cond.static yL_cell).before args s = true := by
    have ht := S.2.2.2.2
    have hgood : ∀ w ∈ Cond.code yL_cell cL_cell 2 (some .int) :: WU, ∀ (a' : Array Value) (U : State), s.WarmedH U.vm → w.before a' U = true := by
      intro w hw a' U hW
      have hw2 : w ∈ WU := by
        rcases List.mem_cons.mp hw with rfl | h
        · exact u210
        · exact h
      exact word_at hW (good_of_word (WU_good w hw2)) (ht w hw2)
    exact ⟨⟨rfl, rfl, hR.1, (by show 8 + (2 + 11) + 0 ≤ _; exact Nat.le_trans (by decide) hR.2), hgood, List.mem_cons_self, ht _ u210, ht _ u26, ⟨hdL_cell.1, hdL_cell.2.1⟩, (fun sig h => by have h2 := hdL_cell.2.2; rw [h] at h2; exact (Option.some.inj h2).symm), ht _ k1⟩, ht _ u209⟩
  have hb : FrameBlind (va_Pc [Value.ref b, .int (nI j)] (fun U => (GI D cI e0 A U U.heap ∧ P U.heap) ∧ xB b L xs A U)) := fun a U g mk h => ⟨h.1, ⟨h.2.1.1.mv (State.WarmedH.refl U) (Nat.le_refl _) (fun _ _ _ => rfl), h.2.1.2⟩, h.2.2.1.moved (State.WarmedH.refl U).alike, h.2.2.2⟩
  have hrun := vx_runS (e := e) (meth := meth) (below := below) (locs := locs) (cells := cells) (slots := slots) (g := F0 m pc ls (.int (nI j) :: .ref b :: rest)) S hM hcw ⟨hb, fun U hU hW => ⟨rfl, ⟨hg.at hS hU hW, by rw [hU]; exact hP⟩, (hX.moved hW.alike).kept (by rw [hU]; exact hS.2.1 b hbl hbA), by rw [hU]; exact Nat.lt_of_lt_of_le hbl hS.1, hbA⟩⟩ rfl rfl hsize rfl (lv_room hrest) hdg hcs
  intro T hT X
  rcases hrun T hT X with ⟨v, st₀, t, T', L2, h0, X', hL2, e1, e2, ⟨⟨r, hv, w, hw, hq⟩, hF⟩, st⟩ | ⟨q, st₀, t, T', L2, E, ce, h0, X', hL2, e1, e2, ⟨hx, hF⟩, hce, hcv, hcl, st⟩
  · cases hv
    subst hw
    obtain ⟨q1, q2, q3⟩ := vx_keep h0 e1 hS (fun _ _ h => h) (fun _ h => h) hL2 hF
    obtain ⟨t2, a1, b1⟩ := kk w T'.heap (locs ++ L2) (by rw [e1]; exact hq) q3 T' rfl X'
    exact ⟨t2, st t2 a1, b1⟩
  · exact hx.elim
end CELL

theorem dL_low_0 : decode cL_low 0 = .ok (.iload_n 0, 1) := by decide +kernel
theorem dL_low_1 : decode cL_low 1 = .ok (.ldc 8, 2) := by decide +kernel
theorem dL_low_3 : decode cL_low 3 = .ok (.iand, 1) := by decide +kernel
theorem dL_low_4 : decode cL_low 4 = .ok (.iload_n 1, 1) := by decide +kernel
theorem dL_low_5 : decode cL_low 5 = .ok (.irem, 1) := by decide +kernel
theorem dL_low_6 : decode cL_low 6 = .ok (.ireturn, 1) := by decide +kernel
def wpL_low (post : Int32 → Prop) (K : KS) (p1 : Int32) (p2 : Int32) : Prop := (¬ p2 = 0) ∧ (post ((p1 &&& 2147483647) - (p1 &&& 2147483647) / p2 * p2))
theorem hdL_low : yL_low.cls ≠ "java/lang/invoke/MethodHandle" ∧ yL_low.cls ≠ "java/lang/invoke/VarHandle" ∧ (parseMethodDescriptor yL_low.desc).map (fun d => d.parameters.length) = some 2 := by decide +kernel
set_option maxHeartbeats 4000000 in
set_option maxRecDepth 100000 in
theorem mtL_low {l : Launch} {D : va_G} {cI : Nat → ClassId} {e0 : Nat} {A : Nat → Prop} {ad : Nat → Nat → Nat} {K M : KS} {ap o : Int64} {od : UInt64} {mc ms : Nat} {p1 : Int32} {p2 : Int32} {post : Int32 → Prop} (h : wpL_low post K p1 p2) : CM l D cI e0 A yL_low cL_low 2 (some FieldType.int) 0 0 mc ms [.int p1, .int p2] (HT D cI e0 A ad K M ap o od) (qP D cI e0 A ad K M ap o od rI post) xN := by
  refine CM.of (by decide) (Nat.le_of_ble_eq_true rfl) (fun p e s m below meth c ls FX hw hS hl => ?_)
  obtain ⟨S, hg, hr, hlk, hnm, hout⟩ := FX
  have hl : lv_has ls 2 [(0, .int p1), (1, .int p2)] := hl
  unfold wpL_low at h
  refine lv_iload_n S.1 S.2.1 dL_low_0 rfl (lv_at hl 0 rfl) ?_
  refine lv_ldc S.1 S.2.1 S.2.2.2.1 (S.2.2.2.2 _ u215) dL_low_1 ?_
  refine lv_iand S.1 S.2.1 dL_low_3 ?_
  refine lv_iload_n S.1 S.2.1 dL_low_4 rfl (lv_at hl 1 rfl) ?_
  obtain ⟨g1, h⟩ := h
  refine lv_irem S.1 S.2.1 dL_low_5 g1 ?_
  exact r_iret (y := yL_low) S hr rfl hlk hS (by omega) (by omega) dL_low_6 ⟨((p1 &&& 2147483647) - (p1 &&& 2147483647) / p2 * p2), rfl, h, hw⟩

theorem dL_state_0 : decode cL_state 0 = .ok (.ldc2_w 107, 3) := by decide +kernel
theorem dL_state_3 : decode cL_state 3 = .ok (.lstore 5, 2) := by decide +kernel
theorem dL_state_5 : decode cL_state 5 = .ok (.iconst 0, 1) := by decide +kernel
theorem dL_state_6 : decode cL_state 6 = .ok (.istore 7, 2) := by decide +kernel
theorem dL_state_8 : decode cL_state 8 = .ok (.iload 7, 2) := by decide +kernel
theorem dL_state_10 : decode cL_state 10 = .ok (.iload_n 1, 1) := by decide +kernel
theorem dL_state_11 : decode cL_state 11 = .ok (.if_icmp .ge 44, 3) := by decide +kernel
theorem dL_state_14 : decode cL_state 14 = .ok (.ldc2_w 109, 3) := by decide +kernel
theorem dL_state_17 : decode cL_state 17 = .ok (.ldc2_w 109, 3) := by decide +kernel
theorem dL_state_20 : decode cL_state 20 = .ok (.lload 5, 2) := by decide +kernel
theorem dL_state_22 : decode cL_state 22 = .ok (.lmul, 1) := by decide +kernel
theorem dL_state_23 : decode cL_state 23 = .ok (.aload_n 0, 1) := by decide +kernel
theorem dL_state_24 : decode cL_state 24 = .ok (.bipush 6, 2) := by decide +kernel
theorem dL_state_26 : decode cL_state 26 = .ok (.iload 7, 2) := by decide +kernel
theorem dL_state_28 : decode cL_state 28 = .ok (.iconst 0, 1) := by decide +kernel
theorem dL_state_29 : decode cL_state 29 = .ok (.iconst 0, 1) := by decide +kernel
theorem dL_state_30 : decode cL_state 30 = .ok (.invokestatic 111, 3) := by decide +kernel
theorem dL_state_33 : decode cL_state 33 = .ok (.i2l, 1) := by decide +kernel
theorem dL_state_34 : decode cL_state 34 = .ok (.ladd, 1) := by decide +kernel
theorem dL_state_35 : decode cL_state 35 = .ok (.lmul, 1) := by decide +kernel
theorem dL_state_36 : decode cL_state 36 = .ok (.aload_n 0, 1) := by decide +kernel
theorem dL_state_37 : decode cL_state 37 = .ok (.iconst 5, 1) := by decide +kernel
theorem dL_state_38 : decode cL_state 38 = .ok (.iload 7, 2) := by decide +kernel
theorem dL_state_40 : decode cL_state 40 = .ok (.iconst 0, 1) := by decide +kernel
theorem dL_state_41 : decode cL_state 41 = .ok (.iconst 0, 1) := by decide +kernel
theorem dL_state_42 : decode cL_state 42 = .ok (.invokestatic 111, 3) := by decide +kernel
theorem dL_state_45 : decode cL_state 45 = .ok (.i2l, 1) := by decide +kernel
theorem dL_state_46 : decode cL_state 46 = .ok (.ladd, 1) := by decide +kernel
theorem dL_state_47 : decode cL_state 47 = .ok (.lstore 5, 2) := by decide +kernel
theorem dL_state_49 : decode cL_state 49 = .ok (.iinc 7 1, 3) := by decide +kernel
theorem dL_state_52 : decode cL_state 52 = .ok (.goto (-44), 3) := by decide +kernel
theorem dL_state_55 : decode cL_state 55 = .ok (.iconst 0, 1) := by decide +kernel
theorem dL_state_56 : decode cL_state 56 = .ok (.istore 7, 2) := by decide +kernel
theorem dL_state_58 : decode cL_state 58 = .ok (.iload 7, 2) := by decide +kernel
theorem dL_state_60 : decode cL_state 60 = .ok (.iload_n 2, 1) := by decide +kernel
theorem dL_state_61 : decode cL_state 61 = .ok (.if_icmp .ge 43, 3) := by decide +kernel
theorem dL_state_64 : decode cL_state 64 = .ok (.ldc2_w 109, 3) := by decide +kernel
theorem dL_state_67 : decode cL_state 67 = .ok (.ldc2_w 109, 3) := by decide +kernel
theorem dL_state_70 : decode cL_state 70 = .ok (.lload 5, 2) := by decide +kernel
theorem dL_state_72 : decode cL_state 72 = .ok (.lmul, 1) := by decide +kernel
theorem dL_state_73 : decode cL_state 73 = .ok (.aload_n 0, 1) := by decide +kernel
theorem dL_state_74 : decode cL_state 74 = .ok (.iconst 2, 1) := by decide +kernel
theorem dL_state_75 : decode cL_state 75 = .ok (.iload 7, 2) := by decide +kernel
theorem dL_state_77 : decode cL_state 77 = .ok (.iconst 0, 1) := by decide +kernel
theorem dL_state_78 : decode cL_state 78 = .ok (.iconst 0, 1) := by decide +kernel
theorem dL_state_79 : decode cL_state 79 = .ok (.invokestatic 111, 3) := by decide +kernel
theorem dL_state_82 : decode cL_state 82 = .ok (.i2l, 1) := by decide +kernel
theorem dL_state_83 : decode cL_state 83 = .ok (.ladd, 1) := by decide +kernel
theorem dL_state_84 : decode cL_state 84 = .ok (.lmul, 1) := by decide +kernel
theorem dL_state_85 : decode cL_state 85 = .ok (.aload_n 0, 1) := by decide +kernel
theorem dL_state_86 : decode cL_state 86 = .ok (.iconst 4, 1) := by decide +kernel
theorem dL_state_87 : decode cL_state 87 = .ok (.iload 7, 2) := by decide +kernel
theorem dL_state_89 : decode cL_state 89 = .ok (.iconst 0, 1) := by decide +kernel
theorem dL_state_90 : decode cL_state 90 = .ok (.iconst 0, 1) := by decide +kernel
theorem dL_state_91 : decode cL_state 91 = .ok (.invokestatic 111, 3) := by decide +kernel
theorem dL_state_94 : decode cL_state 94 = .ok (.i2l, 1) := by decide +kernel
theorem dL_state_95 : decode cL_state 95 = .ok (.ladd, 1) := by decide +kernel
theorem dL_state_96 : decode cL_state 96 = .ok (.lstore 5, 2) := by decide +kernel
theorem dL_state_98 : decode cL_state 98 = .ok (.iinc 7 1, 3) := by decide +kernel
theorem dL_state_101 : decode cL_state 101 = .ok (.goto (-43), 3) := by decide +kernel
theorem dL_state_104 : decode cL_state 104 = .ok (.iconst 0, 1) := by decide +kernel
theorem dL_state_105 : decode cL_state 105 = .ok (.istore 7, 2) := by decide +kernel
theorem dL_state_107 : decode cL_state 107 = .ok (.iload 7, 2) := by decide +kernel
theorem dL_state_109 : decode cL_state 109 = .ok (.iload_n 3, 1) := by decide +kernel
theorem dL_state_110 : decode cL_state 110 = .ok (.if_icmp .ge 113, 3) := by decide +kernel
theorem dL_state_113 : decode cL_state 113 = .ok (.ldc2_w 109, 3) := by decide +kernel
theorem dL_state_116 : decode cL_state 116 = .ok (.ldc2_w 109, 3) := by decide +kernel
theorem dL_state_119 : decode cL_state 119 = .ok (.ldc2_w 109, 3) := by decide +kernel
theorem dL_state_122 : decode cL_state 122 = .ok (.lload 5, 2) := by decide +kernel
theorem dL_state_124 : decode cL_state 124 = .ok (.lmul, 1) := by decide +kernel
theorem dL_state_125 : decode cL_state 125 = .ok (.aload_n 0, 1) := by decide +kernel
theorem dL_state_126 : decode cL_state 126 = .ok (.bipush 13, 2) := by decide +kernel
theorem dL_state_128 : decode cL_state 128 = .ok (.iload 7, 2) := by decide +kernel
theorem dL_state_130 : decode cL_state 130 = .ok (.iconst 0, 1) := by decide +kernel
theorem dL_state_131 : decode cL_state 131 = .ok (.iconst 0, 1) := by decide +kernel
theorem dL_state_132 : decode cL_state 132 = .ok (.invokestatic 111, 3) := by decide +kernel
theorem dL_state_135 : decode cL_state 135 = .ok (.i2l, 1) := by decide +kernel
theorem dL_state_136 : decode cL_state 136 = .ok (.ladd, 1) := by decide +kernel
theorem dL_state_137 : decode cL_state 137 = .ok (.lmul, 1) := by decide +kernel
theorem dL_state_138 : decode cL_state 138 = .ok (.aload_n 0, 1) := by decide +kernel
theorem dL_state_139 : decode cL_state 139 = .ok (.bipush 14, 2) := by decide +kernel
theorem dL_state_141 : decode cL_state 141 = .ok (.iload 7, 2) := by decide +kernel
theorem dL_state_143 : decode cL_state 143 = .ok (.iconst 0, 1) := by decide +kernel
theorem dL_state_144 : decode cL_state 144 = .ok (.iconst 0, 1) := by decide +kernel
theorem dL_state_145 : decode cL_state 145 = .ok (.invokestatic 111, 3) := by decide +kernel
theorem dL_state_148 : decode cL_state 148 = .ok (.i2l, 1) := by decide +kernel
theorem dL_state_149 : decode cL_state 149 = .ok (.ladd, 1) := by decide +kernel
theorem dL_state_150 : decode cL_state 150 = .ok (.lmul, 1) := by decide +kernel
theorem dL_state_151 : decode cL_state 151 = .ok (.aload_n 0, 1) := by decide +kernel
theorem dL_state_152 : decode cL_state 152 = .ok (.bipush 14, 2) := by decide +kernel
theorem dL_state_154 : decode cL_state 154 = .ok (.iload 7, 2) := by decide +kernel
theorem dL_state_156 : decode cL_state 156 = .ok (.iconst 1, 1) := by decide +kernel
theorem dL_state_157 : decode cL_state 157 = .ok (.iconst 0, 1) := by decide +kernel
theorem dL_state_158 : decode cL_state 158 = .ok (.invokestatic 111, 3) := by decide +kernel
theorem dL_state_161 : decode cL_state 161 = .ok (.i2l, 1) := by decide +kernel
theorem dL_state_162 : decode cL_state 162 = .ok (.ladd, 1) := by decide +kernel
theorem dL_state_163 : decode cL_state 163 = .ok (.lstore 5, 2) := by decide +kernel
theorem dL_state_165 : decode cL_state 165 = .ok (.ldc2_w 109, 3) := by decide +kernel
theorem dL_state_168 : decode cL_state 168 = .ok (.ldc2_w 109, 3) := by decide +kernel
theorem dL_state_171 : decode cL_state 171 = .ok (.ldc2_w 109, 3) := by decide +kernel
theorem dL_state_174 : decode cL_state 174 = .ok (.lload 5, 2) := by decide +kernel
theorem dL_state_176 : decode cL_state 176 = .ok (.lmul, 1) := by decide +kernel
theorem dL_state_177 : decode cL_state 177 = .ok (.aload_n 0, 1) := by decide +kernel
theorem dL_state_178 : decode cL_state 178 = .ok (.bipush 15, 2) := by decide +kernel
theorem dL_state_180 : decode cL_state 180 = .ok (.iload 7, 2) := by decide +kernel
theorem dL_state_182 : decode cL_state 182 = .ok (.iconst 0, 1) := by decide +kernel
theorem dL_state_183 : decode cL_state 183 = .ok (.iconst 0, 1) := by decide +kernel
theorem dL_state_184 : decode cL_state 184 = .ok (.invokestatic 111, 3) := by decide +kernel
theorem dL_state_187 : decode cL_state 187 = .ok (.i2l, 1) := by decide +kernel
theorem dL_state_188 : decode cL_state 188 = .ok (.ladd, 1) := by decide +kernel
theorem dL_state_189 : decode cL_state 189 = .ok (.lmul, 1) := by decide +kernel
theorem dL_state_190 : decode cL_state 190 = .ok (.aload_n 0, 1) := by decide +kernel
theorem dL_state_191 : decode cL_state 191 = .ok (.bipush 16, 2) := by decide +kernel
theorem dL_state_193 : decode cL_state 193 = .ok (.iload 7, 2) := by decide +kernel
theorem dL_state_195 : decode cL_state 195 = .ok (.iconst 0, 1) := by decide +kernel
theorem dL_state_196 : decode cL_state 196 = .ok (.iconst 0, 1) := by decide +kernel
theorem dL_state_197 : decode cL_state 197 = .ok (.invokestatic 111, 3) := by decide +kernel
theorem dL_state_200 : decode cL_state 200 = .ok (.i2l, 1) := by decide +kernel
theorem dL_state_201 : decode cL_state 201 = .ok (.ladd, 1) := by decide +kernel
theorem dL_state_202 : decode cL_state 202 = .ok (.lmul, 1) := by decide +kernel
theorem dL_state_203 : decode cL_state 203 = .ok (.aload_n 0, 1) := by decide +kernel
theorem dL_state_204 : decode cL_state 204 = .ok (.bipush 17, 2) := by decide +kernel
theorem dL_state_206 : decode cL_state 206 = .ok (.iload 7, 2) := by decide +kernel
theorem dL_state_208 : decode cL_state 208 = .ok (.iconst 0, 1) := by decide +kernel
theorem dL_state_209 : decode cL_state 209 = .ok (.iconst 0, 1) := by decide +kernel
theorem dL_state_210 : decode cL_state 210 = .ok (.invokestatic 111, 3) := by decide +kernel
theorem dL_state_213 : decode cL_state 213 = .ok (.i2l, 1) := by decide +kernel
theorem dL_state_214 : decode cL_state 214 = .ok (.ladd, 1) := by decide +kernel
theorem dL_state_215 : decode cL_state 215 = .ok (.lstore 5, 2) := by decide +kernel
theorem dL_state_217 : decode cL_state 217 = .ok (.iinc 7 1, 3) := by decide +kernel
theorem dL_state_220 : decode cL_state 220 = .ok (.goto (-113), 3) := by decide +kernel
theorem dL_state_223 : decode cL_state 223 = .ok (.iconst 0, 1) := by decide +kernel
theorem dL_state_224 : decode cL_state 224 = .ok (.istore 7, 2) := by decide +kernel
theorem dL_state_226 : decode cL_state 226 = .ok (.iload 7, 2) := by decide +kernel
theorem dL_state_228 : decode cL_state 228 = .ok (.iload 4, 2) := by decide +kernel
theorem dL_state_230 : decode cL_state 230 = .ok (.if_icmp .ge 29, 3) := by decide +kernel
theorem dL_state_233 : decode cL_state 233 = .ok (.ldc2_w 109, 3) := by decide +kernel
theorem dL_state_236 : decode cL_state 236 = .ok (.lload 5, 2) := by decide +kernel
theorem dL_state_238 : decode cL_state 238 = .ok (.lmul, 1) := by decide +kernel
theorem dL_state_239 : decode cL_state 239 = .ok (.aload_n 0, 1) := by decide +kernel
theorem dL_state_240 : decode cL_state 240 = .ok (.bipush 25, 2) := by decide +kernel
theorem dL_state_242 : decode cL_state 242 = .ok (.iload 7, 2) := by decide +kernel
theorem dL_state_244 : decode cL_state 244 = .ok (.iconst 0, 1) := by decide +kernel
theorem dL_state_245 : decode cL_state 245 = .ok (.iconst 0, 1) := by decide +kernel
theorem dL_state_246 : decode cL_state 246 = .ok (.invokestatic 111, 3) := by decide +kernel
theorem dL_state_249 : decode cL_state 249 = .ok (.i2l, 1) := by decide +kernel
theorem dL_state_250 : decode cL_state 250 = .ok (.ladd, 1) := by decide +kernel
theorem dL_state_251 : decode cL_state 251 = .ok (.lstore 5, 2) := by decide +kernel
theorem dL_state_253 : decode cL_state 253 = .ok (.iinc 7 1, 3) := by decide +kernel
theorem dL_state_256 : decode cL_state 256 = .ok (.goto (-30), 3) := by decide +kernel
theorem dL_state_259 : decode cL_state 259 = .ok (.ldc2_w 109, 3) := by decide +kernel
theorem dL_state_262 : decode cL_state 262 = .ok (.ldc2_w 109, 3) := by decide +kernel
theorem dL_state_265 : decode cL_state 265 = .ok (.ldc2_w 109, 3) := by decide +kernel
theorem dL_state_268 : decode cL_state 268 = .ok (.ldc2_w 109, 3) := by decide +kernel
theorem dL_state_271 : decode cL_state 271 = .ok (.lload 5, 2) := by decide +kernel
theorem dL_state_273 : decode cL_state 273 = .ok (.lmul, 1) := by decide +kernel
theorem dL_state_274 : decode cL_state 274 = .ok (.aload_n 0, 1) := by decide +kernel
theorem dL_state_275 : decode cL_state 275 = .ok (.invokevirtual 117, 3) := by decide +kernel
theorem dL_state_278 : decode cL_state 278 = .ok (.i2l, 1) := by decide +kernel
theorem dL_state_279 : decode cL_state 279 = .ok (.ladd, 1) := by decide +kernel
theorem dL_state_280 : decode cL_state 280 = .ok (.lmul, 1) := by decide +kernel
theorem dL_state_281 : decode cL_state 281 = .ok (.aload_n 0, 1) := by decide +kernel
theorem dL_state_282 : decode cL_state 282 = .ok (.invokevirtual 121, 3) := by decide +kernel
theorem dL_state_285 : decode cL_state 285 = .ok (.ladd, 1) := by decide +kernel
theorem dL_state_286 : decode cL_state 286 = .ok (.lmul, 1) := by decide +kernel
theorem dL_state_287 : decode cL_state 287 = .ok (.aload_n 0, 1) := by decide +kernel
theorem dL_state_288 : decode cL_state 288 = .ok (.invokevirtual 125, 3) := by decide +kernel
theorem dL_state_291 : decode cL_state 291 = .ok (.i2l, 1) := by decide +kernel
theorem dL_state_292 : decode cL_state 292 = .ok (.ladd, 1) := by decide +kernel
theorem dL_state_293 : decode cL_state 293 = .ok (.lmul, 1) := by decide +kernel
theorem dL_state_294 : decode cL_state 294 = .ok (.aload_n 0, 1) := by decide +kernel
theorem dL_state_295 : decode cL_state 295 = .ok (.invokevirtual 128, 3) := by decide +kernel
theorem dL_state_298 : decode cL_state 298 = .ok (.i2l, 1) := by decide +kernel
theorem dL_state_299 : decode cL_state 299 = .ok (.ladd, 1) := by decide +kernel
theorem dL_state_300 : decode cL_state 300 = .ok (.lreturn, 1) := by decide +kernel
def wL_state_226 (post : Int64 → Prop) (mc ms : Nat) : Nat → Nat → Nat → Int32 → Int64 → Int32 → KS → Prop
  | 0 => fun _ _ _ _ _ _ => False
  | n + 1 => fun uc us l4 l5 l7 K => ((l4 ≤ l7 → ((wpX6_house (fun r5 => (wpX6_apart (fun r6 => (wpX6_blocks (fun r7 => (wpX6_postings (fun r8 => post ((31 * ((31 * ((31 * ((31 * l5) + r5.toInt64)) + r6)) + r7.toInt64)) + r8.toInt64)) K)) K)) K)) K))) ∧ (¬ l4 ≤ l7 → ((∃ a9 a10 : Nat, uc + a9 ≤ mc ∧ us + a10 ≤ ms ∧ wpL_c25 (fun r11 => wL_state_226 post mc ms n (uc + a9) (us + a10) l4 ((31 * l5) + r11.toInt64) (l7 + 1) K) a9 a10 K l7 0 0))))
set_option maxHeartbeats 4000000 in
set_option maxRecDepth 100000 in
theorem bL_state_226 {p : Program} {l : Launch} {e : Env} {s : State} {m : MethodId} {args : Array Value} {below : List Frame} {meth : Method} {c : Code} {D : va_G} {cI : Nat → ClassId} {e0 : Nat} {A : Nat → Prop} {ad : Nat → Nat → Nat} {M : KS} {ap : Int64} {o : Int64} {od : UInt64} {mc ms : Nat} {K : KS} {post : Int64 → Prop} (hfl : l.stackTraces = false) (S : CallFix p m c cL_state 8 s args WU RL) (hg : GI D cI e0 A s s.heap) (hr : meth.sig.returnType = (some FieldType.long)) (hlk : meth.locks = false) (hout : ∀ x ∈ c.exceptionTable.toList, False) : ∀ n : Nat, ∀ {H : Heap} {locs : List Loc} {ls : Array Slot} {uc us : Nat} {l4 : Int32} {l5 : Int64} {l7 : Int32}, va_S A s.heap H locs → HT D cI e0 A ad K M ap o od H → lv_has ls 8 [(0, .ref (ad 0 0)), (4, .int l4), (5, .long (l5)), (7, .int l7)] → uc ≤ mc → us ≤ ms → wL_state_226 post mc ms n uc us l4 l5 l7 K → W p l e ({ frames := 10, cells := mc, slots := ms, locals := 391 } : Room) s m args below meth c H locs uc us (MQQ below (qP D cI e0 A ad K M ap o od rL post) xN args s mc ms A) (F0 m 226 ls []) := by
  intro n
  induction n with
  | zero => intros; exact False.elim (by assumption)
  | succ n ih =>
    intro H locs ls uc us l4 l5 l7 hS hw hl huc hus h
    unfold wL_state_226 at h
    refine lv_iload S.1 S.2.1 dL_state_226 (lv_at hl 3 rfl) ?_
    refine lv_iload S.1 S.2.1 dL_state_228 (lv_at hl 1 rfl) ?_
    refine lv_icmp_ge (tgt := 259) S.1 S.2.1 dL_state_230 (by decide) (fun c4 => ?_) (fun c4 => ?_)
    · have h := h.1 c4
      refine lv_ldc2 S.1 S.2.1 S.2.2.2.1 (S.2.2.2.2 _ u929) dL_state_259 ?_
      refine lv_ldc2 S.1 S.2.1 S.2.2.2.1 (S.2.2.2.2 _ u929) dL_state_262 ?_
      refine lv_ldc2 S.1 S.2.1 S.2.2.2.1 (S.2.2.2.2 _ u929) dL_state_265 ?_
      refine lv_ldc2 S.1 S.2.1 S.2.2.2.1 (S.2.2.2.2 _ u929) dL_state_268 ?_
      refine lv_lload S.1 S.2.1 dL_state_271 (lv_at hl 2 rfl) ?_
      refine lv_lmul S.1 S.2.1 dL_state_273 ?_
      refine lv_aload_n S.1 S.2.1 dL_state_274 rfl (lv_at hl 0 rfl) ?_
      refine r_call (rest := [.long (31 * l5), .long (31), .long (31), .long (31)]) S hg hS (mtX6_house (mc := 0) (ms := 0) h) u161 u162 u163 u27 u164 hdX6_house (rv0 hg hw) hw ⟨Nat.le_of_ble_eq_true rfl, Nat.le_of_ble_eq_true rfl⟩ ⟨by show uc + 0 ≤ mc; omega, by show us + 0 ≤ ms; omega⟩ hl.1 (Nat.le_of_ble_eq_true rfl) rfl dL_state_275 (fun E ce q H1 locs1 hx hS1 hc1 hc2 hc3 => hx.elim) (fun rv H locs hq hS => ?_)
      obtain ⟨r5, rfl, h, hw⟩ := hq
      show W p l e _ s m _ below meth c H locs _ _ _ (F0 m 278 ls [.int r5, .long (31 * l5), .long (31), .long (31), .long (31)])
      show W p l e _ s m _ below meth c H locs uc us _ _
      refine lv_i2l S.1 S.2.1 dL_state_278 rfl ?_
      refine lv_ladd S.1 S.2.1 dL_state_279 ?_
      refine lv_lmul S.1 S.2.1 dL_state_280 ?_
      refine lv_aload_n S.1 S.2.1 dL_state_281 rfl (lv_at hl 0 rfl) ?_
      refine r_call (rest := [.long (31 * ((31 * l5) + r5.toInt64)), .long (31), .long (31)]) S hg hS (mtX6_apart (mc := 0) (ms := 0) h) u165 u166 u167 u27 u168 hdX6_apart (rv0 hg hw) hw ⟨Nat.le_of_ble_eq_true rfl, Nat.le_of_ble_eq_true rfl⟩ ⟨by show uc + 0 ≤ mc; omega, by show us + 0 ≤ ms; omega⟩ hl.1 (Nat.le_of_ble_eq_true rfl) rfl dL_state_282 (fun E ce q H1 locs1 hx hS1 hc1 hc2 hc3 => hx.elim) (fun rv H locs hq hS => ?_)
      obtain ⟨r6, rfl, h, hw⟩ := hq
      show W p l e _ s m _ below meth c H locs _ _ _ (F0 m 285 ls [.long (r6), .long (31 * ((31 * l5) + r5.toInt64)), .long (31), .long (31)])
      show W p l e _ s m _ below meth c H locs uc us _ _
      refine lv_ladd S.1 S.2.1 dL_state_285 ?_
      refine lv_lmul S.1 S.2.1 dL_state_286 ?_
      refine lv_aload_n S.1 S.2.1 dL_state_287 rfl (lv_at hl 0 rfl) ?_
      refine r_call (rest := [.long (31 * ((31 * ((31 * l5) + r5.toInt64)) + r6)), .long (31)]) S hg hS (mtX6_blocks (mc := 0) (ms := 0) h) u153 u154 u155 u27 u156 hdX6_blocks (rv0 hg hw) hw ⟨Nat.le_of_ble_eq_true rfl, Nat.le_of_ble_eq_true rfl⟩ ⟨by show uc + 0 ≤ mc; omega, by show us + 0 ≤ ms; omega⟩ hl.1 (Nat.le_of_ble_eq_true rfl) rfl dL_state_288 (fun E ce q H1 locs1 hx hS1 hc1 hc2 hc3 => hx.elim) (fun rv H locs hq hS => ?_)
      obtain ⟨r7, rfl, h, hw⟩ := hq
      show W p l e _ s m _ below meth c H locs _ _ _ (F0 m 291 ls [.int r7, .long (31 * ((31 * ((31 * l5) + r5.toInt64)) + r6)), .long (31)])
      show W p l e _ s m _ below meth c H locs uc us _ _
      refine lv_i2l S.1 S.2.1 dL_state_291 rfl ?_
      refine lv_ladd S.1 S.2.1 dL_state_292 ?_
      refine lv_lmul S.1 S.2.1 dL_state_293 ?_
      refine lv_aload_n S.1 S.2.1 dL_state_294 rfl (lv_at hl 0 rfl) ?_
      refine r_call (rest := [.long (31 * ((31 * ((31 * ((31 * l5) + r5.toInt64)) + r6)) + r7.toInt64))]) S hg hS (mtX6_postings (mc := 0) (ms := 0) h) u930 u931 u932 u27 u933 hdX6_postings (rv0 hg hw) hw ⟨Nat.le_of_ble_eq_true rfl, Nat.le_of_ble_eq_true rfl⟩ ⟨by show uc + 0 ≤ mc; omega, by show us + 0 ≤ ms; omega⟩ hl.1 (Nat.le_of_ble_eq_true rfl) rfl dL_state_295 (fun E ce q H1 locs1 hx hS1 hc1 hc2 hc3 => hx.elim) (fun rv H locs hq hS => ?_)
      obtain ⟨r8, rfl, h, hw⟩ := hq
      show W p l e _ s m _ below meth c H locs _ _ _ (F0 m 298 ls [.int r8, .long (31 * ((31 * ((31 * ((31 * l5) + r5.toInt64)) + r6)) + r7.toInt64))])
      show W p l e _ s m _ below meth c H locs uc us _ _
      refine lv_i2l S.1 S.2.1 dL_state_298 rfl ?_
      refine lv_ladd S.1 S.2.1 dL_state_299 ?_
      exact r_lret (y := yL_state) S hr hlk hS (by omega) (by omega) dL_state_300 ⟨((31 * ((31 * ((31 * ((31 * l5) + r5.toInt64)) + r6)) + r7.toInt64)) + r8.toInt64), rfl, h, hw⟩
    · have h := h.2 c4
      refine lv_ldc2 S.1 S.2.1 S.2.2.2.1 (S.2.2.2.2 _ u929) dL_state_233 ?_
      refine lv_lload S.1 S.2.1 dL_state_236 (lv_at hl 2 rfl) ?_
      refine lv_lmul S.1 S.2.1 dL_state_238 ?_
      refine lv_aload_n S.1 S.2.1 dL_state_239 rfl (lv_at hl 0 rfl) ?_
      refine lv_bipush (v := 25) S.1 S.2.1 dL_state_240 (by decide) ?_
      refine lv_iload S.1 S.2.1 dL_state_242 (lv_at hl 3 rfl) ?_
      refine lv_iconst (v := 0) S.1 S.2.1 dL_state_244 (by decide) ?_
      refine lv_iconst (v := 0) S.1 S.2.1 dL_state_245 (by decide) ?_
      obtain ⟨a9, a10, h1, h2, h⟩ := h
      refine r_callSW (rest := [.long (31 * l5)]) S hg hS (mtL_c25 (mc := a9) (ms := a10) hfl h) u216 u217 u26 u218 hdL_call hw ⟨Nat.le_of_ble_eq_true rfl, Nat.le_of_ble_eq_true rfl⟩ ⟨by show uc + a9 ≤ mc; omega, by show us + a10 ≤ ms; omega⟩ hl.1 (Nat.le_of_ble_eq_true rfl) rfl dL_state_246 (fun rv H locs hq hS => ?_)
      obtain ⟨r11, rfl, h, hw⟩ := hq
      show W p l e _ s m _ below meth c H locs _ _ _ (F0 m 249 ls [.int r11, .long (31 * l5)])
      refine lv_i2l S.1 S.2.1 dL_state_249 rfl ?_
      refine lv_ladd S.1 S.2.1 dL_state_250 ?_
      refine lv_lstore (lv' := [(5, .long ((31 * l5) + r11.toInt64)), (0, .ref (ad 0 0)), (4, .int l4), (7, .int l7)]) S.1 S.2.1 dL_state_251 hl (by decide) rfl (fun ls hl => ?_)
      refine lv_iinc (v := l7 + 1) (lv' := [(7, .int (l7 + 1)), (5, .long ((31 * l5) + r11.toInt64)), (0, .ref (ad 0 0)), (4, .int l4)]) S.1 S.2.1 dL_state_253 hl (k := 3) rfl rfl (by decide) rfl (fun ls hl => ?_)
      refine lv_goto (tgt := 226) S.1 S.2.1 dL_state_256 (by decide) ?_
      have hl := lv_sub hl (l' := [(0, .ref (ad 0 0)), (4, .int l4), (5, .long ((31 * l5) + r11.toInt64)), (7, .int (l7 + 1))]) [2, 3, 1, 0] rfl
      exact ih hS hw hl (by omega) (by omega) h
def wL_state_107 (post : Int64 → Prop) (mc ms : Nat) : Nat → Nat → Nat → Int32 → Int32 → Int64 → Int32 → KS → Prop
  | 0 => fun _ _ _ _ _ _ _ => False
  | n + 1 => fun uc us l3 l4 l5 l7 K => ((l3 ≤ l7 → (∃ n1 : Nat, wL_state_226 post mc ms n1 uc us l4 l5 0 K)) ∧ (¬ l3 ≤ l7 → ((∃ a12 a13 : Nat, uc + a12 ≤ mc ∧ us + a13 ≤ ms ∧ wpL_c13 (fun r14 => (∃ a15 a16 : Nat, (uc + a12) + a15 ≤ mc ∧ (us + a13) + a16 ≤ ms ∧ wpL_c14_0 (fun r17 => (∃ a18 a19 : Nat, ((uc + a12) + a15) + a18 ≤ mc ∧ ((us + a13) + a16) + a19 ≤ ms ∧ wpL_c14_1 (fun r20 => (∃ a21 a22 : Nat, (((uc + a12) + a15) + a18) + a21 ≤ mc ∧ (((us + a13) + a16) + a19) + a22 ≤ ms ∧ wpL_c15 (fun r23 => (∃ a24 a25 : Nat, ((((uc + a12) + a15) + a18) + a21) + a24 ≤ mc ∧ ((((us + a13) + a16) + a19) + a22) + a25 ≤ ms ∧ wpL_c16 (fun r26 => (∃ a27 a28 : Nat, (((((uc + a12) + a15) + a18) + a21) + a24) + a27 ≤ mc ∧ (((((us + a13) + a16) + a19) + a22) + a25) + a28 ≤ ms ∧ wpL_c17 (fun r29 => wL_state_107 post mc ms n ((((((uc + a12) + a15) + a18) + a21) + a24) + a27) ((((((us + a13) + a16) + a19) + a22) + a25) + a28) l3 l4 ((31 * ((31 * ((31 * ((31 * ((31 * ((31 * l5) + r14.toInt64)) + r17.toInt64)) + r20.toInt64)) + r23.toInt64)) + r26.toInt64)) + r29.toInt64) (l7 + 1) K) a27 a28 K l7 0 0)) a24 a25 K l7 0 0)) a21 a22 K l7 0 0)) a18 a19 K l7 0)) a15 a16 K l7 0)) a12 a13 K l7 0 0))))
set_option maxHeartbeats 4000000 in
set_option maxRecDepth 100000 in
theorem bL_state_107 {p : Program} {l : Launch} {e : Env} {s : State} {m : MethodId} {args : Array Value} {below : List Frame} {meth : Method} {c : Code} {D : va_G} {cI : Nat → ClassId} {e0 : Nat} {A : Nat → Prop} {ad : Nat → Nat → Nat} {M : KS} {ap : Int64} {o : Int64} {od : UInt64} {mc ms : Nat} {K : KS} {post : Int64 → Prop} (hfl : l.stackTraces = false) (S : CallFix p m c cL_state 8 s args WU RL) (hg : GI D cI e0 A s s.heap) (hr : meth.sig.returnType = (some FieldType.long)) (hlk : meth.locks = false) (hout : ∀ x ∈ c.exceptionTable.toList, False) : ∀ n : Nat, ∀ {H : Heap} {locs : List Loc} {ls : Array Slot} {uc us : Nat} {l3 : Int32} {l4 : Int32} {l5 : Int64} {l7 : Int32}, va_S A s.heap H locs → HT D cI e0 A ad K M ap o od H → lv_has ls 8 [(0, .ref (ad 0 0)), (3, .int l3), (4, .int l4), (5, .long (l5)), (7, .int l7)] → uc ≤ mc → us ≤ ms → wL_state_107 post mc ms n uc us l3 l4 l5 l7 K → W p l e ({ frames := 10, cells := mc, slots := ms, locals := 391 } : Room) s m args below meth c H locs uc us (MQQ below (qP D cI e0 A ad K M ap o od rL post) xN args s mc ms A) (F0 m 107 ls []) := by
  intro n
  induction n with
  | zero => intros; exact False.elim (by assumption)
  | succ n ih =>
    intro H locs ls uc us l3 l4 l5 l7 hS hw hl huc hus h
    unfold wL_state_107 at h
    refine lv_iload S.1 S.2.1 dL_state_107 (lv_at hl 4 rfl) ?_
    refine lv_iload_n S.1 S.2.1 dL_state_109 rfl (lv_at hl 1 rfl) ?_
    refine lv_icmp_ge (tgt := 223) S.1 S.2.1 dL_state_110 (by decide) (fun c3 => ?_) (fun c3 => ?_)
    · have h := h.1 c3
      refine lv_iconst (v := 0) S.1 S.2.1 dL_state_223 (by decide) ?_
      refine lv_istore (lv' := [(7, .int 0), (0, .ref (ad 0 0)), (3, .int l3), (4, .int l4), (5, .long (l5))]) S.1 S.2.1 dL_state_224 hl (by decide) rfl (fun ls hl => ?_)
      have hl := lv_sub hl (l' := [(0, .ref (ad 0 0)), (4, .int l4), (5, .long (l5)), (7, .int 0)]) [1, 3, 4, 0] rfl
      obtain ⟨n1, h⟩ := h
      exact bL_state_226 hfl S hg hr hlk hout n1 hS hw hl (by omega) (by omega) h
    · have h := h.2 c3
      refine lv_ldc2 S.1 S.2.1 S.2.2.2.1 (S.2.2.2.2 _ u929) dL_state_113 ?_
      refine lv_ldc2 S.1 S.2.1 S.2.2.2.1 (S.2.2.2.2 _ u929) dL_state_116 ?_
      refine lv_ldc2 S.1 S.2.1 S.2.2.2.1 (S.2.2.2.2 _ u929) dL_state_119 ?_
      refine lv_lload S.1 S.2.1 dL_state_122 (lv_at hl 3 rfl) ?_
      refine lv_lmul S.1 S.2.1 dL_state_124 ?_
      refine lv_aload_n S.1 S.2.1 dL_state_125 rfl (lv_at hl 0 rfl) ?_
      refine lv_bipush (v := 13) S.1 S.2.1 dL_state_126 (by decide) ?_
      refine lv_iload S.1 S.2.1 dL_state_128 (lv_at hl 4 rfl) ?_
      refine lv_iconst (v := 0) S.1 S.2.1 dL_state_130 (by decide) ?_
      refine lv_iconst (v := 0) S.1 S.2.1 dL_state_131 (by decide) ?_
      obtain ⟨a12, a13, h1, h2, h⟩ := h
      refine r_callSW (rest := [.long (31 * l5), .long (31), .long (31)]) S hg hS (mtL_c13 (mc := a12) (ms := a13) hfl h) u216 u217 u26 u218 hdL_call hw ⟨Nat.le_of_ble_eq_true rfl, Nat.le_of_ble_eq_true rfl⟩ ⟨by show uc + a12 ≤ mc; omega, by show us + a13 ≤ ms; omega⟩ hl.1 (Nat.le_of_ble_eq_true rfl) rfl dL_state_132 (fun rv H locs hq hS => ?_)
      obtain ⟨r14, rfl, h, hw⟩ := hq
      show W p l e _ s m _ below meth c H locs _ _ _ (F0 m 135 ls [.int r14, .long (31 * l5), .long (31), .long (31)])
      refine lv_i2l S.1 S.2.1 dL_state_135 rfl ?_
      refine lv_ladd S.1 S.2.1 dL_state_136 ?_
      refine lv_lmul S.1 S.2.1 dL_state_137 ?_
      refine lv_aload_n S.1 S.2.1 dL_state_138 rfl (lv_at hl 0 rfl) ?_
      refine lv_bipush (v := 14) S.1 S.2.1 dL_state_139 (by decide) ?_
      refine lv_iload S.1 S.2.1 dL_state_141 (lv_at hl 4 rfl) ?_
      refine lv_iconst (v := 0) S.1 S.2.1 dL_state_143 (by decide) ?_
      refine lv_iconst (v := 0) S.1 S.2.1 dL_state_144 (by decide) ?_
      obtain ⟨a15, a16, h1, h2, h⟩ := h
      refine r_callSW (rest := [.long (31 * ((31 * l5) + r14.toInt64)), .long (31)]) S hg hS (mtL_c14_0 (mc := a15) (ms := a16) hfl h) u216 u217 u26 u218 hdL_call hw ⟨Nat.le_of_ble_eq_true rfl, Nat.le_of_ble_eq_true rfl⟩ ⟨by show (uc + a12) + a15 ≤ mc; omega, by show (us + a13) + a16 ≤ ms; omega⟩ hl.1 (Nat.le_of_ble_eq_true rfl) rfl dL_state_145 (fun rv H locs hq hS => ?_)
      obtain ⟨r17, rfl, h, hw⟩ := hq
      show W p l e _ s m _ below meth c H locs _ _ _ (F0 m 148 ls [.int r17, .long (31 * ((31 * l5) + r14.toInt64)), .long (31)])
      refine lv_i2l S.1 S.2.1 dL_state_148 rfl ?_
      refine lv_ladd S.1 S.2.1 dL_state_149 ?_
      refine lv_lmul S.1 S.2.1 dL_state_150 ?_
      refine lv_aload_n S.1 S.2.1 dL_state_151 rfl (lv_at hl 0 rfl) ?_
      refine lv_bipush (v := 14) S.1 S.2.1 dL_state_152 (by decide) ?_
      refine lv_iload S.1 S.2.1 dL_state_154 (lv_at hl 4 rfl) ?_
      refine lv_iconst (v := 1) S.1 S.2.1 dL_state_156 (by decide) ?_
      refine lv_iconst (v := 0) S.1 S.2.1 dL_state_157 (by decide) ?_
      obtain ⟨a18, a19, h1, h2, h⟩ := h
      refine r_callSW (rest := [.long (31 * ((31 * ((31 * l5) + r14.toInt64)) + r17.toInt64))]) S hg hS (mtL_c14_1 (mc := a18) (ms := a19) hfl h) u216 u217 u26 u218 hdL_call hw ⟨Nat.le_of_ble_eq_true rfl, Nat.le_of_ble_eq_true rfl⟩ ⟨by show ((uc + a12) + a15) + a18 ≤ mc; omega, by show ((us + a13) + a16) + a19 ≤ ms; omega⟩ hl.1 (Nat.le_of_ble_eq_true rfl) rfl dL_state_158 (fun rv H locs hq hS => ?_)
      obtain ⟨r20, rfl, h, hw⟩ := hq
      show W p l e _ s m _ below meth c H locs _ _ _ (F0 m 161 ls [.int r20, .long (31 * ((31 * ((31 * l5) + r14.toInt64)) + r17.toInt64))])
      refine lv_i2l S.1 S.2.1 dL_state_161 rfl ?_
      refine lv_ladd S.1 S.2.1 dL_state_162 ?_
      refine lv_lstore (lv' := [(5, .long ((31 * ((31 * ((31 * l5) + r14.toInt64)) + r17.toInt64)) + r20.toInt64)), (0, .ref (ad 0 0)), (3, .int l3), (4, .int l4), (7, .int l7)]) S.1 S.2.1 dL_state_163 hl (by decide) rfl (fun ls hl => ?_)
      refine lv_ldc2 S.1 S.2.1 S.2.2.2.1 (S.2.2.2.2 _ u929) dL_state_165 ?_
      refine lv_ldc2 S.1 S.2.1 S.2.2.2.1 (S.2.2.2.2 _ u929) dL_state_168 ?_
      refine lv_ldc2 S.1 S.2.1 S.2.2.2.1 (S.2.2.2.2 _ u929) dL_state_171 ?_
      refine lv_lload S.1 S.2.1 dL_state_174 (lv_at hl 0 rfl) ?_
      refine lv_lmul S.1 S.2.1 dL_state_176 ?_
      refine lv_aload_n S.1 S.2.1 dL_state_177 rfl (lv_at hl 1 rfl) ?_
      refine lv_bipush (v := 15) S.1 S.2.1 dL_state_178 (by decide) ?_
      refine lv_iload S.1 S.2.1 dL_state_180 (lv_at hl 4 rfl) ?_
      refine lv_iconst (v := 0) S.1 S.2.1 dL_state_182 (by decide) ?_
      refine lv_iconst (v := 0) S.1 S.2.1 dL_state_183 (by decide) ?_
      obtain ⟨a21, a22, h1, h2, h⟩ := h
      refine r_callSW (rest := [.long (31 * ((31 * ((31 * ((31 * l5) + r14.toInt64)) + r17.toInt64)) + r20.toInt64)), .long (31), .long (31)]) S hg hS (mtL_c15 (mc := a21) (ms := a22) hfl h) u216 u217 u26 u218 hdL_call hw ⟨Nat.le_of_ble_eq_true rfl, Nat.le_of_ble_eq_true rfl⟩ ⟨by show (((uc + a12) + a15) + a18) + a21 ≤ mc; omega, by show (((us + a13) + a16) + a19) + a22 ≤ ms; omega⟩ hl.1 (Nat.le_of_ble_eq_true rfl) rfl dL_state_184 (fun rv H locs hq hS => ?_)
      obtain ⟨r23, rfl, h, hw⟩ := hq
      show W p l e _ s m _ below meth c H locs _ _ _ (F0 m 187 ls [.int r23, .long (31 * ((31 * ((31 * ((31 * l5) + r14.toInt64)) + r17.toInt64)) + r20.toInt64)), .long (31), .long (31)])
      refine lv_i2l S.1 S.2.1 dL_state_187 rfl ?_
      refine lv_ladd S.1 S.2.1 dL_state_188 ?_
      refine lv_lmul S.1 S.2.1 dL_state_189 ?_
      refine lv_aload_n S.1 S.2.1 dL_state_190 rfl (lv_at hl 1 rfl) ?_
      refine lv_bipush (v := 16) S.1 S.2.1 dL_state_191 (by decide) ?_
      refine lv_iload S.1 S.2.1 dL_state_193 (lv_at hl 4 rfl) ?_
      refine lv_iconst (v := 0) S.1 S.2.1 dL_state_195 (by decide) ?_
      refine lv_iconst (v := 0) S.1 S.2.1 dL_state_196 (by decide) ?_
      obtain ⟨a24, a25, h1, h2, h⟩ := h
      refine r_callSW (rest := [.long (31 * ((31 * ((31 * ((31 * ((31 * l5) + r14.toInt64)) + r17.toInt64)) + r20.toInt64)) + r23.toInt64)), .long (31)]) S hg hS (mtL_c16 (mc := a24) (ms := a25) hfl h) u216 u217 u26 u218 hdL_call hw ⟨Nat.le_of_ble_eq_true rfl, Nat.le_of_ble_eq_true rfl⟩ ⟨by show ((((uc + a12) + a15) + a18) + a21) + a24 ≤ mc; omega, by show ((((us + a13) + a16) + a19) + a22) + a25 ≤ ms; omega⟩ hl.1 (Nat.le_of_ble_eq_true rfl) rfl dL_state_197 (fun rv H locs hq hS => ?_)
      obtain ⟨r26, rfl, h, hw⟩ := hq
      show W p l e _ s m _ below meth c H locs _ _ _ (F0 m 200 ls [.int r26, .long (31 * ((31 * ((31 * ((31 * ((31 * l5) + r14.toInt64)) + r17.toInt64)) + r20.toInt64)) + r23.toInt64)), .long (31)])
      refine lv_i2l S.1 S.2.1 dL_state_200 rfl ?_
      refine lv_ladd S.1 S.2.1 dL_state_201 ?_
      refine lv_lmul S.1 S.2.1 dL_state_202 ?_
      refine lv_aload_n S.1 S.2.1 dL_state_203 rfl (lv_at hl 1 rfl) ?_
      refine lv_bipush (v := 17) S.1 S.2.1 dL_state_204 (by decide) ?_
      refine lv_iload S.1 S.2.1 dL_state_206 (lv_at hl 4 rfl) ?_
      refine lv_iconst (v := 0) S.1 S.2.1 dL_state_208 (by decide) ?_
      refine lv_iconst (v := 0) S.1 S.2.1 dL_state_209 (by decide) ?_
      obtain ⟨a27, a28, h1, h2, h⟩ := h
      refine r_callSW (rest := [.long (31 * ((31 * ((31 * ((31 * ((31 * ((31 * l5) + r14.toInt64)) + r17.toInt64)) + r20.toInt64)) + r23.toInt64)) + r26.toInt64))]) S hg hS (mtL_c17 (mc := a27) (ms := a28) hfl h) u216 u217 u26 u218 hdL_call hw ⟨Nat.le_of_ble_eq_true rfl, Nat.le_of_ble_eq_true rfl⟩ ⟨by show (((((uc + a12) + a15) + a18) + a21) + a24) + a27 ≤ mc; omega, by show (((((us + a13) + a16) + a19) + a22) + a25) + a28 ≤ ms; omega⟩ hl.1 (Nat.le_of_ble_eq_true rfl) rfl dL_state_210 (fun rv H locs hq hS => ?_)
      obtain ⟨r29, rfl, h, hw⟩ := hq
      show W p l e _ s m _ below meth c H locs _ _ _ (F0 m 213 ls [.int r29, .long (31 * ((31 * ((31 * ((31 * ((31 * ((31 * l5) + r14.toInt64)) + r17.toInt64)) + r20.toInt64)) + r23.toInt64)) + r26.toInt64))])
      refine lv_i2l S.1 S.2.1 dL_state_213 rfl ?_
      refine lv_ladd S.1 S.2.1 dL_state_214 ?_
      refine lv_lstore (lv' := [(5, .long ((31 * ((31 * ((31 * ((31 * ((31 * ((31 * l5) + r14.toInt64)) + r17.toInt64)) + r20.toInt64)) + r23.toInt64)) + r26.toInt64)) + r29.toInt64)), (0, .ref (ad 0 0)), (3, .int l3), (4, .int l4), (7, .int l7)]) S.1 S.2.1 dL_state_215 hl (by decide) rfl (fun ls hl => ?_)
      refine lv_iinc (v := l7 + 1) (lv' := [(7, .int (l7 + 1)), (5, .long ((31 * ((31 * ((31 * ((31 * ((31 * ((31 * l5) + r14.toInt64)) + r17.toInt64)) + r20.toInt64)) + r23.toInt64)) + r26.toInt64)) + r29.toInt64)), (0, .ref (ad 0 0)), (3, .int l3), (4, .int l4)]) S.1 S.2.1 dL_state_217 hl (k := 4) rfl rfl (by decide) rfl (fun ls hl => ?_)
      refine lv_goto (tgt := 107) S.1 S.2.1 dL_state_220 (by decide) ?_
      have hl := lv_sub hl (l' := [(0, .ref (ad 0 0)), (3, .int l3), (4, .int l4), (5, .long ((31 * ((31 * ((31 * ((31 * ((31 * ((31 * l5) + r14.toInt64)) + r17.toInt64)) + r20.toInt64)) + r23.toInt64)) + r26.toInt64)) + r29.toInt64)), (7, .int (l7 + 1))]) [2, 3, 4, 1, 0] rfl
      exact ih hS hw hl (by omega) (by omega) h
def wL_state_58 (post : Int64 → Prop) (mc ms : Nat) : Nat → Nat → Nat → Int32 → Int32 → Int32 → Int64 → Int32 → KS → Prop
  | 0 => fun _ _ _ _ _ _ _ _ => False
  | n + 1 => fun uc us l2 l3 l4 l5 l7 K => ((l2 ≤ l7 → (∃ n1 : Nat, wL_state_107 post mc ms n1 uc us l3 l4 l5 0 K)) ∧ (¬ l2 ≤ l7 → ((∃ a30 a31 : Nat, uc + a30 ≤ mc ∧ us + a31 ≤ ms ∧ wpL_c2 (fun r32 => (∃ a33 a34 : Nat, (uc + a30) + a33 ≤ mc ∧ (us + a31) + a34 ≤ ms ∧ wpL_c4 (fun r35 => wL_state_58 post mc ms n ((uc + a30) + a33) ((us + a31) + a34) l2 l3 l4 ((31 * ((31 * l5) + r32.toInt64)) + r35.toInt64) (l7 + 1) K) a33 a34 K l7 0 0)) a30 a31 K l7 0 0))))
set_option maxHeartbeats 4000000 in
set_option maxRecDepth 100000 in
theorem bL_state_58 {p : Program} {l : Launch} {e : Env} {s : State} {m : MethodId} {args : Array Value} {below : List Frame} {meth : Method} {c : Code} {D : va_G} {cI : Nat → ClassId} {e0 : Nat} {A : Nat → Prop} {ad : Nat → Nat → Nat} {M : KS} {ap : Int64} {o : Int64} {od : UInt64} {mc ms : Nat} {K : KS} {post : Int64 → Prop} (hfl : l.stackTraces = false) (S : CallFix p m c cL_state 8 s args WU RL) (hg : GI D cI e0 A s s.heap) (hr : meth.sig.returnType = (some FieldType.long)) (hlk : meth.locks = false) (hout : ∀ x ∈ c.exceptionTable.toList, False) : ∀ n : Nat, ∀ {H : Heap} {locs : List Loc} {ls : Array Slot} {uc us : Nat} {l2 : Int32} {l3 : Int32} {l4 : Int32} {l5 : Int64} {l7 : Int32}, va_S A s.heap H locs → HT D cI e0 A ad K M ap o od H → lv_has ls 8 [(0, .ref (ad 0 0)), (2, .int l2), (3, .int l3), (4, .int l4), (5, .long (l5)), (7, .int l7)] → uc ≤ mc → us ≤ ms → wL_state_58 post mc ms n uc us l2 l3 l4 l5 l7 K → W p l e ({ frames := 10, cells := mc, slots := ms, locals := 391 } : Room) s m args below meth c H locs uc us (MQQ below (qP D cI e0 A ad K M ap o od rL post) xN args s mc ms A) (F0 m 58 ls []) := by
  intro n
  induction n with
  | zero => intros; exact False.elim (by assumption)
  | succ n ih =>
    intro H locs ls uc us l2 l3 l4 l5 l7 hS hw hl huc hus h
    unfold wL_state_58 at h
    refine lv_iload S.1 S.2.1 dL_state_58 (lv_at hl 5 rfl) ?_
    refine lv_iload_n S.1 S.2.1 dL_state_60 rfl (lv_at hl 1 rfl) ?_
    refine lv_icmp_ge (tgt := 104) S.1 S.2.1 dL_state_61 (by decide) (fun c2 => ?_) (fun c2 => ?_)
    · have h := h.1 c2
      refine lv_iconst (v := 0) S.1 S.2.1 dL_state_104 (by decide) ?_
      refine lv_istore (lv' := [(7, .int 0), (0, .ref (ad 0 0)), (2, .int l2), (3, .int l3), (4, .int l4), (5, .long (l5))]) S.1 S.2.1 dL_state_105 hl (by decide) rfl (fun ls hl => ?_)
      have hl := lv_sub hl (l' := [(0, .ref (ad 0 0)), (3, .int l3), (4, .int l4), (5, .long (l5)), (7, .int 0)]) [1, 3, 4, 5, 0] rfl
      obtain ⟨n1, h⟩ := h
      exact bL_state_107 hfl S hg hr hlk hout n1 hS hw hl (by omega) (by omega) h
    · have h := h.2 c2
      refine lv_ldc2 S.1 S.2.1 S.2.2.2.1 (S.2.2.2.2 _ u929) dL_state_64 ?_
      refine lv_ldc2 S.1 S.2.1 S.2.2.2.1 (S.2.2.2.2 _ u929) dL_state_67 ?_
      refine lv_lload S.1 S.2.1 dL_state_70 (lv_at hl 4 rfl) ?_
      refine lv_lmul S.1 S.2.1 dL_state_72 ?_
      refine lv_aload_n S.1 S.2.1 dL_state_73 rfl (lv_at hl 0 rfl) ?_
      refine lv_iconst (v := 2) S.1 S.2.1 dL_state_74 (by decide) ?_
      refine lv_iload S.1 S.2.1 dL_state_75 (lv_at hl 5 rfl) ?_
      refine lv_iconst (v := 0) S.1 S.2.1 dL_state_77 (by decide) ?_
      refine lv_iconst (v := 0) S.1 S.2.1 dL_state_78 (by decide) ?_
      obtain ⟨a30, a31, h1, h2, h⟩ := h
      refine r_callSW (rest := [.long (31 * l5), .long (31)]) S hg hS (mtL_c2 (mc := a30) (ms := a31) hfl h) u216 u217 u26 u218 hdL_call hw ⟨Nat.le_of_ble_eq_true rfl, Nat.le_of_ble_eq_true rfl⟩ ⟨by show uc + a30 ≤ mc; omega, by show us + a31 ≤ ms; omega⟩ hl.1 (Nat.le_of_ble_eq_true rfl) rfl dL_state_79 (fun rv H locs hq hS => ?_)
      obtain ⟨r32, rfl, h, hw⟩ := hq
      show W p l e _ s m _ below meth c H locs _ _ _ (F0 m 82 ls [.int r32, .long (31 * l5), .long (31)])
      refine lv_i2l S.1 S.2.1 dL_state_82 rfl ?_
      refine lv_ladd S.1 S.2.1 dL_state_83 ?_
      refine lv_lmul S.1 S.2.1 dL_state_84 ?_
      refine lv_aload_n S.1 S.2.1 dL_state_85 rfl (lv_at hl 0 rfl) ?_
      refine lv_iconst (v := 4) S.1 S.2.1 dL_state_86 (by decide) ?_
      refine lv_iload S.1 S.2.1 dL_state_87 (lv_at hl 5 rfl) ?_
      refine lv_iconst (v := 0) S.1 S.2.1 dL_state_89 (by decide) ?_
      refine lv_iconst (v := 0) S.1 S.2.1 dL_state_90 (by decide) ?_
      obtain ⟨a33, a34, h1, h2, h⟩ := h
      refine r_callSW (rest := [.long (31 * ((31 * l5) + r32.toInt64))]) S hg hS (mtL_c4 (mc := a33) (ms := a34) hfl h) u216 u217 u26 u218 hdL_call hw ⟨Nat.le_of_ble_eq_true rfl, Nat.le_of_ble_eq_true rfl⟩ ⟨by show (uc + a30) + a33 ≤ mc; omega, by show (us + a31) + a34 ≤ ms; omega⟩ hl.1 (Nat.le_of_ble_eq_true rfl) rfl dL_state_91 (fun rv H locs hq hS => ?_)
      obtain ⟨r35, rfl, h, hw⟩ := hq
      show W p l e _ s m _ below meth c H locs _ _ _ (F0 m 94 ls [.int r35, .long (31 * ((31 * l5) + r32.toInt64))])
      refine lv_i2l S.1 S.2.1 dL_state_94 rfl ?_
      refine lv_ladd S.1 S.2.1 dL_state_95 ?_
      refine lv_lstore (lv' := [(5, .long ((31 * ((31 * l5) + r32.toInt64)) + r35.toInt64)), (0, .ref (ad 0 0)), (2, .int l2), (3, .int l3), (4, .int l4), (7, .int l7)]) S.1 S.2.1 dL_state_96 hl (by decide) rfl (fun ls hl => ?_)
      refine lv_iinc (v := l7 + 1) (lv' := [(7, .int (l7 + 1)), (5, .long ((31 * ((31 * l5) + r32.toInt64)) + r35.toInt64)), (0, .ref (ad 0 0)), (2, .int l2), (3, .int l3), (4, .int l4)]) S.1 S.2.1 dL_state_98 hl (k := 5) rfl rfl (by decide) rfl (fun ls hl => ?_)
      refine lv_goto (tgt := 58) S.1 S.2.1 dL_state_101 (by decide) ?_
      have hl := lv_sub hl (l' := [(0, .ref (ad 0 0)), (2, .int l2), (3, .int l3), (4, .int l4), (5, .long ((31 * ((31 * l5) + r32.toInt64)) + r35.toInt64)), (7, .int (l7 + 1))]) [2, 3, 4, 5, 1, 0] rfl
      exact ih hS hw hl (by omega) (by omega) h
def wL_state_8 (post : Int64 → Prop) (mc ms : Nat) : Nat → Nat → Nat → Int32 → Int32 → Int32 → Int32 → Int64 → Int32 → KS → Prop
  | 0 => fun _ _ _ _ _ _ _ _ _ => False
  | n + 1 => fun uc us l1 l2 l3 l4 l5 l7 K => ((l1 ≤ l7 → (∃ n1 : Nat, wL_state_58 post mc ms n1 uc us l2 l3 l4 l5 0 K)) ∧ (¬ l1 ≤ l7 → ((∃ a36 a37 : Nat, uc + a36 ≤ mc ∧ us + a37 ≤ ms ∧ wpL_c6 (fun r38 => (∃ a39 a40 : Nat, (uc + a36) + a39 ≤ mc ∧ (us + a37) + a40 ≤ ms ∧ wpL_c5 (fun r41 => wL_state_8 post mc ms n ((uc + a36) + a39) ((us + a37) + a40) l1 l2 l3 l4 ((31 * ((31 * l5) + r38.toInt64)) + r41.toInt64) (l7 + 1) K) a39 a40 K l7 0 0)) a36 a37 K l7 0 0))))
set_option maxHeartbeats 4000000 in
set_option maxRecDepth 100000 in
theorem bL_state_8 {p : Program} {l : Launch} {e : Env} {s : State} {m : MethodId} {args : Array Value} {below : List Frame} {meth : Method} {c : Code} {D : va_G} {cI : Nat → ClassId} {e0 : Nat} {A : Nat → Prop} {ad : Nat → Nat → Nat} {M : KS} {ap : Int64} {o : Int64} {od : UInt64} {mc ms : Nat} {K : KS} {post : Int64 → Prop} (hfl : l.stackTraces = false) (S : CallFix p m c cL_state 8 s args WU RL) (hg : GI D cI e0 A s s.heap) (hr : meth.sig.returnType = (some FieldType.long)) (hlk : meth.locks = false) (hout : ∀ x ∈ c.exceptionTable.toList, False) : ∀ n : Nat, ∀ {H : Heap} {locs : List Loc} {ls : Array Slot} {uc us : Nat} {l1 : Int32} {l2 : Int32} {l3 : Int32} {l4 : Int32} {l5 : Int64} {l7 : Int32}, va_S A s.heap H locs → HT D cI e0 A ad K M ap o od H → lv_has ls 8 [(0, .ref (ad 0 0)), (1, .int l1), (2, .int l2), (3, .int l3), (4, .int l4), (5, .long (l5)), (7, .int l7)] → uc ≤ mc → us ≤ ms → wL_state_8 post mc ms n uc us l1 l2 l3 l4 l5 l7 K → W p l e ({ frames := 10, cells := mc, slots := ms, locals := 391 } : Room) s m args below meth c H locs uc us (MQQ below (qP D cI e0 A ad K M ap o od rL post) xN args s mc ms A) (F0 m 8 ls []) := by
  intro n
  induction n with
  | zero => intros; exact False.elim (by assumption)
  | succ n ih =>
    intro H locs ls uc us l1 l2 l3 l4 l5 l7 hS hw hl huc hus h
    unfold wL_state_8 at h
    refine lv_iload S.1 S.2.1 dL_state_8 (lv_at hl 6 rfl) ?_
    refine lv_iload_n S.1 S.2.1 dL_state_10 rfl (lv_at hl 1 rfl) ?_
    refine lv_icmp_ge (tgt := 55) S.1 S.2.1 dL_state_11 (by decide) (fun c1 => ?_) (fun c1 => ?_)
    · have h := h.1 c1
      refine lv_iconst (v := 0) S.1 S.2.1 dL_state_55 (by decide) ?_
      refine lv_istore (lv' := [(7, .int 0), (0, .ref (ad 0 0)), (1, .int l1), (2, .int l2), (3, .int l3), (4, .int l4), (5, .long (l5))]) S.1 S.2.1 dL_state_56 hl (by decide) rfl (fun ls hl => ?_)
      have hl := lv_sub hl (l' := [(0, .ref (ad 0 0)), (2, .int l2), (3, .int l3), (4, .int l4), (5, .long (l5)), (7, .int 0)]) [1, 3, 4, 5, 6, 0] rfl
      obtain ⟨n1, h⟩ := h
      exact bL_state_58 hfl S hg hr hlk hout n1 hS hw hl (by omega) (by omega) h
    · have h := h.2 c1
      refine lv_ldc2 S.1 S.2.1 S.2.2.2.1 (S.2.2.2.2 _ u929) dL_state_14 ?_
      refine lv_ldc2 S.1 S.2.1 S.2.2.2.1 (S.2.2.2.2 _ u929) dL_state_17 ?_
      refine lv_lload S.1 S.2.1 dL_state_20 (lv_at hl 5 rfl) ?_
      refine lv_lmul S.1 S.2.1 dL_state_22 ?_
      refine lv_aload_n S.1 S.2.1 dL_state_23 rfl (lv_at hl 0 rfl) ?_
      refine lv_bipush (v := 6) S.1 S.2.1 dL_state_24 (by decide) ?_
      refine lv_iload S.1 S.2.1 dL_state_26 (lv_at hl 6 rfl) ?_
      refine lv_iconst (v := 0) S.1 S.2.1 dL_state_28 (by decide) ?_
      refine lv_iconst (v := 0) S.1 S.2.1 dL_state_29 (by decide) ?_
      obtain ⟨a36, a37, h1, h2, h⟩ := h
      refine r_callSW (rest := [.long (31 * l5), .long (31)]) S hg hS (mtL_c6 (mc := a36) (ms := a37) hfl h) u216 u217 u26 u218 hdL_call hw ⟨Nat.le_of_ble_eq_true rfl, Nat.le_of_ble_eq_true rfl⟩ ⟨by show uc + a36 ≤ mc; omega, by show us + a37 ≤ ms; omega⟩ hl.1 (Nat.le_of_ble_eq_true rfl) rfl dL_state_30 (fun rv H locs hq hS => ?_)
      obtain ⟨r38, rfl, h, hw⟩ := hq
      show W p l e _ s m _ below meth c H locs _ _ _ (F0 m 33 ls [.int r38, .long (31 * l5), .long (31)])
      refine lv_i2l S.1 S.2.1 dL_state_33 rfl ?_
      refine lv_ladd S.1 S.2.1 dL_state_34 ?_
      refine lv_lmul S.1 S.2.1 dL_state_35 ?_
      refine lv_aload_n S.1 S.2.1 dL_state_36 rfl (lv_at hl 0 rfl) ?_
      refine lv_iconst (v := 5) S.1 S.2.1 dL_state_37 (by decide) ?_
      refine lv_iload S.1 S.2.1 dL_state_38 (lv_at hl 6 rfl) ?_
      refine lv_iconst (v := 0) S.1 S.2.1 dL_state_40 (by decide) ?_
      refine lv_iconst (v := 0) S.1 S.2.1 dL_state_41 (by decide) ?_
      obtain ⟨a39, a40, h1, h2, h⟩ := h
      refine r_callSW (rest := [.long (31 * ((31 * l5) + r38.toInt64))]) S hg hS (mtL_c5 (mc := a39) (ms := a40) hfl h) u216 u217 u26 u218 hdL_call hw ⟨Nat.le_of_ble_eq_true rfl, Nat.le_of_ble_eq_true rfl⟩ ⟨by show (uc + a36) + a39 ≤ mc; omega, by show (us + a37) + a40 ≤ ms; omega⟩ hl.1 (Nat.le_of_ble_eq_true rfl) rfl dL_state_42 (fun rv H locs hq hS => ?_)
      obtain ⟨r41, rfl, h, hw⟩ := hq
      show W p l e _ s m _ below meth c H locs _ _ _ (F0 m 45 ls [.int r41, .long (31 * ((31 * l5) + r38.toInt64))])
      refine lv_i2l S.1 S.2.1 dL_state_45 rfl ?_
      refine lv_ladd S.1 S.2.1 dL_state_46 ?_
      refine lv_lstore (lv' := [(5, .long ((31 * ((31 * l5) + r38.toInt64)) + r41.toInt64)), (0, .ref (ad 0 0)), (1, .int l1), (2, .int l2), (3, .int l3), (4, .int l4), (7, .int l7)]) S.1 S.2.1 dL_state_47 hl (by decide) rfl (fun ls hl => ?_)
      refine lv_iinc (v := l7 + 1) (lv' := [(7, .int (l7 + 1)), (5, .long ((31 * ((31 * l5) + r38.toInt64)) + r41.toInt64)), (0, .ref (ad 0 0)), (1, .int l1), (2, .int l2), (3, .int l3), (4, .int l4)]) S.1 S.2.1 dL_state_49 hl (k := 6) rfl rfl (by decide) rfl (fun ls hl => ?_)
      refine lv_goto (tgt := 8) S.1 S.2.1 dL_state_52 (by decide) ?_
      have hl := lv_sub hl (l' := [(0, .ref (ad 0 0)), (1, .int l1), (2, .int l2), (3, .int l3), (4, .int l4), (5, .long ((31 * ((31 * l5) + r38.toInt64)) + r41.toInt64)), (7, .int (l7 + 1))]) [2, 3, 4, 5, 6, 1, 0] rfl
      exact ih hS hw hl (by omega) (by omega) h
def wpL_state (post : Int64 → Prop) (mc ms : Nat) (K : KS) (p2 : Int32) (p3 : Int32) (p4 : Int32) (p5 : Int32) : Prop := ∃ n1 : Nat, wL_state_8 post mc ms n1 0 0 p2 p3 p4 p5 277 0 K
theorem hdL_state : yL_state.cls ≠ "java/lang/invoke/MethodHandle" ∧ yL_state.cls ≠ "java/lang/invoke/VarHandle" ∧ (parseMethodDescriptor yL_state.desc).map (fun d => d.parameters.length) = some 5 := by decide +kernel
set_option maxHeartbeats 4000000 in
set_option maxRecDepth 100000 in
theorem mtL_state {l : Launch} {D : va_G} {cI : Nat → ClassId} {e0 : Nat} {A : Nat → Prop} {ad : Nat → Nat → Nat} {K M : KS} {ap o : Int64} {od : UInt64} {mc ms : Nat} {p2 : Int32} {p3 : Int32} {p4 : Int32} {p5 : Int32} {post : Int64 → Prop} (hfl : l.stackTraces = false) (h : wpL_state post mc ms K p2 p3 p4 p5) : CM l D cI e0 A yL_state cL_state 8 (some FieldType.long) 10 391 mc ms [.ref (ad 0 0), .int p2, .int p3, .int p4, .int p5] (HT D cI e0 A ad K M ap o od) (qP D cI e0 A ad K M ap o od rL post) xN := by
  refine CM.of (by decide) (Nat.le_of_ble_eq_true rfl) (fun p e s m below meth c ls FX hw hS hl => ?_)
  obtain ⟨S, hg, hr, hlk, hnm, hout⟩ := FX
  have hl : lv_has ls 8 [(0, .ref (ad 0 0)), (1, .int p2), (2, .int p3), (3, .int p4), (4, .int p5)] := hl
  unfold wpL_state at h
  refine lv_ldc2 S.1 S.2.1 S.2.2.2.1 (S.2.2.2.2 _ u928) dL_state_0 ?_
  refine lv_lstore (lv' := [(5, .long (277)), (0, .ref (ad 0 0)), (1, .int p2), (2, .int p3), (3, .int p4), (4, .int p5)]) S.1 S.2.1 dL_state_3 hl (by decide) rfl (fun ls hl => ?_)
  refine lv_iconst (v := 0) S.1 S.2.1 dL_state_5 (by decide) ?_
  refine lv_istore (lv' := [(7, .int 0), (5, .long (277)), (0, .ref (ad 0 0)), (1, .int p2), (2, .int p3), (3, .int p4), (4, .int p5)]) S.1 S.2.1 dL_state_6 hl (by decide) rfl (fun ls hl => ?_)
  have hl := lv_sub hl (l' := [(0, .ref (ad 0 0)), (1, .int p2), (2, .int p3), (3, .int p4), (4, .int p5), (5, .long (277)), (7, .int 0)]) [2, 3, 4, 5, 6, 1, 0] rfl
  obtain ⟨n1, h⟩ := h
  exact bL_state_8 hfl S hg hr hlk hout n1 hS hw hl (by omega) (by omega) h
