-- X1.effect
theorem dX1_effect_0 : decode cX1_effect 0 = .ok (.aload_n 0, 1) := by decide +kernel
theorem dX1_effect_1 : decode cX1_effect 1 = .ok (.getfield 22, 3) := by decide +kernel
theorem dX1_effect_4 : decode cX1_effect 4 = .ok (.iconst 4, 1) := by decide +kernel
theorem dX1_effect_5 : decode cX1_effect 5 = .ok (.irem, 1) := by decide +kernel
theorem dX1_effect_6 : decode cX1_effect 6 = .ok (.ireturn, 1) := by decide +kernel
def wpX1_effect (post : Int32 → Prop) (K : KS) (q0 : Nat) : Prop := (q0 < nC K) ∧ (post ((K 4 1 q0) - (K 4 1 q0) / 4 * 4))
theorem hdX1_effect : yX1_effect.cls ≠ "java/lang/invoke/MethodHandle" ∧ yX1_effect.cls ≠ "java/lang/invoke/VarHandle" ∧ (parseMethodDescriptor yX1_effect.desc).map (fun d => d.parameters.length) = some 0 := by decide +kernel
set_option maxHeartbeats 4000000 in
set_option maxRecDepth 100000 in
theorem mtX1_effect {l : Launch} {D : va_G} {cI : Nat → ClassId} {e0 : Nat} {A : Nat → Prop} {ad : Nat → Nat → Nat} {K M : KS} {ap o : Int64} {od : UInt64} {mc ms : Nat} {q0 : Nat} {post : Int32 → Prop} (h : wpX1_effect post K q0) : CM l D cI e0 A yX1_effect cX1_effect 1 (some FieldType.int) 0 0 mc ms [.ref (ad 4 q0)] (HT D cI e0 A ad K M ap o od) (qP D cI e0 A ad K M ap o od rI post) xN := by
  refine CM.of (by decide) (Nat.le_of_ble_eq_true rfl) (fun p e s m below meth c ls FX hw hS hl => ?_)
  obtain ⟨S, hg, hr, hlk, hnm, hout⟩ := FX
  have hl : lv_has ls 1 [(0, .ref (ad 4 q0))] := hl
  unfold wpX1_effect at h
  refine lv_aload_n S.1 S.2.1 dX1_effect_0 rfl (lv_at hl 0 rfl) ?_
  obtain ⟨g1, h⟩ := h
  refine g4_1 S hg hw g1 u383 dX1_effect_1 ?_
  refine lv_iconst (v := 4) S.1 S.2.1 dX1_effect_4 (by decide) ?_
  refine lv_irem S.1 S.2.1 dX1_effect_5 (by decide) ?_
  exact r_iret (y := yX1_effect) S hr rfl hlk hS (by omega) (by omega) dX1_effect_6 ⟨((K 4 1 q0) - (K 4 1 q0) / 4 * 4), rfl, h, hw⟩

-- X1.power
theorem dX1_power_0 : decode cX1_power 0 = .ok (.aload_n 0, 1) := by decide +kernel
theorem dX1_power_1 : decode cX1_power 1 = .ok (.getfield 22, 3) := by decide +kernel
theorem dX1_power_4 : decode cX1_power 4 = .ok (.iconst 4, 1) := by decide +kernel
theorem dX1_power_5 : decode cX1_power 5 = .ok (.idiv, 1) := by decide +kernel
theorem dX1_power_6 : decode cX1_power 6 = .ok (.iconst 1, 1) := by decide +kernel
theorem dX1_power_7 : decode cX1_power 7 = .ok (.iadd, 1) := by decide +kernel
theorem dX1_power_8 : decode cX1_power 8 = .ok (.ireturn, 1) := by decide +kernel
def wpX1_power (post : Int32 → Prop) (K : KS) (q0 : Nat) : Prop := (q0 < nC K) ∧ (post (((K 4 1 q0) / 4) + 1))
theorem hdX1_power : yX1_power.cls ≠ "java/lang/invoke/MethodHandle" ∧ yX1_power.cls ≠ "java/lang/invoke/VarHandle" ∧ (parseMethodDescriptor yX1_power.desc).map (fun d => d.parameters.length) = some 0 := by decide +kernel
set_option maxHeartbeats 4000000 in
set_option maxRecDepth 100000 in
theorem mtX1_power {l : Launch} {D : va_G} {cI : Nat → ClassId} {e0 : Nat} {A : Nat → Prop} {ad : Nat → Nat → Nat} {K M : KS} {ap o : Int64} {od : UInt64} {mc ms : Nat} {q0 : Nat} {post : Int32 → Prop} (h : wpX1_power post K q0) : CM l D cI e0 A yX1_power cX1_power 1 (some FieldType.int) 0 0 mc ms [.ref (ad 4 q0)] (HT D cI e0 A ad K M ap o od) (qP D cI e0 A ad K M ap o od rI post) xN := by
  refine CM.of (by decide) (Nat.le_of_ble_eq_true rfl) (fun p e s m below meth c ls FX hw hS hl => ?_)
  obtain ⟨S, hg, hr, hlk, hnm, hout⟩ := FX
  have hl : lv_has ls 1 [(0, .ref (ad 4 q0))] := hl
  unfold wpX1_power at h
  refine lv_aload_n S.1 S.2.1 dX1_power_0 rfl (lv_at hl 0 rfl) ?_
  obtain ⟨g1, h⟩ := h
  refine g4_1 S hg hw g1 u383 dX1_power_1 ?_
  refine lv_iconst (v := 4) S.1 S.2.1 dX1_power_4 (by decide) ?_
  refine lv_idiv S.1 S.2.1 dX1_power_5 (by decide) ?_
  refine lv_iconst (v := 1) S.1 S.2.1 dX1_power_6 (by decide) ?_
  refine lv_iadd S.1 S.2.1 dX1_power_7 ?_
  exact r_iret (y := yX1_power) S hr rfl hlk hS (by omega) (by omega) dX1_power_8 ⟨(((K 4 1 q0) / 4) + 1), rfl, h, hw⟩

-- X1.cost
theorem dX1_cost_0 : decode cX1_cost 0 = .ok (.aload_n 0, 1) := by decide +kernel
theorem dX1_cost_1 : decode cX1_cost 1 = .ok (.getfield 22, 3) := by decide +kernel
theorem dX1_cost_4 : decode cX1_cost 4 = .ok (.iconst 3, 1) := by decide +kernel
theorem dX1_cost_5 : decode cX1_cost 5 = .ok (.irem, 1) := by decide +kernel
theorem dX1_cost_6 : decode cX1_cost 6 = .ok (.ireturn, 1) := by decide +kernel
def wpX1_cost (post : Int32 → Prop) (K : KS) (q0 : Nat) : Prop := (q0 < nC K) ∧ (post ((K 4 1 q0) - (K 4 1 q0) / 3 * 3))
theorem hdX1_cost : yX1_cost.cls ≠ "java/lang/invoke/MethodHandle" ∧ yX1_cost.cls ≠ "java/lang/invoke/VarHandle" ∧ (parseMethodDescriptor yX1_cost.desc).map (fun d => d.parameters.length) = some 0 := by decide +kernel
set_option maxHeartbeats 4000000 in
set_option maxRecDepth 100000 in
theorem mtX1_cost {l : Launch} {D : va_G} {cI : Nat → ClassId} {e0 : Nat} {A : Nat → Prop} {ad : Nat → Nat → Nat} {K M : KS} {ap o : Int64} {od : UInt64} {mc ms : Nat} {q0 : Nat} {post : Int32 → Prop} (h : wpX1_cost post K q0) : CM l D cI e0 A yX1_cost cX1_cost 1 (some FieldType.int) 0 0 mc ms [.ref (ad 4 q0)] (HT D cI e0 A ad K M ap o od) (qP D cI e0 A ad K M ap o od rI post) xN := by
  refine CM.of (by decide) (Nat.le_of_ble_eq_true rfl) (fun p e s m below meth c ls FX hw hS hl => ?_)
  obtain ⟨S, hg, hr, hlk, hnm, hout⟩ := FX
  have hl : lv_has ls 1 [(0, .ref (ad 4 q0))] := hl
  unfold wpX1_cost at h
  refine lv_aload_n S.1 S.2.1 dX1_cost_0 rfl (lv_at hl 0 rfl) ?_
  obtain ⟨g1, h⟩ := h
  refine g4_1 S hg hw g1 u383 dX1_cost_1 ?_
  refine lv_iconst (v := 3) S.1 S.2.1 dX1_cost_4 (by decide) ?_
  refine lv_irem S.1 S.2.1 dX1_cost_5 (by decide) ?_
  exact r_iret (y := yX1_cost) S hr rfl hlk hS (by omega) (by omega) dX1_cost_6 ⟨((K 4 1 q0) - (K 4 1 q0) / 3 * 3), rfl, h, hw⟩

-- X5.placeOfUnplayed
theorem dX5_placeOfUnplayed_0 : decode cX5_placeOfUnplayed 0 = .ok (.iconst 0, 1) := by decide +kernel
theorem dX5_placeOfUnplayed_1 : decode cX5_placeOfUnplayed 1 = .ok (.istore_n 2, 1) := by decide +kernel
theorem dX5_placeOfUnplayed_2 : decode cX5_placeOfUnplayed 2 = .ok (.iload_n 2, 1) := by decide +kernel
theorem dX5_placeOfUnplayed_3 : decode cX5_placeOfUnplayed 3 = .ok (.aload_n 0, 1) := by decide +kernel
theorem dX5_placeOfUnplayed_4 : decode cX5_placeOfUnplayed 4 = .ok (.getfield 18, 3) := by decide +kernel
theorem dX5_placeOfUnplayed_7 : decode cX5_placeOfUnplayed 7 = .ok (.invokevirtual 29, 3) := by decide +kernel
theorem dX5_placeOfUnplayed_10 : decode cX5_placeOfUnplayed 10 = .ok (.if_icmp .ge 41, 3) := by decide +kernel
theorem dX5_placeOfUnplayed_13 : decode cX5_placeOfUnplayed 13 = .ok (.iload_n 2, 1) := by decide +kernel
theorem dX5_placeOfUnplayed_14 : decode cX5_placeOfUnplayed 14 = .ok (.aload_n 0, 1) := by decide +kernel
theorem dX5_placeOfUnplayed_15 : decode cX5_placeOfUnplayed 15 = .ok (.getfield 22, 3) := by decide +kernel
theorem dX5_placeOfUnplayed_18 : decode cX5_placeOfUnplayed 18 = .ok (.arraylength, 1) := by decide +kernel
theorem dX5_placeOfUnplayed_19 : decode cX5_placeOfUnplayed 19 = .ok (.if_icmp .ge 32, 3) := by decide +kernel
theorem dX5_placeOfUnplayed_22 : decode cX5_placeOfUnplayed 22 = .ok (.aload_n 0, 1) := by decide +kernel
theorem dX5_placeOfUnplayed_23 : decode cX5_placeOfUnplayed 23 = .ok (.getfield 18, 3) := by decide +kernel
theorem dX5_placeOfUnplayed_26 : decode cX5_placeOfUnplayed 26 = .ok (.iload_n 2, 1) := by decide +kernel
theorem dX5_placeOfUnplayed_27 : decode cX5_placeOfUnplayed 27 = .ok (.invokevirtual 33, 3) := by decide +kernel
theorem dX5_placeOfUnplayed_30 : decode cX5_placeOfUnplayed 30 = .ok (.aload_n 1, 1) := by decide +kernel
theorem dX5_placeOfUnplayed_31 : decode cX5_placeOfUnplayed 31 = .ok (.if_acmp .ne 14, 3) := by decide +kernel
theorem dX5_placeOfUnplayed_34 : decode cX5_placeOfUnplayed 34 = .ok (.aload_n 0, 1) := by decide +kernel
theorem dX5_placeOfUnplayed_35 : decode cX5_placeOfUnplayed 35 = .ok (.getfield 22, 3) := by decide +kernel
theorem dX5_placeOfUnplayed_38 : decode cX5_placeOfUnplayed 38 = .ok (.iload_n 2, 1) := by decide +kernel
theorem dX5_placeOfUnplayed_39 : decode cX5_placeOfUnplayed 39 = .ok (.iaload, 1) := by decide +kernel
theorem dX5_placeOfUnplayed_40 : decode cX5_placeOfUnplayed 40 = .ok (.ifCond .ne 5, 3) := by decide +kernel
theorem dX5_placeOfUnplayed_43 : decode cX5_placeOfUnplayed 43 = .ok (.iload_n 2, 1) := by decide +kernel
theorem dX5_placeOfUnplayed_44 : decode cX5_placeOfUnplayed 44 = .ok (.ireturn, 1) := by decide +kernel
theorem dX5_placeOfUnplayed_45 : decode cX5_placeOfUnplayed 45 = .ok (.iinc 2 1, 3) := by decide +kernel
theorem dX5_placeOfUnplayed_48 : decode cX5_placeOfUnplayed 48 = .ok (.goto (-46), 3) := by decide +kernel
theorem dX5_placeOfUnplayed_51 : decode cX5_placeOfUnplayed 51 = .ok (.iconst (-1), 1) := by decide +kernel
theorem dX5_placeOfUnplayed_52 : decode cX5_placeOfUnplayed 52 = .ok (.ireturn, 1) := by decide +kernel
def wX5_placeOfUnplayed_45 (post : Int32 → Prop) (bk2 : Nat → Nat → Int32 → KS → Prop) (l0 : Nat) (l1 : Nat) (l2 : Int32) (K : KS) : Prop := bk2 l0 l1 (l2 + 1) K
set_option maxHeartbeats 4000000 in
set_option maxRecDepth 100000 in
theorem bX5_placeOfUnplayed_45 {p : Program} {l : Launch} {e : Env} {s : State} {m : MethodId} {args : Array Value} {below : List Frame} {meth : Method} {c : Code} {D : va_G} {cI : Nat → ClassId} {e0 : Nat} {A : Nat → Prop} {ad : Nat → Nat → Nat} {M : KS} {ap : Int64} {o : Int64} {od : UInt64} {mc ms : Nat} {K : KS} {post : Int32 → Prop} {bk2 : Nat → Nat → Int32 → KS → Prop} (S : CallFix p m c cX5_placeOfUnplayed 3 s args WU RX5) (hg : GI D cI e0 A s s.heap) (hr : meth.sig.returnType = (some FieldType.int)) (hlk : meth.locks = false) (hout : ∀ x ∈ c.exceptionTable.toList, False) (hbk2 : ∀ {H : Heap} {locs : List Loc} {ls : Array Slot} {l0 : Nat} {l1 : Nat} {l2 : Int32}, va_S A s.heap H locs → HT D cI e0 A ad K M ap o od H → lv_has ls 3 [(0, .ref (ad 7 l0)), (1, .ref (ad 4 l1)), (2, .int l2)] → bk2 l0 l1 l2 K → W p l e ({ frames := 3, cells := mc, slots := ms, locals := 81 } : Room) s m args below meth c H locs 0 0 (MQQ below (qP D cI e0 A ad K M ap o od rI post) xN args s mc ms A) (F0 m 2 ls [])) {H : Heap} {locs : List Loc} {ls : Array Slot} {l0 : Nat} {l1 : Nat} {l2 : Int32} (hS : va_S A s.heap H locs) (hw : HT D cI e0 A ad K M ap o od H) (hl : lv_has ls 3 [(0, .ref (ad 7 l0)), (1, .ref (ad 4 l1)), (2, .int l2)]) (h : wX5_placeOfUnplayed_45 post bk2 l0 l1 l2 K) : W p l e ({ frames := 3, cells := mc, slots := ms, locals := 81 } : Room) s m args below meth c H locs 0 0 (MQQ below (qP D cI e0 A ad K M ap o od rI post) xN args s mc ms A) (F0 m 45 ls []) := by
  unfold wX5_placeOfUnplayed_45 at h
  refine lv_iinc (v := l2 + 1) (lv' := [(2, .int (l2 + 1)), (0, .ref (ad 7 l0)), (1, .ref (ad 4 l1))]) S.1 S.2.1 dX5_placeOfUnplayed_45 hl (k := 2) rfl rfl (by decide) rfl (fun ls hl => ?_)
  refine lv_goto (tgt := 2) S.1 S.2.1 dX5_placeOfUnplayed_48 (by decide) ?_
  have hl := lv_sub hl (l' := [(0, .ref (ad 7 l0)), (1, .ref (ad 4 l1)), (2, .int (l2 + 1))]) [1, 2, 0] rfl
  exact hbk2 hS hw hl h
def wX5_placeOfUnplayed_2 (post : Int32 → Prop) : Nat → Nat → Nat → Int32 → KS → Prop
  | 0 => fun _ _ _ _ => False
  | n + 1 => fun l0 l1 l2 K => (l0 < 2 * nD K) ∧ ((((K 8 2 (l0 + 4)) ≤ l2 → (post (-1))) ∧ (¬ (K 8 2 (l0 + 4)) ≤ l2 → ((((nI 8) ≤ l2 → (post (-1))) ∧ (¬ (nI 8) ≤ l2 → ((okGet K (l0 + 4) l2) ∧ (((K 9 (l0 + 4) l2.toNatClampNeg).toNatClampNeg < nC K) ∧ (l1 < nC K) ∧ ((¬ (K 9 (l0 + 4) l2.toNatClampNeg).toNatClampNeg = l1 → (wX5_placeOfUnplayed_45 post (wX5_placeOfUnplayed_2 post n) l0 l1 l2 K)) ∧ ((K 9 (l0 + 4) l2.toNatClampNeg).toNatClampNeg = l1 → ((vp_in l2 8) ∧ (((¬ (K 18 l0 l2.toNatClampNeg) = 0 → (wX5_placeOfUnplayed_45 post (wX5_placeOfUnplayed_2 post n) l0 l1 l2 K)) ∧ ((K 18 l0 l2.toNatClampNeg) = 0 → (post l2)))))))))))))))
set_option maxHeartbeats 4000000 in
set_option maxRecDepth 100000 in
theorem bX5_placeOfUnplayed_2 {p : Program} {l : Launch} {e : Env} {s : State} {m : MethodId} {args : Array Value} {below : List Frame} {meth : Method} {c : Code} {D : va_G} {cI : Nat → ClassId} {e0 : Nat} {A : Nat → Prop} {ad : Nat → Nat → Nat} {M : KS} {ap : Int64} {o : Int64} {od : UInt64} {mc ms : Nat} {K : KS} {post : Int32 → Prop} (S : CallFix p m c cX5_placeOfUnplayed 3 s args WU RX5) (hg : GI D cI e0 A s s.heap) (hr : meth.sig.returnType = (some FieldType.int)) (hlk : meth.locks = false) (hout : ∀ x ∈ c.exceptionTable.toList, False) : ∀ n : Nat, ∀ {H : Heap} {locs : List Loc} {ls : Array Slot} {l0 : Nat} {l1 : Nat} {l2 : Int32}, va_S A s.heap H locs → HT D cI e0 A ad K M ap o od H → lv_has ls 3 [(0, .ref (ad 7 l0)), (1, .ref (ad 4 l1)), (2, .int l2)] → wX5_placeOfUnplayed_2 post n l0 l1 l2 K → W p l e ({ frames := 3, cells := mc, slots := ms, locals := 81 } : Room) s m args below meth c H locs 0 0 (MQQ below (qP D cI e0 A ad K M ap o od rI post) xN args s mc ms A) (F0 m 2 ls []) := by
  intro n
  induction n with
  | zero => intros; exact False.elim (by assumption)
  | succ n ih =>
    intro H locs ls l0 l1 l2 hS hw hl h
    unfold wX5_placeOfUnplayed_2 at h
    refine lv_iload_n S.1 S.2.1 dX5_placeOfUnplayed_2 rfl (lv_at hl 2 rfl) ?_
    refine lv_aload_n S.1 S.2.1 dX5_placeOfUnplayed_3 rfl (lv_at hl 0 rfl) ?_
    obtain ⟨g1, h⟩ := h
    refine g7_2 S hg hw g1 u559 dX5_placeOfUnplayed_4 ?_
    refine rL_size S hg hS hw (lv8s g1) u676 hl.1 (Nat.le_of_ble_eq_true rfl) ⟨Nat.le_of_ble_eq_true rfl, Nat.le_of_ble_eq_true rfl⟩ ⟨by omega, by omega⟩ dX5_placeOfUnplayed_7 (fun H locs hw hS => ?_)
    refine lv_icmp_ge (tgt := 51) S.1 S.2.1 dX5_placeOfUnplayed_10 (by decide) (fun c2 => ?_) (fun c2 => ?_)
    · have h := h.1 c2
      refine lv_iconst (v := (-1)) S.1 S.2.1 dX5_placeOfUnplayed_51 (by decide) ?_
      exact r_iret (y := yX5_placeOfUnplayed) S hr rfl hlk hS (by omega) (by omega) dX5_placeOfUnplayed_52 ⟨(-1), rfl, h, hw⟩
    · have h := h.2 c2
      refine lv_iload_n S.1 S.2.1 dX5_placeOfUnplayed_13 rfl (lv_at hl 2 rfl) ?_
      refine lv_aload_n S.1 S.2.1 dX5_placeOfUnplayed_14 rfl (lv_at hl 0 rfl) ?_
      refine g7_3 S hg hw g1 u562 dX5_placeOfUnplayed_15 ?_
      refine n18 S hg hw g1 dX5_placeOfUnplayed_18 ?_
      refine lv_icmp_ge (tgt := 51) S.1 S.2.1 dX5_placeOfUnplayed_19 (by decide) (fun c3 => ?_) (fun c3 => ?_)
      · have h := h.1 c3
        refine lv_iconst (v := (-1)) S.1 S.2.1 dX5_placeOfUnplayed_51 (by decide) ?_
        exact r_iret (y := yX5_placeOfUnplayed) S hr rfl hlk hS (by omega) (by omega) dX5_placeOfUnplayed_52 ⟨(-1), rfl, h, hw⟩
      · have h := h.2 c3
        refine lv_aload_n S.1 S.2.1 dX5_placeOfUnplayed_22 rfl (lv_at hl 0 rfl) ?_
        refine g7_2 S hg hw g1 u559 dX5_placeOfUnplayed_23 ?_
        refine lv_iload_n S.1 S.2.1 dX5_placeOfUnplayed_26 rfl (lv_at hl 2 rfl) ?_
        obtain ⟨g4, h⟩ := h
        refine rL_get S hg hS hw (lv8s g1) g4 u677 hl.1 (Nat.le_of_ble_eq_true rfl) ⟨Nat.le_of_ble_eq_true rfl, Nat.le_of_ble_eq_true rfl⟩ ⟨by omega, by omega⟩ dX5_placeOfUnplayed_27 (fun H locs hw hS => ?_)
        show W p l e _ s m _ below meth c H locs _ _ _ (F0 m 30 ls [.ref (ad 4 ((K 9 (l0 + 4) l2.toNatClampNeg).toNatClampNeg))])
        refine lv_aload_n S.1 S.2.1 dX5_placeOfUnplayed_30 rfl (lv_at hl 1 rfl) ?_
        obtain ⟨g5, h⟩ := h
        obtain ⟨g6, h⟩ := h
        refine lv_acmp_ne (rx := some (ad 4 ((K 9 (l0 + 4) l2.toNatClampNeg).toNatClampNeg))) (ry := some (ad 4 l1)) (tgt := 45) S.1 S.2.1 dX5_placeOfUnplayed_31 (by decide) (fun c7 => ?_) (fun c7 => ?_)
        · have h := h.1 (fun z => c7 (congrArg (fun q => some (ad 4 q)) z))
          have hl := lv_sub hl (l' := [(0, .ref (ad 7 l0)), (1, .ref (ad 4 l1)), (2, .int l2)]) [0, 1, 2] rfl
          exact bX5_placeOfUnplayed_45 S hg hr hlk hout ih hS hw hl h
        · have h := h.2 (inj4 hw g5 g6 (Option.some.inj c7))
          refine lv_aload_n S.1 S.2.1 dX5_placeOfUnplayed_34 rfl (lv_at hl 0 rfl) ?_
          refine g7_3 S hg hw g1 u562 dX5_placeOfUnplayed_35 ?_
          refine lv_iload_n S.1 S.2.1 dX5_placeOfUnplayed_38 rfl (lv_at hl 2 rfl) ?_
          obtain ⟨g8, h⟩ := h
          refine a18 S hg hw g1 g8 dX5_placeOfUnplayed_39 ?_
          refine lv_if_ne (tgt := 45) S.1 S.2.1 dX5_placeOfUnplayed_40 (by decide) (fun c9 => ?_) (fun c9 => ?_)
          · have h := h.1 c9
            have hl := lv_sub hl (l' := [(0, .ref (ad 7 l0)), (1, .ref (ad 4 l1)), (2, .int l2)]) [0, 1, 2] rfl
            exact bX5_placeOfUnplayed_45 S hg hr hlk hout ih hS hw hl h
          · have h := h.2 c9
            refine lv_iload_n S.1 S.2.1 dX5_placeOfUnplayed_43 rfl (lv_at hl 2 rfl) ?_
            exact r_iret (y := yX5_placeOfUnplayed) S hr rfl hlk hS (by omega) (by omega) dX5_placeOfUnplayed_44 ⟨l2, rfl, h, hw⟩
def wpX5_placeOfUnplayed (post : Int32 → Prop) (K : KS) (q0 : Nat) (p1 : Nat) : Prop := ∃ n1 : Nat, wX5_placeOfUnplayed_2 post n1 q0 p1 0 K
theorem hdX5_placeOfUnplayed : yX5_placeOfUnplayed.cls ≠ "java/lang/invoke/MethodHandle" ∧ yX5_placeOfUnplayed.cls ≠ "java/lang/invoke/VarHandle" ∧ (parseMethodDescriptor yX5_placeOfUnplayed.desc).map (fun d => d.parameters.length) = some 1 := by decide +kernel
set_option maxHeartbeats 4000000 in
set_option maxRecDepth 100000 in
theorem mtX5_placeOfUnplayed {l : Launch} {D : va_G} {cI : Nat → ClassId} {e0 : Nat} {A : Nat → Prop} {ad : Nat → Nat → Nat} {K M : KS} {ap o : Int64} {od : UInt64} {mc ms : Nat} {q0 : Nat} {p1 : Nat} {post : Int32 → Prop} (h : wpX5_placeOfUnplayed post K q0 p1) : CM l D cI e0 A yX5_placeOfUnplayed cX5_placeOfUnplayed 3 (some FieldType.int) 3 81 mc ms [.ref (ad 7 q0), .ref (ad 4 p1)] (HT D cI e0 A ad K M ap o od) (qP D cI e0 A ad K M ap o od rI post) xN := by
  refine CM.of (by decide) (Nat.le_of_ble_eq_true rfl) (fun p e s m below meth c ls FX hw hS hl => ?_)
  obtain ⟨S, hg, hr, hlk, hnm, hout⟩ := FX
  have hl : lv_has ls 3 [(0, .ref (ad 7 q0)), (1, .ref (ad 4 p1))] := hl
  unfold wpX5_placeOfUnplayed at h
  refine lv_iconst (v := 0) S.1 S.2.1 dX5_placeOfUnplayed_0 (by decide) ?_
  refine lv_istore_n (lv' := [(2, .int 0), (0, .ref (ad 7 q0)), (1, .ref (ad 4 p1))]) S.1 S.2.1 dX5_placeOfUnplayed_1 rfl hl (by decide) rfl (fun ls hl => ?_)
  have hl := lv_sub hl (l' := [(0, .ref (ad 7 q0)), (1, .ref (ad 4 p1)), (2, .int 0)]) [1, 2, 0] rfl
  obtain ⟨n1, h⟩ := h
  exact bX5_placeOfUnplayed_2 S hg hr hlk hout n1 hS hw hl h

-- X5.hasPlayedAll
theorem dX5_hasPlayedAll_0 : decode cX5_hasPlayedAll 0 = .ok (.iconst 0, 1) := by decide +kernel
theorem dX5_hasPlayedAll_1 : decode cX5_hasPlayedAll 1 = .ok (.istore_n 1, 1) := by decide +kernel
theorem dX5_hasPlayedAll_2 : decode cX5_hasPlayedAll 2 = .ok (.iload_n 1, 1) := by decide +kernel
theorem dX5_hasPlayedAll_3 : decode cX5_hasPlayedAll 3 = .ok (.aload_n 0, 1) := by decide +kernel
theorem dX5_hasPlayedAll_4 : decode cX5_hasPlayedAll 4 = .ok (.getfield 18, 3) := by decide +kernel
theorem dX5_hasPlayedAll_7 : decode cX5_hasPlayedAll 7 = .ok (.invokevirtual 29, 3) := by decide +kernel
theorem dX5_hasPlayedAll_10 : decode cX5_hasPlayedAll 10 = .ok (.if_icmp .ge 29, 3) := by decide +kernel
theorem dX5_hasPlayedAll_13 : decode cX5_hasPlayedAll 13 = .ok (.iload_n 1, 1) := by decide +kernel
theorem dX5_hasPlayedAll_14 : decode cX5_hasPlayedAll 14 = .ok (.aload_n 0, 1) := by decide +kernel
theorem dX5_hasPlayedAll_15 : decode cX5_hasPlayedAll 15 = .ok (.getfield 22, 3) := by decide +kernel
theorem dX5_hasPlayedAll_18 : decode cX5_hasPlayedAll 18 = .ok (.arraylength, 1) := by decide +kernel
theorem dX5_hasPlayedAll_19 : decode cX5_hasPlayedAll 19 = .ok (.if_icmp .ge 20, 3) := by decide +kernel
theorem dX5_hasPlayedAll_22 : decode cX5_hasPlayedAll 22 = .ok (.aload_n 0, 1) := by decide +kernel
theorem dX5_hasPlayedAll_23 : decode cX5_hasPlayedAll 23 = .ok (.getfield 22, 3) := by decide +kernel
theorem dX5_hasPlayedAll_26 : decode cX5_hasPlayedAll 26 = .ok (.iload_n 1, 1) := by decide +kernel
theorem dX5_hasPlayedAll_27 : decode cX5_hasPlayedAll 27 = .ok (.iaload, 1) := by decide +kernel
theorem dX5_hasPlayedAll_28 : decode cX5_hasPlayedAll 28 = .ok (.ifCond .ne 5, 3) := by decide +kernel
theorem dX5_hasPlayedAll_31 : decode cX5_hasPlayedAll 31 = .ok (.iconst 0, 1) := by decide +kernel
theorem dX5_hasPlayedAll_32 : decode cX5_hasPlayedAll 32 = .ok (.ireturn, 1) := by decide +kernel
theorem dX5_hasPlayedAll_33 : decode cX5_hasPlayedAll 33 = .ok (.iinc 1 1, 3) := by decide +kernel
theorem dX5_hasPlayedAll_36 : decode cX5_hasPlayedAll 36 = .ok (.goto (-34), 3) := by decide +kernel
theorem dX5_hasPlayedAll_39 : decode cX5_hasPlayedAll 39 = .ok (.iconst 1, 1) := by decide +kernel
theorem dX5_hasPlayedAll_40 : decode cX5_hasPlayedAll 40 = .ok (.ireturn, 1) := by decide +kernel
def wX5_hasPlayedAll_2 (post : Int32 → Prop) : Nat → Nat → Int32 → KS → Prop
  | 0 => fun _ _ _ => False
  | n + 1 => fun l0 l1 K => (l0 < 2 * nD K) ∧ ((((K 8 2 (l0 + 4)) ≤ l1 → (post 1)) ∧ (¬ (K 8 2 (l0 + 4)) ≤ l1 → ((((nI 8) ≤ l1 → (post 1)) ∧ (¬ (nI 8) ≤ l1 → ((vp_in l1 8) ∧ (((¬ (K 18 l0 l1.toNatClampNeg) = 0 → (wX5_hasPlayedAll_2 post n l0 (l1 + 1) K)) ∧ ((K 18 l0 l1.toNatClampNeg) = 0 → (post 0)))))))))))
set_option maxHeartbeats 4000000 in
set_option maxRecDepth 100000 in
theorem bX5_hasPlayedAll_2 {p : Program} {l : Launch} {e : Env} {s : State} {m : MethodId} {args : Array Value} {below : List Frame} {meth : Method} {c : Code} {D : va_G} {cI : Nat → ClassId} {e0 : Nat} {A : Nat → Prop} {ad : Nat → Nat → Nat} {M : KS} {ap : Int64} {o : Int64} {od : UInt64} {mc ms : Nat} {K : KS} {post : Int32 → Prop} (S : CallFix p m c cX5_hasPlayedAll 2 s args WU RX5) (hg : GI D cI e0 A s s.heap) (hr : meth.sig.returnType = (some FieldType.boolean)) (hlk : meth.locks = false) (hout : ∀ x ∈ c.exceptionTable.toList, False) : ∀ n : Nat, ∀ {H : Heap} {locs : List Loc} {ls : Array Slot} {l0 : Nat} {l1 : Int32}, va_S A s.heap H locs → HT D cI e0 A ad K M ap o od H → lv_has ls 2 [(0, .ref (ad 7 l0)), (1, .int l1)] → wX5_hasPlayedAll_2 post n l0 l1 K → W p l e ({ frames := 1, cells := mc, slots := ms, locals := 20 } : Room) s m args below meth c H locs 0 0 (MQQ below (qP D cI e0 A ad K M ap o od rI post) xN args s mc ms A) (F0 m 2 ls []) := by
  intro n
  induction n with
  | zero => intros; exact False.elim (by assumption)
  | succ n ih =>
    intro H locs ls l0 l1 hS hw hl h
    unfold wX5_hasPlayedAll_2 at h
    refine lv_iload_n S.1 S.2.1 dX5_hasPlayedAll_2 rfl (lv_at hl 1 rfl) ?_
    refine lv_aload_n S.1 S.2.1 dX5_hasPlayedAll_3 rfl (lv_at hl 0 rfl) ?_
    obtain ⟨g1, h⟩ := h
    refine g7_2 S hg hw g1 u559 dX5_hasPlayedAll_4 ?_
    refine rL_size S hg hS hw (lv8s g1) u676 hl.1 (Nat.le_of_ble_eq_true rfl) ⟨Nat.le_of_ble_eq_true rfl, Nat.le_of_ble_eq_true rfl⟩ ⟨by omega, by omega⟩ dX5_hasPlayedAll_7 (fun H locs hw hS => ?_)
    refine lv_icmp_ge (tgt := 39) S.1 S.2.1 dX5_hasPlayedAll_10 (by decide) (fun c2 => ?_) (fun c2 => ?_)
    · have h := h.1 c2
      refine lv_iconst (v := 1) S.1 S.2.1 dX5_hasPlayedAll_39 (by decide) ?_
      exact r_iret (y := yX5_hasPlayedAll) S hr rfl hlk hS (by omega) (by omega) dX5_hasPlayedAll_40 ⟨1, rfl, h, hw⟩
    · have h := h.2 c2
      refine lv_iload_n S.1 S.2.1 dX5_hasPlayedAll_13 rfl (lv_at hl 1 rfl) ?_
      refine lv_aload_n S.1 S.2.1 dX5_hasPlayedAll_14 rfl (lv_at hl 0 rfl) ?_
      refine g7_3 S hg hw g1 u562 dX5_hasPlayedAll_15 ?_
      refine n18 S hg hw g1 dX5_hasPlayedAll_18 ?_
      refine lv_icmp_ge (tgt := 39) S.1 S.2.1 dX5_hasPlayedAll_19 (by decide) (fun c3 => ?_) (fun c3 => ?_)
      · have h := h.1 c3
        refine lv_iconst (v := 1) S.1 S.2.1 dX5_hasPlayedAll_39 (by decide) ?_
        exact r_iret (y := yX5_hasPlayedAll) S hr rfl hlk hS (by omega) (by omega) dX5_hasPlayedAll_40 ⟨1, rfl, h, hw⟩
      · have h := h.2 c3
        refine lv_aload_n S.1 S.2.1 dX5_hasPlayedAll_22 rfl (lv_at hl 0 rfl) ?_
        refine g7_3 S hg hw g1 u562 dX5_hasPlayedAll_23 ?_
        refine lv_iload_n S.1 S.2.1 dX5_hasPlayedAll_26 rfl (lv_at hl 1 rfl) ?_
        obtain ⟨g4, h⟩ := h
        refine a18 S hg hw g1 g4 dX5_hasPlayedAll_27 ?_
        refine lv_if_ne (tgt := 33) S.1 S.2.1 dX5_hasPlayedAll_28 (by decide) (fun c5 => ?_) (fun c5 => ?_)
        · have h := h.1 c5
          refine lv_iinc (v := l1 + 1) (lv' := [(1, .int (l1 + 1)), (0, .ref (ad 7 l0))]) S.1 S.2.1 dX5_hasPlayedAll_33 hl (k := 1) rfl rfl (by decide) rfl (fun ls hl => ?_)
          refine lv_goto (tgt := 2) S.1 S.2.1 dX5_hasPlayedAll_36 (by decide) ?_
          have hl := lv_sub hl (l' := [(0, .ref (ad 7 l0)), (1, .int (l1 + 1))]) [1, 0] rfl
          exact ih hS hw hl h
        · have h := h.2 c5
          refine lv_iconst (v := 0) S.1 S.2.1 dX5_hasPlayedAll_31 (by decide) ?_
          exact r_iret (y := yX5_hasPlayedAll) S hr rfl hlk hS (by omega) (by omega) dX5_hasPlayedAll_32 ⟨0, rfl, h, hw⟩
def wpX5_hasPlayedAll (post : Int32 → Prop) (K : KS) (q0 : Nat) : Prop := ∃ n1 : Nat, wX5_hasPlayedAll_2 post n1 q0 0 K
theorem hdX5_hasPlayedAll : yX5_hasPlayedAll.cls ≠ "java/lang/invoke/MethodHandle" ∧ yX5_hasPlayedAll.cls ≠ "java/lang/invoke/VarHandle" ∧ (parseMethodDescriptor yX5_hasPlayedAll.desc).map (fun d => d.parameters.length) = some 0 := by decide +kernel
set_option maxHeartbeats 4000000 in
set_option maxRecDepth 100000 in
theorem mtX5_hasPlayedAll {l : Launch} {D : va_G} {cI : Nat → ClassId} {e0 : Nat} {A : Nat → Prop} {ad : Nat → Nat → Nat} {K M : KS} {ap o : Int64} {od : UInt64} {mc ms : Nat} {q0 : Nat} {post : Int32 → Prop} (h : wpX5_hasPlayedAll post K q0) : CM l D cI e0 A yX5_hasPlayedAll cX5_hasPlayedAll 2 (some FieldType.boolean) 1 20 mc ms [.ref (ad 7 q0)] (HT D cI e0 A ad K M ap o od) (qP D cI e0 A ad K M ap o od rI post) xN := by
  refine CM.of (by decide) (Nat.le_of_ble_eq_true rfl) (fun p e s m below meth c ls FX hw hS hl => ?_)
  obtain ⟨S, hg, hr, hlk, hnm, hout⟩ := FX
  have hl : lv_has ls 2 [(0, .ref (ad 7 q0))] := hl
  unfold wpX5_hasPlayedAll at h
  refine lv_iconst (v := 0) S.1 S.2.1 dX5_hasPlayedAll_0 (by decide) ?_
  refine lv_istore_n (lv' := [(1, .int 0), (0, .ref (ad 7 q0))]) S.1 S.2.1 dX5_hasPlayedAll_1 rfl hl (by decide) rfl (fun ls hl => ?_)
  have hl := lv_sub hl (l' := [(0, .ref (ad 7 q0)), (1, .int 0)]) [1, 0] rfl
  obtain ⟨n1, h⟩ := h
  exact bX5_hasPlayedAll_2 S hg hr hlk hout n1 hS hw hl h

-- X2.hasNotEnded
theorem dX2_hasNotEnded_0 : decode cX2_hasNotEnded 0 = .ok (.aload_n 0, 1) := by decide +kernel
theorem dX2_hasNotEnded_1 : decode cX2_hasNotEnded 1 = .ok (.getfield 9, 3) := by decide +kernel
theorem dX2_hasNotEnded_4 : decode cX2_hasNotEnded 4 = .ok (.bipush 111, 2) := by decide +kernel
theorem dX2_hasNotEnded_6 : decode cX2_hasNotEnded 6 = .ok (.if_icmp .eq 12, 3) := by decide +kernel
theorem dX2_hasNotEnded_9 : decode cX2_hasNotEnded 9 = .ok (.aload_n 0, 1) := by decide +kernel
theorem dX2_hasNotEnded_10 : decode cX2_hasNotEnded 10 = .ok (.getfield 9, 3) := by decide +kernel
theorem dX2_hasNotEnded_13 : decode cX2_hasNotEnded 13 = .ok (.bipush 103, 2) := by decide +kernel
theorem dX2_hasNotEnded_15 : decode cX2_hasNotEnded 15 = .ok (.if_icmp .ne 7, 3) := by decide +kernel
theorem dX2_hasNotEnded_18 : decode cX2_hasNotEnded 18 = .ok (.iconst 1, 1) := by decide +kernel
theorem dX2_hasNotEnded_19 : decode cX2_hasNotEnded 19 = .ok (.goto 4, 3) := by decide +kernel
theorem dX2_hasNotEnded_22 : decode cX2_hasNotEnded 22 = .ok (.iconst 0, 1) := by decide +kernel
theorem dX2_hasNotEnded_23 : decode cX2_hasNotEnded 23 = .ok (.ireturn, 1) := by decide +kernel
def wpX2_hasNotEnded (post : Int32 → Prop) (K : KS) (q0 : Nat) : Prop := (q0 < nD K) ∧ ((((K 6 2 q0) = 111 → (post 1)) ∧ (¬ (K 6 2 q0) = 111 → (((¬ (K 6 2 q0) = 103 → (post 0)) ∧ ((K 6 2 q0) = 103 → (post 1)))))))
theorem hdX2_hasNotEnded : yX2_hasNotEnded.cls ≠ "java/lang/invoke/MethodHandle" ∧ yX2_hasNotEnded.cls ≠ "java/lang/invoke/VarHandle" ∧ (parseMethodDescriptor yX2_hasNotEnded.desc).map (fun d => d.parameters.length) = some 0 := by decide +kernel
set_option maxHeartbeats 4000000 in
set_option maxRecDepth 100000 in
theorem mtX2_hasNotEnded {l : Launch} {D : va_G} {cI : Nat → ClassId} {e0 : Nat} {A : Nat → Prop} {ad : Nat → Nat → Nat} {K M : KS} {ap o : Int64} {od : UInt64} {mc ms : Nat} {q0 : Nat} {post : Int32 → Prop} (h : wpX2_hasNotEnded post K q0) : CM l D cI e0 A yX2_hasNotEnded cX2_hasNotEnded 1 (some FieldType.boolean) 0 0 mc ms [.ref (ad 6 q0)] (HT D cI e0 A ad K M ap o od) (qP D cI e0 A ad K M ap o od rI post) xN := by
  refine CM.of (by decide) (Nat.le_of_ble_eq_true rfl) (fun p e s m below meth c ls FX hw hS hl => ?_)
  obtain ⟨S, hg, hr, hlk, hnm, hout⟩ := FX
  have hl : lv_has ls 1 [(0, .ref (ad 6 q0))] := hl
  unfold wpX2_hasNotEnded at h
  refine lv_aload_n S.1 S.2.1 dX2_hasNotEnded_0 rfl (lv_at hl 0 rfl) ?_
  obtain ⟨g1, h⟩ := h
  refine g6_2 S hg hw g1 u577 dX2_hasNotEnded_1 ?_
  refine lv_bipush (v := 111) S.1 S.2.1 dX2_hasNotEnded_4 (by decide) ?_
  refine lv_icmp_eq (tgt := 18) S.1 S.2.1 dX2_hasNotEnded_6 (by decide) (fun c2 => ?_) (fun c2 => ?_)
  · have h := h.1 c2
    refine lv_iconst (v := 1) S.1 S.2.1 dX2_hasNotEnded_18 (by decide) ?_
    refine lv_goto (tgt := 23) S.1 S.2.1 dX2_hasNotEnded_19 (by decide) ?_
    exact r_iret (y := yX2_hasNotEnded) S hr rfl hlk hS (by omega) (by omega) dX2_hasNotEnded_23 ⟨1, rfl, h, hw⟩
  · have h := h.2 c2
    refine lv_aload_n S.1 S.2.1 dX2_hasNotEnded_9 rfl (lv_at hl 0 rfl) ?_
    refine g6_2 S hg hw g1 u577 dX2_hasNotEnded_10 ?_
    refine lv_bipush (v := 103) S.1 S.2.1 dX2_hasNotEnded_13 (by decide) ?_
    refine lv_icmp_ne (tgt := 22) S.1 S.2.1 dX2_hasNotEnded_15 (by decide) (fun c3 => ?_) (fun c3 => ?_)
    · have h := h.1 c3
      refine lv_iconst (v := 0) S.1 S.2.1 dX2_hasNotEnded_22 (by decide) ?_
      exact r_iret (y := yX2_hasNotEnded) S hr rfl hlk hS (by omega) (by omega) dX2_hasNotEnded_23 ⟨0, rfl, h, hw⟩
    · have h := h.2 c3
      refine lv_iconst (v := 1) S.1 S.2.1 dX2_hasNotEnded_18 (by decide) ?_
      refine lv_goto (tgt := 23) S.1 S.2.1 dX2_hasNotEnded_19 (by decide) ?_
      exact r_iret (y := yX2_hasNotEnded) S hr rfl hlk hS (by omega) (by omega) dX2_hasNotEnded_23 ⟨1, rfl, h, hw⟩

-- X2.isOf
theorem dX2_isOf_0 : decode cX2_isOf 0 = .ok (.aload_n 0, 1) := by decide +kernel
theorem dX2_isOf_1 : decode cX2_isOf 1 = .ok (.getfield 36, 3) := by decide +kernel
theorem dX2_isOf_4 : decode cX2_isOf 4 = .ok (.getfield 43, 3) := by decide +kernel
theorem dX2_isOf_7 : decode cX2_isOf 7 = .ok (.iload_n 1, 1) := by decide +kernel
theorem dX2_isOf_8 : decode cX2_isOf 8 = .ok (.if_icmp .eq 14, 3) := by decide +kernel
theorem dX2_isOf_11 : decode cX2_isOf 11 = .ok (.aload_n 0, 1) := by decide +kernel
theorem dX2_isOf_12 : decode cX2_isOf 12 = .ok (.getfield 40, 3) := by decide +kernel
theorem dX2_isOf_15 : decode cX2_isOf 15 = .ok (.getfield 43, 3) := by decide +kernel
theorem dX2_isOf_18 : decode cX2_isOf 18 = .ok (.iload_n 1, 1) := by decide +kernel
theorem dX2_isOf_19 : decode cX2_isOf 19 = .ok (.if_icmp .ne 7, 3) := by decide +kernel
theorem dX2_isOf_22 : decode cX2_isOf 22 = .ok (.iconst 1, 1) := by decide +kernel
theorem dX2_isOf_23 : decode cX2_isOf 23 = .ok (.goto 4, 3) := by decide +kernel
theorem dX2_isOf_26 : decode cX2_isOf 26 = .ok (.iconst 0, 1) := by decide +kernel
theorem dX2_isOf_27 : decode cX2_isOf 27 = .ok (.ireturn, 1) := by decide +kernel
def wpX2_isOf (post : Int32 → Prop) (K : KS) (q0 : Nat) (p1 : Int32) : Prop := (q0 < nD K) ∧ ((((K 7 0 (2 * q0)) = p1 → (post 1)) ∧ (¬ (K 7 0 (2 * q0)) = p1 → (((¬ (K 7 0 (2 * q0 + 1)) = p1 → (post 0)) ∧ ((K 7 0 (2 * q0 + 1)) = p1 → (post 1)))))))
theorem hdX2_isOf : yX2_isOf.cls ≠ "java/lang/invoke/MethodHandle" ∧ yX2_isOf.cls ≠ "java/lang/invoke/VarHandle" ∧ (parseMethodDescriptor yX2_isOf.desc).map (fun d => d.parameters.length) = some 1 := by decide +kernel
set_option maxHeartbeats 4000000 in
set_option maxRecDepth 100000 in
theorem mtX2_isOf {l : Launch} {D : va_G} {cI : Nat → ClassId} {e0 : Nat} {A : Nat → Prop} {ad : Nat → Nat → Nat} {K M : KS} {ap o : Int64} {od : UInt64} {mc ms : Nat} {q0 : Nat} {p1 : Int32} {post : Int32 → Prop} (h : wpX2_isOf post K q0 p1) : CM l D cI e0 A yX2_isOf cX2_isOf 2 (some FieldType.boolean) 0 0 mc ms [.ref (ad 6 q0), .int p1] (HT D cI e0 A ad K M ap o od) (qP D cI e0 A ad K M ap o od rI post) xN := by
  refine CM.of (by decide) (Nat.le_of_ble_eq_true rfl) (fun p e s m below meth c ls FX hw hS hl => ?_)
  obtain ⟨S, hg, hr, hlk, hnm, hout⟩ := FX
  have hl : lv_has ls 2 [(0, .ref (ad 6 q0)), (1, .int p1)] := hl
  unfold wpX2_isOf at h
  refine lv_aload_n S.1 S.2.1 dX2_isOf_0 rfl (lv_at hl 0 rfl) ?_
  obtain ⟨g1, h⟩ := h
  refine g6_0 S hg hw g1 u573 dX2_isOf_1 ?_
  refine g7_0 S hg hw (lt2 g1) u554 dX2_isOf_4 ?_
  refine lv_iload_n S.1 S.2.1 dX2_isOf_7 rfl (lv_at hl 1 rfl) ?_
  refine lv_icmp_eq (tgt := 22) S.1 S.2.1 dX2_isOf_8 (by decide) (fun c2 => ?_) (fun c2 => ?_)
  · have h := h.1 c2
    refine lv_iconst (v := 1) S.1 S.2.1 dX2_isOf_22 (by decide) ?_
    refine lv_goto (tgt := 27) S.1 S.2.1 dX2_isOf_23 (by decide) ?_
    exact r_iret (y := yX2_isOf) S hr rfl hlk hS (by omega) (by omega) dX2_isOf_27 ⟨1, rfl, h, hw⟩
  · have h := h.2 c2
    refine lv_aload_n S.1 S.2.1 dX2_isOf_11 rfl (lv_at hl 0 rfl) ?_
    refine g6_1 S hg hw g1 u575 dX2_isOf_12 ?_
    refine g7_0 S hg hw (lt2s g1) u554 dX2_isOf_15 ?_
    refine lv_iload_n S.1 S.2.1 dX2_isOf_18 rfl (lv_at hl 1 rfl) ?_
    refine lv_icmp_ne (tgt := 26) S.1 S.2.1 dX2_isOf_19 (by decide) (fun c3 => ?_) (fun c3 => ?_)
    · have h := h.1 c3
      refine lv_iconst (v := 0) S.1 S.2.1 dX2_isOf_26 (by decide) ?_
      exact r_iret (y := yX2_isOf) S hr rfl hlk hS (by omega) (by omega) dX2_isOf_27 ⟨0, rfl, h, hw⟩
    · have h := h.2 c3
      refine lv_iconst (v := 1) S.1 S.2.1 dX2_isOf_22 (by decide) ?_
      refine lv_goto (tgt := 27) S.1 S.2.1 dX2_isOf_23 (by decide) ?_
      exact r_iret (y := yX2_isOf) S hr rfl hlk hS (by omega) (by omega) dX2_isOf_27 ⟨1, rfl, h, hw⟩

-- X2.sideOf
theorem dX2_sideOf_0 : decode cX2_sideOf 0 = .ok (.aload_n 0, 1) := by decide +kernel
theorem dX2_sideOf_1 : decode cX2_sideOf 1 = .ok (.getfield 36, 3) := by decide +kernel
theorem dX2_sideOf_4 : decode cX2_sideOf 4 = .ok (.getfield 43, 3) := by decide +kernel
theorem dX2_sideOf_7 : decode cX2_sideOf 7 = .ok (.iload_n 1, 1) := by decide +kernel
theorem dX2_sideOf_8 : decode cX2_sideOf 8 = .ok (.if_icmp .ne 10, 3) := by decide +kernel
theorem dX2_sideOf_11 : decode cX2_sideOf 11 = .ok (.aload_n 0, 1) := by decide +kernel
theorem dX2_sideOf_12 : decode cX2_sideOf 12 = .ok (.getfield 36, 3) := by decide +kernel
theorem dX2_sideOf_15 : decode cX2_sideOf 15 = .ok (.goto 7, 3) := by decide +kernel
theorem dX2_sideOf_18 : decode cX2_sideOf 18 = .ok (.aload_n 0, 1) := by decide +kernel
theorem dX2_sideOf_19 : decode cX2_sideOf 19 = .ok (.getfield 40, 3) := by decide +kernel
theorem dX2_sideOf_22 : decode cX2_sideOf 22 = .ok (.areturn, 1) := by decide +kernel
def wpX2_sideOf (post : Nat → Prop) (K : KS) (q0 : Nat) (p1 : Int32) : Prop := (q0 < nD K) ∧ (((¬ (K 7 0 (2 * q0)) = p1 → (post (2 * q0 + 1))) ∧ ((K 7 0 (2 * q0)) = p1 → (post (2 * q0)))))
theorem hdX2_sideOf : yX2_sideOf.cls ≠ "java/lang/invoke/MethodHandle" ∧ yX2_sideOf.cls ≠ "java/lang/invoke/VarHandle" ∧ (parseMethodDescriptor yX2_sideOf.desc).map (fun d => d.parameters.length) = some 1 := by decide +kernel
set_option maxHeartbeats 4000000 in
set_option maxRecDepth 100000 in
theorem mtX2_sideOf {l : Launch} {D : va_G} {cI : Nat → ClassId} {e0 : Nat} {A : Nat → Prop} {ad : Nat → Nat → Nat} {K M : KS} {ap o : Int64} {od : UInt64} {mc ms : Nat} {q0 : Nat} {p1 : Int32} {post : Nat → Prop} (h : wpX2_sideOf post K q0 p1) : CM l D cI e0 A yX2_sideOf cX2_sideOf 2 (some (FieldType.object "SnapshotArena$Side")) 0 0 mc ms [.ref (ad 6 q0), .int p1] (HT D cI e0 A ad K M ap o od) (qP D cI e0 A ad K M ap o od (rR ad 7) post) xN := by
  refine CM.of (by decide) (Nat.le_of_ble_eq_true rfl) (fun p e s m below meth c ls FX hw hS hl => ?_)
  obtain ⟨S, hg, hr, hlk, hnm, hout⟩ := FX
  have hl : lv_has ls 2 [(0, .ref (ad 6 q0)), (1, .int p1)] := hl
  unfold wpX2_sideOf at h
  refine lv_aload_n S.1 S.2.1 dX2_sideOf_0 rfl (lv_at hl 0 rfl) ?_
  obtain ⟨g1, h⟩ := h
  refine g6_0 S hg hw g1 u573 dX2_sideOf_1 ?_
  refine g7_0 S hg hw (lt2 g1) u554 dX2_sideOf_4 ?_
  refine lv_iload_n S.1 S.2.1 dX2_sideOf_7 rfl (lv_at hl 1 rfl) ?_
  refine lv_icmp_ne (tgt := 18) S.1 S.2.1 dX2_sideOf_8 (by decide) (fun c2 => ?_) (fun c2 => ?_)
  · have h := h.1 c2
    refine lv_aload_n S.1 S.2.1 dX2_sideOf_18 rfl (lv_at hl 0 rfl) ?_
    refine g6_1 S hg hw g1 u575 dX2_sideOf_19 ?_
    exact r_aret (y := yX2_sideOf) S hr (Or.inl ⟨_, rfl⟩) hlk hS (by omega) (by omega) dX2_sideOf_22 ⟨(2 * q0 + 1), rfl, h, hw⟩
  · have h := h.2 c2
    refine lv_aload_n S.1 S.2.1 dX2_sideOf_11 rfl (lv_at hl 0 rfl) ?_
    refine g6_0 S hg hw g1 u573 dX2_sideOf_12 ?_
    refine lv_goto (tgt := 22) S.1 S.2.1 dX2_sideOf_15 (by decide) ?_
    exact r_aret (y := yX2_sideOf) S hr (Or.inl ⟨_, rfl⟩) hlk hS (by omega) (by omega) dX2_sideOf_22 ⟨(2 * q0), rfl, h, hw⟩

-- X2.countStaked
theorem dX2_countStaked_0 : decode cX2_countStaked 0 = .ok (.aload_n 0, 1) := by decide +kernel
theorem dX2_countStaked_1 : decode cX2_countStaked 1 = .ok (.getfield 36, 3) := by decide +kernel
theorem dX2_countStaked_4 : decode cX2_countStaked 4 = .ok (.getfield 46, 3) := by decide +kernel
theorem dX2_countStaked_7 : decode cX2_countStaked 7 = .ok (.invokevirtual 50, 3) := by decide +kernel
theorem dX2_countStaked_10 : decode cX2_countStaked 10 = .ok (.aload_n 0, 1) := by decide +kernel
theorem dX2_countStaked_11 : decode cX2_countStaked 11 = .ok (.getfield 40, 3) := by decide +kernel
theorem dX2_countStaked_14 : decode cX2_countStaked 14 = .ok (.getfield 46, 3) := by decide +kernel
theorem dX2_countStaked_17 : decode cX2_countStaked 17 = .ok (.invokevirtual 50, 3) := by decide +kernel
theorem dX2_countStaked_20 : decode cX2_countStaked 20 = .ok (.iadd, 1) := by decide +kernel
theorem dX2_countStaked_21 : decode cX2_countStaked 21 = .ok (.ireturn, 1) := by decide +kernel
def wpX2_countStaked (post : Int32 → Prop) (K : KS) (q0 : Nat) : Prop := (q0 < nD K) ∧ (post ((K 8 2 ((2 * q0) + 4)) + (K 8 2 ((2 * q0 + 1) + 4))))
theorem hdX2_countStaked : yX2_countStaked.cls ≠ "java/lang/invoke/MethodHandle" ∧ yX2_countStaked.cls ≠ "java/lang/invoke/VarHandle" ∧ (parseMethodDescriptor yX2_countStaked.desc).map (fun d => d.parameters.length) = some 0 := by decide +kernel
set_option maxHeartbeats 4000000 in
set_option maxRecDepth 100000 in
theorem mtX2_countStaked {l : Launch} {D : va_G} {cI : Nat → ClassId} {e0 : Nat} {A : Nat → Prop} {ad : Nat → Nat → Nat} {K M : KS} {ap o : Int64} {od : UInt64} {mc ms : Nat} {q0 : Nat} {post : Int32 → Prop} (h : wpX2_countStaked post K q0) : CM l D cI e0 A yX2_countStaked cX2_countStaked 1 (some FieldType.int) 1 20 mc ms [.ref (ad 6 q0)] (HT D cI e0 A ad K M ap o od) (qP D cI e0 A ad K M ap o od rI post) xN := by
  refine CM.of (by decide) (Nat.le_of_ble_eq_true rfl) (fun p e s m below meth c ls FX hw hS hl => ?_)
  obtain ⟨S, hg, hr, hlk, hnm, hout⟩ := FX
  have hl : lv_has ls 1 [(0, .ref (ad 6 q0))] := hl
  unfold wpX2_countStaked at h
  refine lv_aload_n S.1 S.2.1 dX2_countStaked_0 rfl (lv_at hl 0 rfl) ?_
  obtain ⟨g1, h⟩ := h
  refine g6_0 S hg hw g1 u573 dX2_countStaked_1 ?_
  refine g7_2 S hg hw (lt2 g1) u560 dX2_countStaked_4 ?_
  refine rL_size S hg hS hw (lv8s (lt2 g1)) u658 hl.1 (Nat.le_of_ble_eq_true rfl) ⟨Nat.le_of_ble_eq_true rfl, Nat.le_of_ble_eq_true rfl⟩ ⟨by omega, by omega⟩ dX2_countStaked_7 (fun H locs hw hS => ?_)
  refine lv_aload_n S.1 S.2.1 dX2_countStaked_10 rfl (lv_at hl 0 rfl) ?_
  refine g6_1 S hg hw g1 u575 dX2_countStaked_11 ?_
  refine g7_2 S hg hw (lt2s g1) u560 dX2_countStaked_14 ?_
  refine rL_size S hg hS hw (lv8s (lt2s g1)) u658 hl.1 (Nat.le_of_ble_eq_true rfl) ⟨Nat.le_of_ble_eq_true rfl, Nat.le_of_ble_eq_true rfl⟩ ⟨by omega, by omega⟩ dX2_countStaked_17 (fun H locs hw hS => ?_)
  refine lv_iadd S.1 S.2.1 dX2_countStaked_20 ?_
  exact r_iret (y := yX2_countStaked) S hr rfl hlk hS (by omega) (by omega) dX2_countStaked_21 ⟨((K 8 2 ((2 * q0) + 4)) + (K 8 2 ((2 * q0 + 1) + 4))), rfl, h, hw⟩

-- X2.numberOnTurn
theorem dX2_numberOnTurn_0 : decode cX2_numberOnTurn 0 = .ok (.aload_n 0, 1) := by decide +kernel
theorem dX2_numberOnTurn_1 : decode cX2_numberOnTurn 1 = .ok (.getfield 56, 3) := by decide +kernel
theorem dX2_numberOnTurn_4 : decode cX2_numberOnTurn 4 = .ok (.iconst 1, 1) := by decide +kernel
theorem dX2_numberOnTurn_5 : decode cX2_numberOnTurn 5 = .ok (.iand, 1) := by decide +kernel
theorem dX2_numberOnTurn_6 : decode cX2_numberOnTurn 6 = .ok (.ireturn, 1) := by decide +kernel
def wpX2_numberOnTurn (post : Int32 → Prop) (K : KS) (q0 : Nat) : Prop := (q0 < nD K) ∧ (post ((K 6 5 q0) &&& 1))
theorem hdX2_numberOnTurn : yX2_numberOnTurn.cls ≠ "java/lang/invoke/MethodHandle" ∧ yX2_numberOnTurn.cls ≠ "java/lang/invoke/VarHandle" ∧ (parseMethodDescriptor yX2_numberOnTurn.desc).map (fun d => d.parameters.length) = some 0 := by decide +kernel
set_option maxHeartbeats 4000000 in
set_option maxRecDepth 100000 in
theorem mtX2_numberOnTurn {l : Launch} {D : va_G} {cI : Nat → ClassId} {e0 : Nat} {A : Nat → Prop} {ad : Nat → Nat → Nat} {K M : KS} {ap o : Int64} {od : UInt64} {mc ms : Nat} {q0 : Nat} {post : Int32 → Prop} (h : wpX2_numberOnTurn post K q0) : CM l D cI e0 A yX2_numberOnTurn cX2_numberOnTurn 1 (some FieldType.int) 0 0 mc ms [.ref (ad 6 q0)] (HT D cI e0 A ad K M ap o od) (qP D cI e0 A ad K M ap o od rI post) xN := by
  refine CM.of (by decide) (Nat.le_of_ble_eq_true rfl) (fun p e s m below meth c ls FX hw hS hl => ?_)
  obtain ⟨S, hg, hr, hlk, hnm, hout⟩ := FX
  have hl : lv_has ls 1 [(0, .ref (ad 6 q0))] := hl
  unfold wpX2_numberOnTurn at h
  refine lv_aload_n S.1 S.2.1 dX2_numberOnTurn_0 rfl (lv_at hl 0 rfl) ?_
  obtain ⟨g1, h⟩ := h
  refine g6_5 S hg hw g1 u583 dX2_numberOnTurn_1 ?_
  refine lv_iconst (v := 1) S.1 S.2.1 dX2_numberOnTurn_4 (by decide) ?_
  refine lv_iand S.1 S.2.1 dX2_numberOnTurn_5 ?_
  exact r_iret (y := yX2_numberOnTurn) S hr rfl hlk hS (by omega) (by omega) dX2_numberOnTurn_6 ⟨((K 6 5 q0) &&& 1), rfl, h, hw⟩

-- X2.sideOnTurn
theorem dX2_sideOnTurn_0 : decode cX2_sideOnTurn 0 = .ok (.aload_n 0, 1) := by decide +kernel
theorem dX2_sideOnTurn_1 : decode cX2_sideOnTurn 1 = .ok (.invokevirtual 59, 3) := by decide +kernel
theorem dX2_sideOnTurn_4 : decode cX2_sideOnTurn 4 = .ok (.ifCond .ne 10, 3) := by decide +kernel
theorem dX2_sideOnTurn_7 : decode cX2_sideOnTurn 7 = .ok (.aload_n 0, 1) := by decide +kernel
theorem dX2_sideOnTurn_8 : decode cX2_sideOnTurn 8 = .ok (.getfield 36, 3) := by decide +kernel
theorem dX2_sideOnTurn_11 : decode cX2_sideOnTurn 11 = .ok (.goto 7, 3) := by decide +kernel
theorem dX2_sideOnTurn_14 : decode cX2_sideOnTurn 14 = .ok (.aload_n 0, 1) := by decide +kernel
theorem dX2_sideOnTurn_15 : decode cX2_sideOnTurn 15 = .ok (.getfield 40, 3) := by decide +kernel
theorem dX2_sideOnTurn_18 : decode cX2_sideOnTurn 18 = .ok (.areturn, 1) := by decide +kernel
def wpX2_sideOnTurn (post : Nat → Prop) (K : KS) (q0 : Nat) : Prop := (q0 < nD K) ∧ (wpX2_numberOnTurn (fun r2 => ((¬ r2 = 0 → (post (2 * q0 + 1))) ∧ (r2 = 0 → (post (2 * q0))))) K q0)
theorem hdX2_sideOnTurn : yX2_sideOnTurn.cls ≠ "java/lang/invoke/MethodHandle" ∧ yX2_sideOnTurn.cls ≠ "java/lang/invoke/VarHandle" ∧ (parseMethodDescriptor yX2_sideOnTurn.desc).map (fun d => d.parameters.length) = some 0 := by decide +kernel
set_option maxHeartbeats 4000000 in
set_option maxRecDepth 100000 in
theorem mtX2_sideOnTurn {l : Launch} {D : va_G} {cI : Nat → ClassId} {e0 : Nat} {A : Nat → Prop} {ad : Nat → Nat → Nat} {K M : KS} {ap o : Int64} {od : UInt64} {mc ms : Nat} {q0 : Nat} {post : Nat → Prop} (h : wpX2_sideOnTurn post K q0) : CM l D cI e0 A yX2_sideOnTurn cX2_sideOnTurn 1 (some (FieldType.object "SnapshotArena$Side")) 1 20 mc ms [.ref (ad 6 q0)] (HT D cI e0 A ad K M ap o od) (qP D cI e0 A ad K M ap o od (rR ad 7) post) xN := by
  refine CM.of (by decide) (Nat.le_of_ble_eq_true rfl) (fun p e s m below meth c ls FX hw hS hl => ?_)
  obtain ⟨S, hg, hr, hlk, hnm, hout⟩ := FX
  have hl : lv_has ls 1 [(0, .ref (ad 6 q0))] := hl
  unfold wpX2_sideOnTurn at h
  refine lv_aload_n S.1 S.2.1 dX2_sideOnTurn_0 rfl (lv_at hl 0 rfl) ?_
  obtain ⟨g1, h⟩ := h
  refine r_call (rest := []) S hg hS (mtX2_numberOnTurn (mc := 0) (ms := 0) h) u668 u670 u9 u49 u671 hdX2_numberOnTurn (rv6 hg hw g1) hw ⟨Nat.le_of_ble_eq_true rfl, Nat.le_of_ble_eq_true rfl⟩ ⟨by show 0 + 0 ≤ mc; omega, by show 0 + 0 ≤ ms; omega⟩ hl.1 (Nat.le_of_ble_eq_true rfl) rfl dX2_sideOnTurn_1 (fun E ce q H1 locs1 hx hS1 hc1 hc2 hc3 => hx.elim) (fun rv H locs hq hS => ?_)
  obtain ⟨r2, rfl, h, hw⟩ := hq
  show W p l e _ s m _ below meth c H locs _ _ _ (F0 m 4 ls [.int r2])
  show W p l e _ s m _ below meth c H locs 0 0 _ _
  refine lv_if_ne (tgt := 14) S.1 S.2.1 dX2_sideOnTurn_4 (by decide) (fun c3 => ?_) (fun c3 => ?_)
  · have h := h.1 c3
    refine lv_aload_n S.1 S.2.1 dX2_sideOnTurn_14 rfl (lv_at hl 0 rfl) ?_
    refine g6_1 S hg hw g1 u575 dX2_sideOnTurn_15 ?_
    exact r_aret (y := yX2_sideOnTurn) S hr (Or.inl ⟨_, rfl⟩) hlk hS (by omega) (by omega) dX2_sideOnTurn_18 ⟨(2 * q0 + 1), rfl, h, hw⟩
  · have h := h.2 c3
    refine lv_aload_n S.1 S.2.1 dX2_sideOnTurn_7 rfl (lv_at hl 0 rfl) ?_
    refine g6_0 S hg hw g1 u573 dX2_sideOnTurn_8 ?_
    refine lv_goto (tgt := 18) S.1 S.2.1 dX2_sideOnTurn_11 (by decide) ?_
    exact r_aret (y := yX2_sideOnTurn) S hr (Or.inl ⟨_, rfl⟩) hlk hS (by omega) (by omega) dX2_sideOnTurn_18 ⟨(2 * q0), rfl, h, hw⟩

-- X2.putOnStack
theorem dX2_putOnStack_0 : decode cX2_putOnStack 0 = .ok (.aload_n 0, 1) := by decide +kernel
theorem dX2_putOnStack_1 : decode cX2_putOnStack 1 = .ok (.invokevirtual 62, 3) := by decide +kernel
theorem dX2_putOnStack_4 : decode cX2_putOnStack 4 = .ok (.astore_n 3, 1) := by decide +kernel
theorem dX2_putOnStack_5 : decode cX2_putOnStack 5 = .ok (.iload_n 2, 1) := by decide +kernel
theorem dX2_putOnStack_6 : decode cX2_putOnStack 6 = .ok (.ifCond .lt 31, 3) := by decide +kernel
theorem dX2_putOnStack_9 : decode cX2_putOnStack 9 = .ok (.iload_n 2, 1) := by decide +kernel
theorem dX2_putOnStack_10 : decode cX2_putOnStack 10 = .ok (.aload_n 3, 1) := by decide +kernel
theorem dX2_putOnStack_11 : decode cX2_putOnStack 11 = .ok (.getfield 66, 3) := by decide +kernel
theorem dX2_putOnStack_14 : decode cX2_putOnStack 14 = .ok (.arraylength, 1) := by decide +kernel
theorem dX2_putOnStack_15 : decode cX2_putOnStack 15 = .ok (.if_icmp .ge 22, 3) := by decide +kernel
theorem dX2_putOnStack_18 : decode cX2_putOnStack 18 = .ok (.aload_n 0, 1) := by decide +kernel
theorem dX2_putOnStack_19 : decode cX2_putOnStack 19 = .ok (.getfield 69, 3) := by decide +kernel
theorem dX2_putOnStack_22 : decode cX2_putOnStack 22 = .ok (.ifCond .lt 15, 3) := by decide +kernel
theorem dX2_putOnStack_25 : decode cX2_putOnStack 25 = .ok (.aload_n 0, 1) := by decide +kernel
theorem dX2_putOnStack_26 : decode cX2_putOnStack 26 = .ok (.getfield 69, 3) := by decide +kernel
theorem dX2_putOnStack_29 : decode cX2_putOnStack 29 = .ok (.aload_n 0, 1) := by decide +kernel
theorem dX2_putOnStack_30 : decode cX2_putOnStack 30 = .ok (.getfield 19, 3) := by decide +kernel
theorem dX2_putOnStack_33 : decode cX2_putOnStack 33 = .ok (.arraylength, 1) := by decide +kernel
theorem dX2_putOnStack_34 : decode cX2_putOnStack 34 = .ok (.if_icmp .lt 4, 3) := by decide +kernel
theorem dX2_putOnStack_37 : decode cX2_putOnStack 37 = .ok (.return_, 1) := by decide +kernel
theorem dX2_putOnStack_38 : decode cX2_putOnStack 38 = .ok (.aload_n 3, 1) := by decide +kernel
theorem dX2_putOnStack_39 : decode cX2_putOnStack 39 = .ok (.getfield 66, 3) := by decide +kernel
theorem dX2_putOnStack_42 : decode cX2_putOnStack 42 = .ok (.iload_n 2, 1) := by decide +kernel
theorem dX2_putOnStack_43 : decode cX2_putOnStack 43 = .ok (.iconst 1, 1) := by decide +kernel
theorem dX2_putOnStack_44 : decode cX2_putOnStack 44 = .ok (.iastore, 1) := by decide +kernel
theorem dX2_putOnStack_45 : decode cX2_putOnStack 45 = .ok (.aload_n 0, 1) := by decide +kernel
theorem dX2_putOnStack_46 : decode cX2_putOnStack 46 = .ok (.dup, 1) := by decide +kernel
theorem dX2_putOnStack_47 : decode cX2_putOnStack 47 = .ok (.getfield 72, 3) := by decide +kernel
theorem dX2_putOnStack_50 : decode cX2_putOnStack 50 = .ok (.aload_n 1, 1) := by decide +kernel
theorem dX2_putOnStack_51 : decode cX2_putOnStack 51 = .ok (.invokevirtual 75, 3) := by decide +kernel
theorem dX2_putOnStack_54 : decode cX2_putOnStack 54 = .ok (.isub, 1) := by decide +kernel
theorem dX2_putOnStack_55 : decode cX2_putOnStack 55 = .ok (.putfield 72, 3) := by decide +kernel
theorem dX2_putOnStack_58 : decode cX2_putOnStack 58 = .ok (.aload_n 0, 1) := by decide +kernel
theorem dX2_putOnStack_59 : decode cX2_putOnStack 59 = .ok (.getfield 19, 3) := by decide +kernel
theorem dX2_putOnStack_62 : decode cX2_putOnStack 62 = .ok (.aload_n 0, 1) := by decide +kernel
theorem dX2_putOnStack_63 : decode cX2_putOnStack 63 = .ok (.getfield 69, 3) := by decide +kernel
theorem dX2_putOnStack_66 : decode cX2_putOnStack 66 = .ok (.bipush 100, 2) := by decide +kernel
theorem dX2_putOnStack_68 : decode cX2_putOnStack 68 = .ok (.aload_n 0, 1) := by decide +kernel
theorem dX2_putOnStack_69 : decode cX2_putOnStack 69 = .ok (.invokevirtual 59, 3) := by decide +kernel
theorem dX2_putOnStack_72 : decode cX2_putOnStack 72 = .ok (.imul, 1) := by decide +kernel
theorem dX2_putOnStack_73 : decode cX2_putOnStack 73 = .ok (.bipush 10, 2) := by decide +kernel
theorem dX2_putOnStack_75 : decode cX2_putOnStack 75 = .ok (.aload_n 1, 1) := by decide +kernel
theorem dX2_putOnStack_76 : decode cX2_putOnStack 76 = .ok (.invokevirtual 80, 3) := by decide +kernel
theorem dX2_putOnStack_79 : decode cX2_putOnStack 79 = .ok (.imul, 1) := by decide +kernel
theorem dX2_putOnStack_80 : decode cX2_putOnStack 80 = .ok (.iadd, 1) := by decide +kernel
theorem dX2_putOnStack_81 : decode cX2_putOnStack 81 = .ok (.aload_n 1, 1) := by decide +kernel
theorem dX2_putOnStack_82 : decode cX2_putOnStack 82 = .ok (.invokevirtual 83, 3) := by decide +kernel
theorem dX2_putOnStack_85 : decode cX2_putOnStack 85 = .ok (.iadd, 1) := by decide +kernel
theorem dX2_putOnStack_86 : decode cX2_putOnStack 86 = .ok (.iastore, 1) := by decide +kernel
theorem dX2_putOnStack_87 : decode cX2_putOnStack 87 = .ok (.aload_n 0, 1) := by decide +kernel
theorem dX2_putOnStack_88 : decode cX2_putOnStack 88 = .ok (.dup, 1) := by decide +kernel
theorem dX2_putOnStack_89 : decode cX2_putOnStack 89 = .ok (.getfield 69, 3) := by decide +kernel
theorem dX2_putOnStack_92 : decode cX2_putOnStack 92 = .ok (.iconst 1, 1) := by decide +kernel
theorem dX2_putOnStack_93 : decode cX2_putOnStack 93 = .ok (.iadd, 1) := by decide +kernel
theorem dX2_putOnStack_94 : decode cX2_putOnStack 94 = .ok (.putfield 69, 3) := by decide +kernel
theorem dX2_putOnStack_97 : decode cX2_putOnStack 97 = .ok (.return_, 1) := by decide +kernel
def wpX2_putOnStack (post : Unit → KS → Prop) (K : KS) (q0 : Nat) (p1 : Nat) (p2 : Int32) : Prop := (q0 < nD K) ∧ (wpX2_sideOnTurn (fun r2 => ((p2 < 0 → (post () K)) ∧ (¬ p2 < 0 → ((r2 < 2 * nD K) ∧ ((((nI 8) ≤ p2 → (post () K)) ∧ (¬ (nI 8) ≤ p2 → ((((K 6 7 q0) < 0 → (post () K)) ∧ (¬ (K 6 7 q0) < 0 → ((((K 6 7 q0) < (nI 8) → ((vp_in p2 8) ∧ ((p1 < nC (k3 K 18 r2 p2.toNatClampNeg 1)) ∧ (wpX1_cost (fun r10 => (wpX2_numberOnTurn (fun r11 => (wpX1_effect (fun r12 => (wpX1_power (fun r13 => (vp_in ((k3 (k3 K 18 r2 p2.toNatClampNeg 1) 6 4 q0 (((k3 K 18 r2 p2.toNatClampNeg 1) 6 4 q0) - r10)) 6 7 q0) 8) ∧ (post () (k3 (k3 (k3 (k3 K 18 r2 p2.toNatClampNeg 1) 6 4 q0 (((k3 K 18 r2 p2.toNatClampNeg 1) 6 4 q0) - r10)) 17 q0 (((k3 (k3 K 18 r2 p2.toNatClampNeg 1) 6 4 q0 (((k3 K 18 r2 p2.toNatClampNeg 1) 6 4 q0) - r10)) 6 7 q0).toNatClampNeg) (((100 * r11) + (10 * r12)) + r13)) 6 7 q0 (((k3 (k3 (k3 K 18 r2 p2.toNatClampNeg 1) 6 4 q0 (((k3 K 18 r2 p2.toNatClampNeg 1) 6 4 q0) - r10)) 17 q0 (((k3 (k3 K 18 r2 p2.toNatClampNeg 1) 6 4 q0 (((k3 K 18 r2 p2.toNatClampNeg 1) 6 4 q0) - r10)) 6 7 q0).toNatClampNeg) (((100 * r11) + (10 * r12)) + r13)) 6 7 q0) + 1)))) (k3 (k3 K 18 r2 p2.toNatClampNeg 1) 6 4 q0 (((k3 K 18 r2 p2.toNatClampNeg 1) 6 4 q0) - r10)) p1)) (k3 (k3 K 18 r2 p2.toNatClampNeg 1) 6 4 q0 (((k3 K 18 r2 p2.toNatClampNeg 1) 6 4 q0) - r10)) p1)) (k3 (k3 K 18 r2 p2.toNatClampNeg 1) 6 4 q0 (((k3 K 18 r2 p2.toNatClampNeg 1) 6 4 q0) - r10)) q0)) (k3 K 18 r2 p2.toNatClampNeg 1) p1)))) ∧ (¬ (K 6 7 q0) < (nI 8) → (post () K)))))))))))))) K q0)
theorem hdX2_putOnStack : yX2_putOnStack.cls ≠ "java/lang/invoke/MethodHandle" ∧ yX2_putOnStack.cls ≠ "java/lang/invoke/VarHandle" ∧ (parseMethodDescriptor yX2_putOnStack.desc).map (fun d => d.parameters.length) = some 2 := by decide +kernel
set_option maxHeartbeats 4000000 in
set_option maxRecDepth 100000 in
theorem mtX2_putOnStack {l : Launch} {D : va_G} {cI : Nat → ClassId} {e0 : Nat} {A : Nat → Prop} {ad : Nat → Nat → Nat} {K M : KS} {ap o : Int64} {od : UInt64} {mc ms : Nat} {q0 : Nat} {p1 : Nat} {p2 : Int32} {post : Unit → KS → Prop} (h : wpX2_putOnStack post K q0 p1 p2) : CM l D cI e0 A yX2_putOnStack cX2_putOnStack 4 none 2 40 mc ms [.ref (ad 6 q0), .ref (ad 4 p1), .int p2] (HT D cI e0 A ad K M ap o od) (qK D cI e0 A ad M ap o od rV post) xN := by
  refine CM.of (by decide) (Nat.le_of_ble_eq_true rfl) (fun p e s m below meth c ls FX hw hS hl => ?_)
  obtain ⟨S, hg, hr, hlk, hnm, hout⟩ := FX
  have hl : lv_has ls 4 [(0, .ref (ad 6 q0)), (1, .ref (ad 4 p1)), (2, .int p2)] := hl
  unfold wpX2_putOnStack at h
  refine lv_aload_n S.1 S.2.1 dX2_putOnStack_0 rfl (lv_at hl 0 rfl) ?_
  obtain ⟨g1, h⟩ := h
  refine r_call (rest := []) S hg hS (mtX2_sideOnTurn (mc := 0) (ms := 0) h) u688 u665 u666 u49 u667 hdX2_sideOnTurn (rv6 hg hw g1) hw ⟨Nat.le_of_ble_eq_true rfl, Nat.le_of_ble_eq_true rfl⟩ ⟨by show 0 + 0 ≤ mc; omega, by show 0 + 0 ≤ ms; omega⟩ hl.1 (Nat.le_of_ble_eq_true rfl) rfl dX2_putOnStack_1 (fun E ce q H1 locs1 hx hS1 hc1 hc2 hc3 => hx.elim) (fun rv H locs hq hS => ?_)
  obtain ⟨r2, rfl, h, hw⟩ := hq
  show W p l e _ s m _ below meth c H locs _ _ _ (F0 m 4 ls [.ref (ad 7 r2)])
  show W p l e _ s m _ below meth c H locs 0 0 _ _
  refine lv_astore_n (lv' := [(3, .ref (ad 7 r2)), (0, .ref (ad 6 q0)), (1, .ref (ad 4 p1)), (2, .int p2)]) S.1 S.2.1 dX2_putOnStack_4 rfl hl (by decide) rfl (fun ls hl => ?_)
  refine lv_iload_n S.1 S.2.1 dX2_putOnStack_5 rfl (lv_at hl 3 rfl) ?_
  refine lv_if_lt (tgt := 37) S.1 S.2.1 dX2_putOnStack_6 (by decide) (fun c3 => ?_) (fun c3 => ?_)
  · have h := h.1 c3
    exact r_vret (y := yX2_putOnStack) S hr hlk hS (by omega) (by omega) dX2_putOnStack_37 ⟨(), _, rfl, h, hw⟩
  · have h := h.2 c3
    refine lv_iload_n S.1 S.2.1 dX2_putOnStack_9 rfl (lv_at hl 3 rfl) ?_
    refine lv_aload_n S.1 S.2.1 dX2_putOnStack_10 rfl (lv_at hl 0 rfl) ?_
    obtain ⟨g4, h⟩ := h
    refine g7_3 S hg hw g4 u563 dX2_putOnStack_11 ?_
    refine n18 S hg hw g4 dX2_putOnStack_14 ?_
    refine lv_icmp_ge (tgt := 37) S.1 S.2.1 dX2_putOnStack_15 (by decide) (fun c5 => ?_) (fun c5 => ?_)
    · have h := h.1 c5
      exact r_vret (y := yX2_putOnStack) S hr hlk hS (by omega) (by omega) dX2_putOnStack_37 ⟨(), _, rfl, h, hw⟩
    · have h := h.2 c5
      refine lv_aload_n S.1 S.2.1 dX2_putOnStack_18 rfl (lv_at hl 1 rfl) ?_
      refine g6_7 S hg hw g1 u585 dX2_putOnStack_19 ?_
      refine lv_if_lt (tgt := 37) S.1 S.2.1 dX2_putOnStack_22 (by decide) (fun c6 => ?_) (fun c6 => ?_)
      · have h := h.1 c6
        exact r_vret (y := yX2_putOnStack) S hr hlk hS (by omega) (by omega) dX2_putOnStack_37 ⟨(), _, rfl, h, hw⟩
      · have h := h.2 c6
        refine lv_aload_n S.1 S.2.1 dX2_putOnStack_25 rfl (lv_at hl 1 rfl) ?_
        refine g6_7 S hg hw g1 u585 dX2_putOnStack_26 ?_
        refine lv_aload_n S.1 S.2.1 dX2_putOnStack_29 rfl (lv_at hl 1 rfl) ?_
        refine g6_6 S hg hw g1 u584 dX2_putOnStack_30 ?_
        refine n17 S hg hw g1 dX2_putOnStack_33 ?_
        refine lv_icmp_lt (tgt := 38) S.1 S.2.1 dX2_putOnStack_34 (by decide) (fun c7 => ?_) (fun c7 => ?_)
        · have h := h.1 c7
          refine lv_aload_n S.1 S.2.1 dX2_putOnStack_38 rfl (lv_at hl 0 rfl) ?_
          refine g7_3 S hg hw g4 u563 dX2_putOnStack_39 ?_
          refine lv_iload_n S.1 S.2.1 dX2_putOnStack_42 rfl (lv_at hl 3 rfl) ?_
          refine lv_iconst (v := 1) S.1 S.2.1 dX2_putOnStack_43 (by decide) ?_
          obtain ⟨g8, h⟩ := h
          refine s18 S hg hS hw g4 g8 dX2_putOnStack_44 (fun H locs hw hS => ?_)
          refine lv_aload_n S.1 S.2.1 dX2_putOnStack_45 rfl (lv_at hl 1 rfl) ?_
          refine lv_dup S.1 S.2.1 dX2_putOnStack_46 rfl ?_
          refine g6_4 S hg hw g1 u581 dX2_putOnStack_47 ?_
          refine lv_aload_n S.1 S.2.1 dX2_putOnStack_50 rfl (lv_at hl 2 rfl) ?_
          obtain ⟨g9, h⟩ := h
          refine r_call (rest := [.int ((k3 K 18 r2 p2.toNatClampNeg 1) 6 4 q0), .ref (ad 6 q0)]) S hg hS (mtX1_cost (mc := 0) (ms := 0) h) u689 u680 u681 u43 u682 hdX1_cost (rv4 hg hw g9) hw ⟨Nat.le_of_ble_eq_true rfl, Nat.le_of_ble_eq_true rfl⟩ ⟨by show 0 + 0 ≤ mc; omega, by show 0 + 0 ≤ ms; omega⟩ hl.1 (Nat.le_of_ble_eq_true rfl) rfl dX2_putOnStack_51 (fun E ce q H1 locs1 hx hS1 hc1 hc2 hc3 => hx.elim) (fun rv H locs hq hS => ?_)
          obtain ⟨r10, rfl, h, hw⟩ := hq
          show W p l e _ s m _ below meth c H locs _ _ _ (F0 m 54 ls [.int r10, .int ((k3 K 18 r2 p2.toNatClampNeg 1) 6 4 q0), .ref (ad 6 q0)])
          show W p l e _ s m _ below meth c H locs 0 0 _ _
          refine lv_isub S.1 S.2.1 dX2_putOnStack_54 ?_
          refine p6_4 S hg hS hw g1 u581 dX2_putOnStack_55 (fun H locs hw hS => ?_)
          refine lv_aload_n S.1 S.2.1 dX2_putOnStack_58 rfl (lv_at hl 1 rfl) ?_
          refine g6_6 S hg hw g1 u584 dX2_putOnStack_59 ?_
          refine lv_aload_n S.1 S.2.1 dX2_putOnStack_62 rfl (lv_at hl 1 rfl) ?_
          refine g6_7 S hg hw g1 u585 dX2_putOnStack_63 ?_
          refine lv_bipush (v := 100) S.1 S.2.1 dX2_putOnStack_66 (by decide) ?_
          refine lv_aload_n S.1 S.2.1 dX2_putOnStack_68 rfl (lv_at hl 1 rfl) ?_
          refine r_call (rest := [.int 100, .int ((k3 (k3 K 18 r2 p2.toNatClampNeg 1) 6 4 q0 (((k3 K 18 r2 p2.toNatClampNeg 1) 6 4 q0) - r10)) 6 7 q0), .ref (ad 17 q0)]) S hg hS (mtX2_numberOnTurn (mc := 0) (ms := 0) h) u668 u670 u9 u49 u671 hdX2_numberOnTurn (rv6 hg hw g1) hw ⟨Nat.le_of_ble_eq_true rfl, Nat.le_of_ble_eq_true rfl⟩ ⟨by show 0 + 0 ≤ mc; omega, by show 0 + 0 ≤ ms; omega⟩ hl.1 (Nat.le_of_ble_eq_true rfl) rfl dX2_putOnStack_69 (fun E ce q H1 locs1 hx hS1 hc1 hc2 hc3 => hx.elim) (fun rv H locs hq hS => ?_)
          obtain ⟨r11, rfl, h, hw⟩ := hq
          show W p l e _ s m _ below meth c H locs _ _ _ (F0 m 72 ls [.int r11, .int 100, .int ((k3 (k3 K 18 r2 p2.toNatClampNeg 1) 6 4 q0 (((k3 K 18 r2 p2.toNatClampNeg 1) 6 4 q0) - r10)) 6 7 q0), .ref (ad 17 q0)])
          show W p l e _ s m _ below meth c H locs 0 0 _ _
          refine lv_imul S.1 S.2.1 dX2_putOnStack_72 ?_
          refine lv_bipush (v := 10) S.1 S.2.1 dX2_putOnStack_73 (by decide) ?_
          refine lv_aload_n S.1 S.2.1 dX2_putOnStack_75 rfl (lv_at hl 2 rfl) ?_
          refine r_call (rest := [.int 10, .int (100 * r11), .int ((k3 (k3 K 18 r2 p2.toNatClampNeg 1) 6 4 q0 (((k3 K 18 r2 p2.toNatClampNeg 1) 6 4 q0) - r10)) 6 7 q0), .ref (ad 17 q0)]) S hg hS (mtX1_effect (mc := 0) (ms := 0) h) u690 u691 u692 u43 u693 hdX1_effect (rv4 hg hw g9) hw ⟨Nat.le_of_ble_eq_true rfl, Nat.le_of_ble_eq_true rfl⟩ ⟨by show 0 + 0 ≤ mc; omega, by show 0 + 0 ≤ ms; omega⟩ hl.1 (Nat.le_of_ble_eq_true rfl) rfl dX2_putOnStack_76 (fun E ce q H1 locs1 hx hS1 hc1 hc2 hc3 => hx.elim) (fun rv H locs hq hS => ?_)
          obtain ⟨r12, rfl, h, hw⟩ := hq
          show W p l e _ s m _ below meth c H locs _ _ _ (F0 m 79 ls [.int r12, .int 10, .int (100 * r11), .int ((k3 (k3 K 18 r2 p2.toNatClampNeg 1) 6 4 q0 (((k3 K 18 r2 p2.toNatClampNeg 1) 6 4 q0) - r10)) 6 7 q0), .ref (ad 17 q0)])
          show W p l e _ s m _ below meth c H locs 0 0 _ _
          refine lv_imul S.1 S.2.1 dX2_putOnStack_79 ?_
          refine lv_iadd S.1 S.2.1 dX2_putOnStack_80 ?_
          refine lv_aload_n S.1 S.2.1 dX2_putOnStack_81 rfl (lv_at hl 2 rfl) ?_
          refine r_call (rest := [.int ((100 * r11) + (10 * r12)), .int ((k3 (k3 K 18 r2 p2.toNatClampNeg 1) 6 4 q0 (((k3 K 18 r2 p2.toNatClampNeg 1) 6 4 q0) - r10)) 6 7 q0), .ref (ad 17 q0)]) S hg hS (mtX1_power (mc := 0) (ms := 0) h) u694 u695 u696 u43 u697 hdX1_power (rv4 hg hw g9) hw ⟨Nat.le_of_ble_eq_true rfl, Nat.le_of_ble_eq_true rfl⟩ ⟨by show 0 + 0 ≤ mc; omega, by show 0 + 0 ≤ ms; omega⟩ hl.1 (Nat.le_of_ble_eq_true rfl) rfl dX2_putOnStack_82 (fun E ce q H1 locs1 hx hS1 hc1 hc2 hc3 => hx.elim) (fun rv H locs hq hS => ?_)
          obtain ⟨r13, rfl, h, hw⟩ := hq
          show W p l e _ s m _ below meth c H locs _ _ _ (F0 m 85 ls [.int r13, .int ((100 * r11) + (10 * r12)), .int ((k3 (k3 K 18 r2 p2.toNatClampNeg 1) 6 4 q0 (((k3 K 18 r2 p2.toNatClampNeg 1) 6 4 q0) - r10)) 6 7 q0), .ref (ad 17 q0)])
          show W p l e _ s m _ below meth c H locs 0 0 _ _
          refine lv_iadd S.1 S.2.1 dX2_putOnStack_85 ?_
          obtain ⟨g14, h⟩ := h
          refine s17 S hg hS hw g1 g14 dX2_putOnStack_86 (fun H locs hw hS => ?_)
          refine lv_aload_n S.1 S.2.1 dX2_putOnStack_87 rfl (lv_at hl 1 rfl) ?_
          refine lv_dup S.1 S.2.1 dX2_putOnStack_88 rfl ?_
          refine g6_7 S hg hw g1 u585 dX2_putOnStack_89 ?_
          refine lv_iconst (v := 1) S.1 S.2.1 dX2_putOnStack_92 (by decide) ?_
          refine lv_iadd S.1 S.2.1 dX2_putOnStack_93 ?_
          refine p6_7 S hg hS hw g1 u585 dX2_putOnStack_94 (fun H locs hw hS => ?_)
          exact r_vret (y := yX2_putOnStack) S hr hlk hS (by omega) (by omega) dX2_putOnStack_97 ⟨(), _, rfl, h, hw⟩
        · have h := h.2 c7
          exact r_vret (y := yX2_putOnStack) S hr hlk hS (by omega) (by omega) dX2_putOnStack_37 ⟨(), _, rfl, h, hw⟩

-- X2.healOwn
theorem dX2_healOwn_0 : decode cX2_healOwn 0 = .ok (.iload_n 1, 1) := by decide +kernel
theorem dX2_healOwn_1 : decode cX2_healOwn 1 = .ok (.ifCond .ne 10, 3) := by decide +kernel
theorem dX2_healOwn_4 : decode cX2_healOwn 4 = .ok (.aload_n 0, 1) := by decide +kernel
theorem dX2_healOwn_5 : decode cX2_healOwn 5 = .ok (.getfield 36, 3) := by decide +kernel
theorem dX2_healOwn_8 : decode cX2_healOwn 8 = .ok (.goto 7, 3) := by decide +kernel
theorem dX2_healOwn_11 : decode cX2_healOwn 11 = .ok (.aload_n 0, 1) := by decide +kernel
theorem dX2_healOwn_12 : decode cX2_healOwn 12 = .ok (.getfield 40, 3) := by decide +kernel
theorem dX2_healOwn_15 : decode cX2_healOwn 15 = .ok (.astore_n 3, 1) := by decide +kernel
theorem dX2_healOwn_16 : decode cX2_healOwn 16 = .ok (.aload_n 3, 1) := by decide +kernel
theorem dX2_healOwn_17 : decode cX2_healOwn 17 = .ok (.bipush 20, 2) := by decide +kernel
theorem dX2_healOwn_19 : decode cX2_healOwn 19 = .ok (.aload_n 3, 1) := by decide +kernel
theorem dX2_healOwn_20 : decode cX2_healOwn 20 = .ok (.getfield 99, 3) := by decide +kernel
theorem dX2_healOwn_23 : decode cX2_healOwn 23 = .ok (.iload_n 2, 1) := by decide +kernel
theorem dX2_healOwn_24 : decode cX2_healOwn 24 = .ok (.iadd, 1) := by decide +kernel
theorem dX2_healOwn_25 : decode cX2_healOwn 25 = .ok (.invokestatic 105, 3) := by decide +kernel
theorem dX2_healOwn_28 : decode cX2_healOwn 28 = .ok (.putfield 99, 3) := by decide +kernel
theorem dX2_healOwn_31 : decode cX2_healOwn 31 = .ok (.return_, 1) := by decide +kernel
def wX2_healOwn_15 (post : Unit → KS → Prop) (l2 : Int32) (t0 : Nat) (K : KS) : Prop := (t0 < 2 * nD K) ∧ (post () (k3 K 7 1 t0 (if ((K 7 1 t0) + l2) < 20 then ((K 7 1 t0) + l2) else 20)))
set_option maxHeartbeats 4000000 in
set_option maxRecDepth 100000 in
theorem bX2_healOwn_15 {p : Program} {l : Launch} {e : Env} {s : State} {m : MethodId} {args : Array Value} {below : List Frame} {meth : Method} {c : Code} {D : va_G} {cI : Nat → ClassId} {e0 : Nat} {A : Nat → Prop} {ad : Nat → Nat → Nat} {M : KS} {ap : Int64} {o : Int64} {od : UInt64} {mc ms : Nat} {post : Unit → KS → Prop} (S : CallFix p m c cX2_healOwn 4 s args WU RX2) (hg : GI D cI e0 A s s.heap) (hr : meth.sig.returnType = none) (hlk : meth.locks = false) (hout : ∀ x ∈ c.exceptionTable.toList, False) {H : Heap} {locs : List Loc} {ls : Array Slot} {l2 : Int32} {t0 : Nat} {K : KS} (hS : va_S A s.heap H locs) (hw : HT D cI e0 A ad K M ap o od H) (hl : lv_has ls 4 [(2, .int l2)]) (h : wX2_healOwn_15 post l2 t0 K) : W p l e ({ frames := 1, cells := mc, slots := ms, locals := 30 } : Room) s m args below meth c H locs 0 0 (MQQ below (qK D cI e0 A ad M ap o od rV post) xN args s mc ms A) (F0 m 15 ls [.ref (ad 7 t0)]) := by
  unfold wX2_healOwn_15 at h
  refine lv_astore_n (lv' := [(3, .ref (ad 7 t0)), (2, .int l2)]) S.1 S.2.1 dX2_healOwn_15 rfl hl (by decide) rfl (fun ls hl => ?_)
  refine lv_aload_n S.1 S.2.1 dX2_healOwn_16 rfl (lv_at hl 0 rfl) ?_
  refine lv_bipush (v := 20) S.1 S.2.1 dX2_healOwn_17 (by decide) ?_
  refine lv_aload_n S.1 S.2.1 dX2_healOwn_19 rfl (lv_at hl 0 rfl) ?_
  obtain ⟨g3, h⟩ := h
  refine g7_1 S hg hw g3 u557 dX2_healOwn_20 ?_
  refine lv_iload_n S.1 S.2.1 dX2_healOwn_23 rfl (lv_at hl 1 rfl) ?_
  refine lv_iadd S.1 S.2.1 dX2_healOwn_24 ?_
  refine va_mmin S.1 S.2.1 (S.2.2.1.trans hl.1.symm) S.2.2.2.1 (S.2.2.2.2 _ u718) (S.2.2.2.2 _ u460) (S.2.2.2.2 _ u33) (S.2.2.2.2 _ u461) (Nat.le_of_ble_eq_true rfl) (Nat.le_of_ble_eq_true rfl) (by show 0 ≤ mc; omega) (by show 0 ≤ ms; omega) dX2_healOwn_25 ?_
  refine p7_1 S hg hS hw g3 u557 dX2_healOwn_28 (fun H locs hw hS => ?_)
  exact r_vret (y := yX2_healOwn) S hr hlk hS (by omega) (by omega) dX2_healOwn_31 ⟨(), _, rfl, h, hw⟩
def wpX2_healOwn (post : Unit → KS → Prop) (K : KS) (q0 : Nat) (p1 : Int32) (p2 : Int32) : Prop := ((¬ p1 = 0 → ((q0 < nD K) ∧ (wX2_healOwn_15 post p2 (2 * q0 + 1) K))) ∧ (p1 = 0 → ((q0 < nD K) ∧ (wX2_healOwn_15 post p2 (2 * q0) K))))
theorem hdX2_healOwn : yX2_healOwn.cls ≠ "java/lang/invoke/MethodHandle" ∧ yX2_healOwn.cls ≠ "java/lang/invoke/VarHandle" ∧ (parseMethodDescriptor yX2_healOwn.desc).map (fun d => d.parameters.length) = some 2 := by decide +kernel
set_option maxHeartbeats 4000000 in
set_option maxRecDepth 100000 in
theorem mtX2_healOwn {l : Launch} {D : va_G} {cI : Nat → ClassId} {e0 : Nat} {A : Nat → Prop} {ad : Nat → Nat → Nat} {K M : KS} {ap o : Int64} {od : UInt64} {mc ms : Nat} {q0 : Nat} {p1 : Int32} {p2 : Int32} {post : Unit → KS → Prop} (h : wpX2_healOwn post K q0 p1 p2) : CM l D cI e0 A yX2_healOwn cX2_healOwn 4 none 1 30 mc ms [.ref (ad 6 q0), .int p1, .int p2] (HT D cI e0 A ad K M ap o od) (qK D cI e0 A ad M ap o od rV post) xN := by
  refine CM.of (by decide) (Nat.le_of_ble_eq_true rfl) (fun p e s m below meth c ls FX hw hS hl => ?_)
  obtain ⟨S, hg, hr, hlk, hnm, hout⟩ := FX
  have hl : lv_has ls 4 [(0, .ref (ad 6 q0)), (1, .int p1), (2, .int p2)] := hl
  unfold wpX2_healOwn at h
  refine lv_iload_n S.1 S.2.1 dX2_healOwn_0 rfl (lv_at hl 1 rfl) ?_
  refine lv_if_ne (tgt := 11) S.1 S.2.1 dX2_healOwn_1 (by decide) (fun c1 => ?_) (fun c1 => ?_)
  · have h := h.1 c1
    refine lv_aload_n S.1 S.2.1 dX2_healOwn_11 rfl (lv_at hl 0 rfl) ?_
    obtain ⟨g2, h⟩ := h
    refine g6_1 S hg hw g2 u575 dX2_healOwn_12 ?_
    have hl := lv_sub hl (l' := [(2, .int p2)]) [2] rfl
    exact bX2_healOwn_15 S hg hr hlk hout hS hw hl h
  · have h := h.2 c1
    refine lv_aload_n S.1 S.2.1 dX2_healOwn_4 rfl (lv_at hl 0 rfl) ?_
    obtain ⟨g4, h⟩ := h
    refine g6_0 S hg hw g4 u573 dX2_healOwn_5 ?_
    refine lv_goto (tgt := 15) S.1 S.2.1 dX2_healOwn_8 (by decide) ?_
    have hl := lv_sub hl (l' := [(2, .int p2)]) [2] rfl
    exact bX2_healOwn_15 S hg hr hlk hout hS hw hl h

-- X2.end
theorem dX2_end_0 : decode cX2_end 0 = .ok (.aload_n 0, 1) := by decide +kernel
theorem dX2_end_1 : decode cX2_end 1 = .ok (.bipush 101, 2) := by decide +kernel
theorem dX2_end_3 : decode cX2_end 3 = .ok (.putfield 9, 3) := by decide +kernel
theorem dX2_end_6 : decode cX2_end 6 = .ok (.aload_n 0, 1) := by decide +kernel
theorem dX2_end_7 : decode cX2_end 7 = .ok (.iload_n 1, 1) := by decide +kernel
theorem dX2_end_8 : decode cX2_end 8 = .ok (.putfield 15, 3) := by decide +kernel
theorem dX2_end_11 : decode cX2_end 11 = .ok (.return_, 1) := by decide +kernel
def wpX2_end (post : Unit → KS → Prop) (K : KS) (q0 : Nat) (p1 : Int32) : Prop := (q0 < nD K) ∧ (post () (k3 (k3 K 6 2 q0 101) 6 3 q0 p1))
theorem hdX2_end : yX2_end.cls ≠ "java/lang/invoke/MethodHandle" ∧ yX2_end.cls ≠ "java/lang/invoke/VarHandle" ∧ (parseMethodDescriptor yX2_end.desc).map (fun d => d.parameters.length) = some 1 := by decide +kernel
set_option maxHeartbeats 4000000 in
set_option maxRecDepth 100000 in
theorem mtX2_end {l : Launch} {D : va_G} {cI : Nat → ClassId} {e0 : Nat} {A : Nat → Prop} {ad : Nat → Nat → Nat} {K M : KS} {ap o : Int64} {od : UInt64} {mc ms : Nat} {q0 : Nat} {p1 : Int32} {post : Unit → KS → Prop} (h : wpX2_end post K q0 p1) : CM l D cI e0 A yX2_end cX2_end 2 none 0 0 mc ms [.ref (ad 6 q0), .int p1] (HT D cI e0 A ad K M ap o od) (qK D cI e0 A ad M ap o od rV post) xN := by
  refine CM.of (by decide) (Nat.le_of_ble_eq_true rfl) (fun p e s m below meth c ls FX hw hS hl => ?_)
  obtain ⟨S, hg, hr, hlk, hnm, hout⟩ := FX
  have hl : lv_has ls 2 [(0, .ref (ad 6 q0)), (1, .int p1)] := hl
  unfold wpX2_end at h
  refine lv_aload_n S.1 S.2.1 dX2_end_0 rfl (lv_at hl 0 rfl) ?_
  refine lv_bipush (v := 101) S.1 S.2.1 dX2_end_1 (by decide) ?_
  obtain ⟨g1, h⟩ := h
  refine p6_2 S hg hS hw g1 rfl rfl u577 dX2_end_3 (fun H locs hw hS => ?_)
  refine lv_aload_n S.1 S.2.1 dX2_end_6 rfl (lv_at hl 0 rfl) ?_
  refine lv_iload_n S.1 S.2.1 dX2_end_7 rfl (lv_at hl 1 rfl) ?_
  refine p6_3 S hg hS hw g1 u579 dX2_end_8 (fun H locs hw hS => ?_)
  exact r_vret (y := yX2_end) S hr hlk hS (by omega) (by omega) dX2_end_11 ⟨(), _, rfl, h, hw⟩

-- X2.hurtOtherOf
theorem dX2_hurtOtherOf_0 : decode cX2_hurtOtherOf 0 = .ok (.iload_n 1, 1) := by decide +kernel
theorem dX2_hurtOtherOf_1 : decode cX2_hurtOtherOf 1 = .ok (.ifCond .ne 10, 3) := by decide +kernel
theorem dX2_hurtOtherOf_4 : decode cX2_hurtOtherOf 4 = .ok (.aload_n 0, 1) := by decide +kernel
theorem dX2_hurtOtherOf_5 : decode cX2_hurtOtherOf 5 = .ok (.getfield 40, 3) := by decide +kernel
theorem dX2_hurtOtherOf_8 : decode cX2_hurtOtherOf 8 = .ok (.goto 7, 3) := by decide +kernel
theorem dX2_hurtOtherOf_11 : decode cX2_hurtOtherOf 11 = .ok (.aload_n 0, 1) := by decide +kernel
theorem dX2_hurtOtherOf_12 : decode cX2_hurtOtherOf 12 = .ok (.getfield 36, 3) := by decide +kernel
theorem dX2_hurtOtherOf_15 : decode cX2_hurtOtherOf 15 = .ok (.astore_n 3, 1) := by decide +kernel
theorem dX2_hurtOtherOf_16 : decode cX2_hurtOtherOf 16 = .ok (.iload_n 1, 1) := by decide +kernel
theorem dX2_hurtOtherOf_17 : decode cX2_hurtOtherOf 17 = .ok (.ifCond .ne 10, 3) := by decide +kernel
theorem dX2_hurtOtherOf_20 : decode cX2_hurtOtherOf 20 = .ok (.aload_n 0, 1) := by decide +kernel
theorem dX2_hurtOtherOf_21 : decode cX2_hurtOtherOf 21 = .ok (.getfield 36, 3) := by decide +kernel
theorem dX2_hurtOtherOf_24 : decode cX2_hurtOtherOf 24 = .ok (.goto 7, 3) := by decide +kernel
theorem dX2_hurtOtherOf_27 : decode cX2_hurtOtherOf 27 = .ok (.aload_n 0, 1) := by decide +kernel
theorem dX2_hurtOtherOf_28 : decode cX2_hurtOtherOf 28 = .ok (.getfield 40, 3) := by decide +kernel
theorem dX2_hurtOtherOf_31 : decode cX2_hurtOtherOf 31 = .ok (.astore 4, 2) := by decide +kernel
theorem dX2_hurtOtherOf_33 : decode cX2_hurtOtherOf 33 = .ok (.aload_n 3, 1) := by decide +kernel
theorem dX2_hurtOtherOf_34 : decode cX2_hurtOtherOf 34 = .ok (.dup, 1) := by decide +kernel
theorem dX2_hurtOtherOf_35 : decode cX2_hurtOtherOf 35 = .ok (.getfield 99, 3) := by decide +kernel
theorem dX2_hurtOtherOf_38 : decode cX2_hurtOtherOf 38 = .ok (.iload_n 2, 1) := by decide +kernel
theorem dX2_hurtOtherOf_39 : decode cX2_hurtOtherOf 39 = .ok (.isub, 1) := by decide +kernel
theorem dX2_hurtOtherOf_40 : decode cX2_hurtOtherOf 40 = .ok (.putfield 99, 3) := by decide +kernel
theorem dX2_hurtOtherOf_43 : decode cX2_hurtOtherOf 43 = .ok (.aload_n 3, 1) := by decide +kernel
theorem dX2_hurtOtherOf_44 : decode cX2_hurtOtherOf 44 = .ok (.getfield 99, 3) := by decide +kernel
theorem dX2_hurtOtherOf_47 : decode cX2_hurtOtherOf 47 = .ok (.ifCond .gt 17, 3) := by decide +kernel
theorem dX2_hurtOtherOf_50 : decode cX2_hurtOtherOf 50 = .ok (.aload_n 0, 1) := by decide +kernel
theorem dX2_hurtOtherOf_51 : decode cX2_hurtOtherOf 51 = .ok (.iconst 0, 1) := by decide +kernel
theorem dX2_hurtOtherOf_52 : decode cX2_hurtOtherOf 52 = .ok (.putfield 69, 3) := by decide +kernel
theorem dX2_hurtOtherOf_55 : decode cX2_hurtOtherOf 55 = .ok (.aload_n 0, 1) := by decide +kernel
theorem dX2_hurtOtherOf_56 : decode cX2_hurtOtherOf 56 = .ok (.aload 4, 2) := by decide +kernel
theorem dX2_hurtOtherOf_58 : decode cX2_hurtOtherOf 58 = .ok (.getfield 43, 3) := by decide +kernel
theorem dX2_hurtOtherOf_61 : decode cX2_hurtOtherOf 61 = .ok (.invokevirtual 102, 3) := by decide +kernel
theorem dX2_hurtOtherOf_64 : decode cX2_hurtOtherOf 64 = .ok (.return_, 1) := by decide +kernel
def wX2_hurtOtherOf_31 (post : Unit → KS → Prop) (l0 : Nat) (l2 : Int32) (l3 : Nat) (t0 : Nat) (K : KS) : Prop := (l3 < 2 * nD K) ∧ (((0 < ((k3 K 7 1 l3 ((K 7 1 l3) - l2)) 7 1 l3) → (post () (k3 K 7 1 l3 ((K 7 1 l3) - l2)))) ∧ (¬ 0 < ((k3 K 7 1 l3 ((K 7 1 l3) - l2)) 7 1 l3) → ((l0 < nD (k3 K 7 1 l3 ((K 7 1 l3) - l2))) ∧ ((t0 < 2 * nD (k3 (k3 K 7 1 l3 ((K 7 1 l3) - l2)) 6 7 l0 0)) ∧ ((wpX2_end (fun _ K9 => post () K9) (k3 (k3 K 7 1 l3 ((K 7 1 l3) - l2)) 6 7 l0 0) l0 ((k3 (k3 K 7 1 l3 ((K 7 1 l3) - l2)) 6 7 l0 0) 7 0 t0))))))))
set_option maxHeartbeats 4000000 in
set_option maxRecDepth 100000 in
theorem bX2_hurtOtherOf_31 {p : Program} {l : Launch} {e : Env} {s : State} {m : MethodId} {args : Array Value} {below : List Frame} {meth : Method} {c : Code} {D : va_G} {cI : Nat → ClassId} {e0 : Nat} {A : Nat → Prop} {ad : Nat → Nat → Nat} {M : KS} {ap : Int64} {o : Int64} {od : UInt64} {mc ms : Nat} {post : Unit → KS → Prop} (S : CallFix p m c cX2_hurtOtherOf 5 s args WU RX2) (hg : GI D cI e0 A s s.heap) (hr : meth.sig.returnType = none) (hlk : meth.locks = false) (hout : ∀ x ∈ c.exceptionTable.toList, False) {H : Heap} {locs : List Loc} {ls : Array Slot} {l0 : Nat} {l2 : Int32} {l3 : Nat} {t0 : Nat} {K : KS} (hS : va_S A s.heap H locs) (hw : HT D cI e0 A ad K M ap o od H) (hl : lv_has ls 5 [(0, .ref (ad 6 l0)), (2, .int l2), (3, .ref (ad 7 l3))]) (h : wX2_hurtOtherOf_31 post l0 l2 l3 t0 K) : W p l e ({ frames := 1, cells := mc, slots := ms, locals := 21 } : Room) s m args below meth c H locs 0 0 (MQQ below (qK D cI e0 A ad M ap o od rV post) xN args s mc ms A) (F0 m 31 ls [.ref (ad 7 t0)]) := by
  unfold wX2_hurtOtherOf_31 at h
  refine lv_astore (lv' := [(4, .ref (ad 7 t0)), (0, .ref (ad 6 l0)), (2, .int l2), (3, .ref (ad 7 l3))]) S.1 S.2.1 dX2_hurtOtherOf_31 hl (by decide) rfl (fun ls hl => ?_)
  refine lv_aload_n S.1 S.2.1 dX2_hurtOtherOf_33 rfl (lv_at hl 3 rfl) ?_
  refine lv_dup S.1 S.2.1 dX2_hurtOtherOf_34 rfl ?_
  obtain ⟨g5, h⟩ := h
  refine g7_1 S hg hw g5 u557 dX2_hurtOtherOf_35 ?_
  refine lv_iload_n S.1 S.2.1 dX2_hurtOtherOf_38 rfl (lv_at hl 2 rfl) ?_
  refine lv_isub S.1 S.2.1 dX2_hurtOtherOf_39 ?_
  refine p7_1 S hg hS hw g5 u557 dX2_hurtOtherOf_40 (fun H locs hw hS => ?_)
  refine lv_aload_n S.1 S.2.1 dX2_hurtOtherOf_43 rfl (lv_at hl 3 rfl) ?_
  refine g7_1 S hg hw g5 u557 dX2_hurtOtherOf_44 ?_
  refine lv_if_gt (tgt := 64) S.1 S.2.1 dX2_hurtOtherOf_47 (by decide) (fun c6 => ?_) (fun c6 => ?_)
  · have h := h.1 c6
    exact r_vret (y := yX2_hurtOtherOf) S hr hlk hS (by omega) (by omega) dX2_hurtOtherOf_64 ⟨(), _, rfl, h, hw⟩
  · have h := h.2 c6
    refine lv_aload_n S.1 S.2.1 dX2_hurtOtherOf_50 rfl (lv_at hl 1 rfl) ?_
    refine lv_iconst (v := 0) S.1 S.2.1 dX2_hurtOtherOf_51 (by decide) ?_
    obtain ⟨g7, h⟩ := h
    refine p6_7 S hg hS hw g7 u585 dX2_hurtOtherOf_52 (fun H locs hw hS => ?_)
    refine lv_aload_n S.1 S.2.1 dX2_hurtOtherOf_55 rfl (lv_at hl 1 rfl) ?_
    refine lv_aload S.1 S.2.1 dX2_hurtOtherOf_56 (lv_at hl 0 rfl) ?_
    obtain ⟨g8, h⟩ := h
    refine g7_0 S hg hw g8 u554 dX2_hurtOtherOf_58 ?_
    refine r_call (rest := []) S hg hS (mtX2_end (mc := 0) (ms := 0) h) u710 u712 u11 u49 u713 hdX2_end (rv6 hg hw g7) hw ⟨Nat.le_of_ble_eq_true rfl, Nat.le_of_ble_eq_true rfl⟩ ⟨by show 0 + 0 ≤ mc; omega, by show 0 + 0 ≤ ms; omega⟩ hl.1 (Nat.le_of_ble_eq_true rfl) rfl dX2_hurtOtherOf_61 (fun E ce q H1 locs1 hx hS1 hc1 hc2 hc3 => hx.elim) (fun rv H locs hq hS => ?_)
    obtain ⟨_, K9, rfl, h, hw⟩ := hq
    show W p l e _ s m _ below meth c H locs _ _ _ (F0 m 64 ls [])
    show W p l e _ s m _ below meth c H locs 0 0 _ _
    exact r_vret (y := yX2_hurtOtherOf) S hr hlk hS (by omega) (by omega) dX2_hurtOtherOf_64 ⟨(), _, rfl, h, hw⟩
def wX2_hurtOtherOf_15 (post : Unit → KS → Prop) (l0 : Nat) (l1 : Int32) (l2 : Int32) (t0 : Nat) (K : KS) : Prop := ((¬ l1 = 0 → ((l0 < nD K) ∧ (wX2_hurtOtherOf_31 post l0 l2 t0 (2 * l0 + 1) K))) ∧ (l1 = 0 → ((l0 < nD K) ∧ (wX2_hurtOtherOf_31 post l0 l2 t0 (2 * l0) K))))
set_option maxHeartbeats 4000000 in
set_option maxRecDepth 100000 in
theorem bX2_hurtOtherOf_15 {p : Program} {l : Launch} {e : Env} {s : State} {m : MethodId} {args : Array Value} {below : List Frame} {meth : Method} {c : Code} {D : va_G} {cI : Nat → ClassId} {e0 : Nat} {A : Nat → Prop} {ad : Nat → Nat → Nat} {M : KS} {ap : Int64} {o : Int64} {od : UInt64} {mc ms : Nat} {post : Unit → KS → Prop} (S : CallFix p m c cX2_hurtOtherOf 5 s args WU RX2) (hg : GI D cI e0 A s s.heap) (hr : meth.sig.returnType = none) (hlk : meth.locks = false) (hout : ∀ x ∈ c.exceptionTable.toList, False) {H : Heap} {locs : List Loc} {ls : Array Slot} {l0 : Nat} {l1 : Int32} {l2 : Int32} {t0 : Nat} {K : KS} (hS : va_S A s.heap H locs) (hw : HT D cI e0 A ad K M ap o od H) (hl : lv_has ls 5 [(0, .ref (ad 6 l0)), (1, .int l1), (2, .int l2)]) (h : wX2_hurtOtherOf_15 post l0 l1 l2 t0 K) : W p l e ({ frames := 1, cells := mc, slots := ms, locals := 21 } : Room) s m args below meth c H locs 0 0 (MQQ below (qK D cI e0 A ad M ap o od rV post) xN args s mc ms A) (F0 m 15 ls [.ref (ad 7 t0)]) := by
  unfold wX2_hurtOtherOf_15 at h
  refine lv_astore_n (lv' := [(3, .ref (ad 7 t0)), (0, .ref (ad 6 l0)), (1, .int l1), (2, .int l2)]) S.1 S.2.1 dX2_hurtOtherOf_15 rfl hl (by decide) rfl (fun ls hl => ?_)
  refine lv_iload_n S.1 S.2.1 dX2_hurtOtherOf_16 rfl (lv_at hl 2 rfl) ?_
  refine lv_if_ne (tgt := 27) S.1 S.2.1 dX2_hurtOtherOf_17 (by decide) (fun c3 => ?_) (fun c3 => ?_)
  · have h := h.1 c3
    refine lv_aload_n S.1 S.2.1 dX2_hurtOtherOf_27 rfl (lv_at hl 1 rfl) ?_
    obtain ⟨g4, h⟩ := h
    refine g6_1 S hg hw g4 u575 dX2_hurtOtherOf_28 ?_
    have hl := lv_sub hl (l' := [(0, .ref (ad 6 l0)), (2, .int l2), (3, .ref (ad 7 t0))]) [1, 3, 0] rfl
    exact bX2_hurtOtherOf_31 S hg hr hlk hout hS hw hl h
  · have h := h.2 c3
    refine lv_aload_n S.1 S.2.1 dX2_hurtOtherOf_20 rfl (lv_at hl 1 rfl) ?_
    obtain ⟨g10, h⟩ := h
    refine g6_0 S hg hw g10 u573 dX2_hurtOtherOf_21 ?_
    refine lv_goto (tgt := 31) S.1 S.2.1 dX2_hurtOtherOf_24 (by decide) ?_
    have hl := lv_sub hl (l' := [(0, .ref (ad 6 l0)), (2, .int l2), (3, .ref (ad 7 t0))]) [1, 3, 0] rfl
    exact bX2_hurtOtherOf_31 S hg hr hlk hout hS hw hl h
def wpX2_hurtOtherOf (post : Unit → KS → Prop) (K : KS) (q0 : Nat) (p1 : Int32) (p2 : Int32) : Prop := ((¬ p1 = 0 → ((q0 < nD K) ∧ (wX2_hurtOtherOf_15 post q0 p1 p2 (2 * q0) K))) ∧ (p1 = 0 → ((q0 < nD K) ∧ (wX2_hurtOtherOf_15 post q0 p1 p2 (2 * q0 + 1) K))))
theorem hdX2_hurtOtherOf : yX2_hurtOtherOf.cls ≠ "java/lang/invoke/MethodHandle" ∧ yX2_hurtOtherOf.cls ≠ "java/lang/invoke/VarHandle" ∧ (parseMethodDescriptor yX2_hurtOtherOf.desc).map (fun d => d.parameters.length) = some 2 := by decide +kernel
set_option maxHeartbeats 4000000 in
set_option maxRecDepth 100000 in
theorem mtX2_hurtOtherOf {l : Launch} {D : va_G} {cI : Nat → ClassId} {e0 : Nat} {A : Nat → Prop} {ad : Nat → Nat → Nat} {K M : KS} {ap o : Int64} {od : UInt64} {mc ms : Nat} {q0 : Nat} {p1 : Int32} {p2 : Int32} {post : Unit → KS → Prop} (h : wpX2_hurtOtherOf post K q0 p1 p2) : CM l D cI e0 A yX2_hurtOtherOf cX2_hurtOtherOf 5 none 1 21 mc ms [.ref (ad 6 q0), .int p1, .int p2] (HT D cI e0 A ad K M ap o od) (qK D cI e0 A ad M ap o od rV post) xN := by
  refine CM.of (by decide) (Nat.le_of_ble_eq_true rfl) (fun p e s m below meth c ls FX hw hS hl => ?_)
  obtain ⟨S, hg, hr, hlk, hnm, hout⟩ := FX
  have hl : lv_has ls 5 [(0, .ref (ad 6 q0)), (1, .int p1), (2, .int p2)] := hl
  unfold wpX2_hurtOtherOf at h
  refine lv_iload_n S.1 S.2.1 dX2_hurtOtherOf_0 rfl (lv_at hl 1 rfl) ?_
  refine lv_if_ne (tgt := 11) S.1 S.2.1 dX2_hurtOtherOf_1 (by decide) (fun c1 => ?_) (fun c1 => ?_)
  · have h := h.1 c1
    refine lv_aload_n S.1 S.2.1 dX2_hurtOtherOf_11 rfl (lv_at hl 0 rfl) ?_
    obtain ⟨g2, h⟩ := h
    refine g6_0 S hg hw g2 u573 dX2_hurtOtherOf_12 ?_
    have hl := lv_sub hl (l' := [(0, .ref (ad 6 q0)), (1, .int p1), (2, .int p2)]) [0, 1, 2] rfl
    exact bX2_hurtOtherOf_15 S hg hr hlk hout hS hw hl h
  · have h := h.2 c1
    refine lv_aload_n S.1 S.2.1 dX2_hurtOtherOf_4 rfl (lv_at hl 0 rfl) ?_
    obtain ⟨g11, h⟩ := h
    refine g6_1 S hg hw g11 u575 dX2_hurtOtherOf_5 ?_
    refine lv_goto (tgt := 15) S.1 S.2.1 dX2_hurtOtherOf_8 (by decide) ?_
    have hl := lv_sub hl (l' := [(0, .ref (ad 6 q0)), (1, .int p1), (2, .int p2)]) [0, 1, 2] rfl
    exact bX2_hurtOtherOf_15 S hg hr hlk hout hS hw hl h

-- X2.doStack
theorem dX2_doStack_0 : decode cX2_doStack 0 = .ok (.iconst 0, 1) := by decide +kernel
theorem dX2_doStack_1 : decode cX2_doStack 1 = .ok (.istore_n 1, 1) := by decide +kernel
theorem dX2_doStack_2 : decode cX2_doStack 2 = .ok (.aload_n 0, 1) := by decide +kernel
theorem dX2_doStack_3 : decode cX2_doStack 3 = .ok (.getfield 69, 3) := by decide +kernel
theorem dX2_doStack_6 : decode cX2_doStack 6 = .ok (.ifCond .le 129, 3) := by decide +kernel
theorem dX2_doStack_9 : decode cX2_doStack 9 = .ok (.aload_n 0, 1) := by decide +kernel
theorem dX2_doStack_10 : decode cX2_doStack 10 = .ok (.getfield 69, 3) := by decide +kernel
theorem dX2_doStack_13 : decode cX2_doStack 13 = .ok (.aload_n 0, 1) := by decide +kernel
theorem dX2_doStack_14 : decode cX2_doStack 14 = .ok (.getfield 19, 3) := by decide +kernel
theorem dX2_doStack_17 : decode cX2_doStack 17 = .ok (.arraylength, 1) := by decide +kernel
theorem dX2_doStack_18 : decode cX2_doStack 18 = .ok (.if_icmp .gt 117, 3) := by decide +kernel
theorem dX2_doStack_21 : decode cX2_doStack 21 = .ok (.aload_n 0, 1) := by decide +kernel
theorem dX2_doStack_22 : decode cX2_doStack 22 = .ok (.dup, 1) := by decide +kernel
theorem dX2_doStack_23 : decode cX2_doStack 23 = .ok (.getfield 69, 3) := by decide +kernel
theorem dX2_doStack_26 : decode cX2_doStack 26 = .ok (.iconst 1, 1) := by decide +kernel
theorem dX2_doStack_27 : decode cX2_doStack 27 = .ok (.isub, 1) := by decide +kernel
theorem dX2_doStack_28 : decode cX2_doStack 28 = .ok (.putfield 69, 3) := by decide +kernel
theorem dX2_doStack_31 : decode cX2_doStack 31 = .ok (.aload_n 0, 1) := by decide +kernel
theorem dX2_doStack_32 : decode cX2_doStack 32 = .ok (.getfield 19, 3) := by decide +kernel
theorem dX2_doStack_35 : decode cX2_doStack 35 = .ok (.aload_n 0, 1) := by decide +kernel
theorem dX2_doStack_36 : decode cX2_doStack 36 = .ok (.getfield 69, 3) := by decide +kernel
theorem dX2_doStack_39 : decode cX2_doStack 39 = .ok (.iaload, 1) := by decide +kernel
theorem dX2_doStack_40 : decode cX2_doStack 40 = .ok (.bipush 100, 2) := by decide +kernel
theorem dX2_doStack_42 : decode cX2_doStack 42 = .ok (.idiv, 1) := by decide +kernel
theorem dX2_doStack_43 : decode cX2_doStack 43 = .ok (.istore_n 2, 1) := by decide +kernel
theorem dX2_doStack_44 : decode cX2_doStack 44 = .ok (.aload_n 0, 1) := by decide +kernel
theorem dX2_doStack_45 : decode cX2_doStack 45 = .ok (.getfield 19, 3) := by decide +kernel
theorem dX2_doStack_48 : decode cX2_doStack 48 = .ok (.aload_n 0, 1) := by decide +kernel
theorem dX2_doStack_49 : decode cX2_doStack 49 = .ok (.getfield 69, 3) := by decide +kernel
theorem dX2_doStack_52 : decode cX2_doStack 52 = .ok (.iaload, 1) := by decide +kernel
theorem dX2_doStack_53 : decode cX2_doStack 53 = .ok (.bipush 10, 2) := by decide +kernel
theorem dX2_doStack_55 : decode cX2_doStack 55 = .ok (.idiv, 1) := by decide +kernel
theorem dX2_doStack_56 : decode cX2_doStack 56 = .ok (.bipush 10, 2) := by decide +kernel
theorem dX2_doStack_58 : decode cX2_doStack 58 = .ok (.irem, 1) := by decide +kernel
theorem dX2_doStack_59 : decode cX2_doStack 59 = .ok (.istore_n 3, 1) := by decide +kernel
theorem dX2_doStack_60 : decode cX2_doStack 60 = .ok (.aload_n 0, 1) := by decide +kernel
theorem dX2_doStack_61 : decode cX2_doStack 61 = .ok (.getfield 19, 3) := by decide +kernel
theorem dX2_doStack_64 : decode cX2_doStack 64 = .ok (.aload_n 0, 1) := by decide +kernel
theorem dX2_doStack_65 : decode cX2_doStack 65 = .ok (.getfield 69, 3) := by decide +kernel
theorem dX2_doStack_68 : decode cX2_doStack 68 = .ok (.iaload, 1) := by decide +kernel
theorem dX2_doStack_69 : decode cX2_doStack 69 = .ok (.bipush 10, 2) := by decide +kernel
theorem dX2_doStack_71 : decode cX2_doStack 71 = .ok (.irem, 1) := by decide +kernel
theorem dX2_doStack_72 : decode cX2_doStack 72 = .ok (.iload_n 1, 1) := by decide +kernel
theorem dX2_doStack_73 : decode cX2_doStack 73 = .ok (.iadd, 1) := by decide +kernel
theorem dX2_doStack_74 : decode cX2_doStack 74 = .ok (.istore 4, 2) := by decide +kernel
theorem dX2_doStack_76 : decode cX2_doStack 76 = .ok (.iconst 0, 1) := by decide +kernel
theorem dX2_doStack_77 : decode cX2_doStack 77 = .ok (.istore_n 1, 1) := by decide +kernel
theorem dX2_doStack_78 : decode cX2_doStack 78 = .ok (.iload_n 3, 1) := by decide +kernel
theorem dX2_doStack_79 : decode cX2_doStack 79 = .ok (.ifCond .ne 13, 3) := by decide +kernel
theorem dX2_doStack_82 : decode cX2_doStack 82 = .ok (.aload_n 0, 1) := by decide +kernel
theorem dX2_doStack_83 : decode cX2_doStack 83 = .ok (.iload_n 2, 1) := by decide +kernel
theorem dX2_doStack_84 : decode cX2_doStack 84 = .ok (.iload 4, 2) := by decide +kernel
theorem dX2_doStack_86 : decode cX2_doStack 86 = .ok (.invokevirtual 86, 3) := by decide +kernel
theorem dX2_doStack_89 : decode cX2_doStack 89 = .ok (.goto 43, 3) := by decide +kernel
theorem dX2_doStack_92 : decode cX2_doStack 92 = .ok (.iload_n 3, 1) := by decide +kernel
theorem dX2_doStack_93 : decode cX2_doStack 93 = .ok (.iconst 1, 1) := by decide +kernel
theorem dX2_doStack_94 : decode cX2_doStack 94 = .ok (.if_icmp .ne 13, 3) := by decide +kernel
theorem dX2_doStack_97 : decode cX2_doStack 97 = .ok (.aload_n 0, 1) := by decide +kernel
theorem dX2_doStack_98 : decode cX2_doStack 98 = .ok (.iload_n 2, 1) := by decide +kernel
theorem dX2_doStack_99 : decode cX2_doStack 99 = .ok (.iload 4, 2) := by decide +kernel
theorem dX2_doStack_101 : decode cX2_doStack 101 = .ok (.invokevirtual 90, 3) := by decide +kernel
theorem dX2_doStack_104 : decode cX2_doStack 104 = .ok (.goto 28, 3) := by decide +kernel
theorem dX2_doStack_107 : decode cX2_doStack 107 = .ok (.iload_n 3, 1) := by decide +kernel
theorem dX2_doStack_108 : decode cX2_doStack 108 = .ok (.iconst 2, 1) := by decide +kernel
theorem dX2_doStack_109 : decode cX2_doStack 109 = .ok (.if_icmp .ne 20, 3) := by decide +kernel
theorem dX2_doStack_112 : decode cX2_doStack 112 = .ok (.aload_n 0, 1) := by decide +kernel
theorem dX2_doStack_113 : decode cX2_doStack 113 = .ok (.iconst 0, 1) := by decide +kernel
theorem dX2_doStack_114 : decode cX2_doStack 114 = .ok (.aload_n 0, 1) := by decide +kernel
theorem dX2_doStack_115 : decode cX2_doStack 115 = .ok (.getfield 69, 3) := by decide +kernel
theorem dX2_doStack_118 : decode cX2_doStack 118 = .ok (.iconst 1, 1) := by decide +kernel
theorem dX2_doStack_119 : decode cX2_doStack 119 = .ok (.isub, 1) := by decide +kernel
theorem dX2_doStack_120 : decode cX2_doStack 120 = .ok (.invokestatic 93, 3) := by decide +kernel
theorem dX2_doStack_123 : decode cX2_doStack 123 = .ok (.putfield 69, 3) := by decide +kernel
theorem dX2_doStack_126 : decode cX2_doStack 126 = .ok (.goto 6, 3) := by decide +kernel
theorem dX2_doStack_129 : decode cX2_doStack 129 = .ok (.iload 4, 2) := by decide +kernel
theorem dX2_doStack_131 : decode cX2_doStack 131 = .ok (.istore_n 1, 1) := by decide +kernel
theorem dX2_doStack_132 : decode cX2_doStack 132 = .ok (.goto (-130), 3) := by decide +kernel
theorem dX2_doStack_135 : decode cX2_doStack 135 = .ok (.return_, 1) := by decide +kernel
def wX2_doStack_132 (post : Unit → KS → Prop) (bk2 : Nat → Int32 → KS → Prop) (l0 : Nat) (l1 : Int32) (K : KS) : Prop := bk2 l0 l1 K
set_option maxHeartbeats 4000000 in
set_option maxRecDepth 100000 in
theorem bX2_doStack_132 {p : Program} {l : Launch} {e : Env} {s : State} {m : MethodId} {args : Array Value} {below : List Frame} {meth : Method} {c : Code} {D : va_G} {cI : Nat → ClassId} {e0 : Nat} {A : Nat → Prop} {ad : Nat → Nat → Nat} {M : KS} {ap : Int64} {o : Int64} {od : UInt64} {mc ms : Nat} {post : Unit → KS → Prop} {bk2 : Nat → Int32 → KS → Prop} (S : CallFix p m c cX2_doStack 5 s args WU RX2) (hg : GI D cI e0 A s s.heap) (hr : meth.sig.returnType = none) (hlk : meth.locks = false) (hout : ∀ x ∈ c.exceptionTable.toList, False) (hbk2 : ∀ {H : Heap} {locs : List Loc} {ls : Array Slot} {l0 : Nat} {l1 : Int32} {K : KS}, va_S A s.heap H locs → HT D cI e0 A ad K M ap o od H → lv_has ls 5 [(0, .ref (ad 6 l0)), (1, .int l1)] → bk2 l0 l1 K → W p l e ({ frames := 2, cells := mc, slots := ms, locals := 53 } : Room) s m args below meth c H locs 0 0 (MQQ below (qK D cI e0 A ad M ap o od rV post) xN args s mc ms A) (F0 m 2 ls [])) {H : Heap} {locs : List Loc} {ls : Array Slot} {l0 : Nat} {l1 : Int32} {K : KS} (hS : va_S A s.heap H locs) (hw : HT D cI e0 A ad K M ap o od H) (hl : lv_has ls 5 [(0, .ref (ad 6 l0)), (1, .int l1)]) (h : wX2_doStack_132 post bk2 l0 l1 K) : W p l e ({ frames := 2, cells := mc, slots := ms, locals := 53 } : Room) s m args below meth c H locs 0 0 (MQQ below (qK D cI e0 A ad M ap o od rV post) xN args s mc ms A) (F0 m 132 ls []) := by
  unfold wX2_doStack_132 at h
  refine lv_goto (tgt := 2) S.1 S.2.1 dX2_doStack_132 (by decide) ?_
  have hl := lv_sub hl (l' := [(0, .ref (ad 6 l0)), (1, .int l1)]) [0, 1] rfl
  exact hbk2 hS hw hl h
def wX2_doStack_2 (post : Unit → KS → Prop) : Nat → Nat → Int32 → KS → Prop
  | 0 => fun _ _ _ => False
  | n + 1 => fun l0 l1 K => (l0 < nD K) ∧ ((((K 6 7 l0) ≤ 0 → (post () K)) ∧ (¬ (K 6 7 l0) ≤ 0 → ((((nI 8) < (K 6 7 l0) → (post () K)) ∧ (¬ (nI 8) < (K 6 7 l0) → ((vp_in ((k3 K 6 7 l0 ((K 6 7 l0) - 1)) 6 7 l0) 8) ∧ (∀ x5 : Int32, x5 = ((k3 K 6 7 l0 ((K 6 7 l0) - 1)) 17 l0 (((k3 K 6 7 l0 ((K 6 7 l0) - 1)) 6 7 l0).toNatClampNeg)) / 100 → (∀ x6 : Int32, x6 = (((k3 K 6 7 l0 ((K 6 7 l0) - 1)) 17 l0 (((k3 K 6 7 l0 ((K 6 7 l0) - 1)) 6 7 l0).toNatClampNeg)) / 10) - (((k3 K 6 7 l0 ((K 6 7 l0) - 1)) 17 l0 (((k3 K 6 7 l0 ((K 6 7 l0) - 1)) 6 7 l0).toNatClampNeg)) / 10) / 10 * 10 → (∀ x7 : Int32, x7 = (((k3 K 6 7 l0 ((K 6 7 l0) - 1)) 17 l0 (((k3 K 6 7 l0 ((K 6 7 l0) - 1)) 6 7 l0).toNatClampNeg)) - ((k3 K 6 7 l0 ((K 6 7 l0) - 1)) 17 l0 (((k3 K 6 7 l0 ((K 6 7 l0) - 1)) 6 7 l0).toNatClampNeg)) / 10 * 10) + l1 → (((¬ x6 = 0 → (((¬ x6 = 1 → (((¬ x6 = 2 → (wX2_doStack_132 post (wX2_doStack_2 post n) l0 x7 (k3 K 6 7 l0 ((K 6 7 l0) - 1)))) ∧ (x6 = 2 → (wX2_doStack_132 post (wX2_doStack_2 post n) l0 0 (k3 (k3 K 6 7 l0 ((K 6 7 l0) - 1)) 6 7 l0 (if 0 < (((k3 K 6 7 l0 ((K 6 7 l0) - 1)) 6 7 l0) - 1) then (((k3 K 6 7 l0 ((K 6 7 l0) - 1)) 6 7 l0) - 1) else 0))))))) ∧ (x6 = 1 → ((wpX2_healOwn (fun _ K11 => wX2_doStack_132 post (wX2_doStack_2 post n) l0 0 K11) (k3 K 6 7 l0 ((K 6 7 l0) - 1)) l0 x5 x7)))))) ∧ (x6 = 0 → ((wpX2_hurtOtherOf (fun _ K12 => wX2_doStack_132 post (wX2_doStack_2 post n) l0 0 K12) (k3 K 6 7 l0 ((K 6 7 l0) - 1)) l0 x5 x7)))))))))))))))
set_option maxHeartbeats 4000000 in
set_option maxRecDepth 100000 in
theorem bX2_doStack_2 {p : Program} {l : Launch} {e : Env} {s : State} {m : MethodId} {args : Array Value} {below : List Frame} {meth : Method} {c : Code} {D : va_G} {cI : Nat → ClassId} {e0 : Nat} {A : Nat → Prop} {ad : Nat → Nat → Nat} {M : KS} {ap : Int64} {o : Int64} {od : UInt64} {mc ms : Nat} {post : Unit → KS → Prop} (S : CallFix p m c cX2_doStack 5 s args WU RX2) (hg : GI D cI e0 A s s.heap) (hr : meth.sig.returnType = none) (hlk : meth.locks = false) (hout : ∀ x ∈ c.exceptionTable.toList, False) : ∀ n : Nat, ∀ {H : Heap} {locs : List Loc} {ls : Array Slot} {l0 : Nat} {l1 : Int32} {K : KS}, va_S A s.heap H locs → HT D cI e0 A ad K M ap o od H → lv_has ls 5 [(0, .ref (ad 6 l0)), (1, .int l1)] → wX2_doStack_2 post n l0 l1 K → W p l e ({ frames := 2, cells := mc, slots := ms, locals := 53 } : Room) s m args below meth c H locs 0 0 (MQQ below (qK D cI e0 A ad M ap o od rV post) xN args s mc ms A) (F0 m 2 ls []) := by
  intro n
  induction n with
  | zero => intros; exact False.elim (by assumption)
  | succ n ih =>
    intro H locs ls l0 l1 K hS hw hl h
    unfold wX2_doStack_2 at h
    refine lv_aload_n S.1 S.2.1 dX2_doStack_2 rfl (lv_at hl 0 rfl) ?_
    obtain ⟨g1, h⟩ := h
    refine g6_7 S hg hw g1 u585 dX2_doStack_3 ?_
    refine lv_if_le (tgt := 135) S.1 S.2.1 dX2_doStack_6 (by decide) (fun c2 => ?_) (fun c2 => ?_)
    · have h := h.1 c2
      exact r_vret (y := yX2_doStack) S hr hlk hS (by omega) (by omega) dX2_doStack_135 ⟨(), _, rfl, h, hw⟩
    · have h := h.2 c2
      refine lv_aload_n S.1 S.2.1 dX2_doStack_9 rfl (lv_at hl 0 rfl) ?_
      refine g6_7 S hg hw g1 u585 dX2_doStack_10 ?_
      refine lv_aload_n S.1 S.2.1 dX2_doStack_13 rfl (lv_at hl 0 rfl) ?_
      refine g6_6 S hg hw g1 u584 dX2_doStack_14 ?_
      refine n17 S hg hw g1 dX2_doStack_17 ?_
      refine lv_icmp_gt (tgt := 135) S.1 S.2.1 dX2_doStack_18 (by decide) (fun c3 => ?_) (fun c3 => ?_)
      · have h := h.1 c3
        exact r_vret (y := yX2_doStack) S hr hlk hS (by omega) (by omega) dX2_doStack_135 ⟨(), _, rfl, h, hw⟩
      · have h := h.2 c3
        refine lv_aload_n S.1 S.2.1 dX2_doStack_21 rfl (lv_at hl 0 rfl) ?_
        refine lv_dup S.1 S.2.1 dX2_doStack_22 rfl ?_
        refine g6_7 S hg hw g1 u585 dX2_doStack_23 ?_
        refine lv_iconst (v := 1) S.1 S.2.1 dX2_doStack_26 (by decide) ?_
        refine lv_isub S.1 S.2.1 dX2_doStack_27 ?_
        refine p6_7 S hg hS hw g1 u585 dX2_doStack_28 (fun H locs hw hS => ?_)
        refine lv_aload_n S.1 S.2.1 dX2_doStack_31 rfl (lv_at hl 0 rfl) ?_
        refine g6_6 S hg hw g1 u584 dX2_doStack_32 ?_
        refine lv_aload_n S.1 S.2.1 dX2_doStack_35 rfl (lv_at hl 0 rfl) ?_
        refine g6_7 S hg hw g1 u585 dX2_doStack_36 ?_
        obtain ⟨g4, h⟩ := h
        refine a17 S hg hw g1 g4 dX2_doStack_39 ?_
        refine lv_bipush (v := 100) S.1 S.2.1 dX2_doStack_40 (by decide) ?_
        refine lv_idiv S.1 S.2.1 dX2_doStack_42 (by decide) ?_
        refine lv_topi (fun x5 ex5 => ?_)
        have h := h x5 ex5
        refine lv_istore_n (lv' := [(2, .int x5), (0, .ref (ad 6 l0)), (1, .int l1)]) S.1 S.2.1 dX2_doStack_43 rfl hl (by decide) rfl (fun ls hl => ?_)
        refine lv_aload_n S.1 S.2.1 dX2_doStack_44 rfl (lv_at hl 1 rfl) ?_
        refine g6_6 S hg hw g1 u584 dX2_doStack_45 ?_
        refine lv_aload_n S.1 S.2.1 dX2_doStack_48 rfl (lv_at hl 1 rfl) ?_
        refine g6_7 S hg hw g1 u585 dX2_doStack_49 ?_
        refine a17 S hg hw g1 g4 dX2_doStack_52 ?_
        refine lv_bipush (v := 10) S.1 S.2.1 dX2_doStack_53 (by decide) ?_
        refine lv_idiv S.1 S.2.1 dX2_doStack_55 (by decide) ?_
        refine lv_bipush (v := 10) S.1 S.2.1 dX2_doStack_56 (by decide) ?_
        refine lv_irem S.1 S.2.1 dX2_doStack_58 (by decide) ?_
        refine lv_topi (fun x6 ex6 => ?_)
        have h := h x6 ex6
        refine lv_istore_n (lv' := [(3, .int x6), (2, .int x5), (0, .ref (ad 6 l0)), (1, .int l1)]) S.1 S.2.1 dX2_doStack_59 rfl hl (by decide) rfl (fun ls hl => ?_)
        refine lv_aload_n S.1 S.2.1 dX2_doStack_60 rfl (lv_at hl 2 rfl) ?_
        refine g6_6 S hg hw g1 u584 dX2_doStack_61 ?_
        refine lv_aload_n S.1 S.2.1 dX2_doStack_64 rfl (lv_at hl 2 rfl) ?_
        refine g6_7 S hg hw g1 u585 dX2_doStack_65 ?_
        refine a17 S hg hw g1 g4 dX2_doStack_68 ?_
        refine lv_bipush (v := 10) S.1 S.2.1 dX2_doStack_69 (by decide) ?_
        refine lv_irem S.1 S.2.1 dX2_doStack_71 (by decide) ?_
        refine lv_iload_n S.1 S.2.1 dX2_doStack_72 rfl (lv_at hl 3 rfl) ?_
        refine lv_iadd S.1 S.2.1 dX2_doStack_73 ?_
        refine lv_topi (fun x7 ex7 => ?_)
        have h := h x7 ex7
        refine lv_istore (lv' := [(4, .int x7), (3, .int x6), (2, .int x5), (0, .ref (ad 6 l0)), (1, .int l1)]) S.1 S.2.1 dX2_doStack_74 hl (by decide) rfl (fun ls hl => ?_)
        refine lv_iconst (v := 0) S.1 S.2.1 dX2_doStack_76 (by decide) ?_
        refine lv_istore_n (lv' := [(1, .int 0), (4, .int x7), (3, .int x6), (2, .int x5), (0, .ref (ad 6 l0))]) S.1 S.2.1 dX2_doStack_77 rfl hl (by decide) rfl (fun ls hl => ?_)
        refine lv_iload_n S.1 S.2.1 dX2_doStack_78 rfl (lv_at hl 2 rfl) ?_
        refine lv_if_ne (tgt := 92) S.1 S.2.1 dX2_doStack_79 (by decide) (fun c8 => ?_) (fun c8 => ?_)
        · have h := h.1 c8
          refine lv_iload_n S.1 S.2.1 dX2_doStack_92 rfl (lv_at hl 2 rfl) ?_
          refine lv_iconst (v := 1) S.1 S.2.1 dX2_doStack_93 (by decide) ?_
          refine lv_icmp_ne (tgt := 107) S.1 S.2.1 dX2_doStack_94 (by decide) (fun c9 => ?_) (fun c9 => ?_)
          · have h := h.1 c9
            refine lv_iload_n S.1 S.2.1 dX2_doStack_107 rfl (lv_at hl 2 rfl) ?_
            refine lv_iconst (v := 2) S.1 S.2.1 dX2_doStack_108 (by decide) ?_
            refine lv_icmp_ne (tgt := 129) S.1 S.2.1 dX2_doStack_109 (by decide) (fun c10 => ?_) (fun c10 => ?_)
            · have h := h.1 c10
              refine lv_iload S.1 S.2.1 dX2_doStack_129 (lv_at hl 1 rfl) ?_
              refine lv_istore_n (lv' := [(1, .int x7), (4, .int x7), (3, .int x6), (2, .int x5), (0, .ref (ad 6 l0))]) S.1 S.2.1 dX2_doStack_131 rfl hl (by decide) rfl (fun ls hl => ?_)
              have hl := lv_sub hl (l' := [(0, .ref (ad 6 l0)), (1, .int x7)]) [4, 0] rfl
              exact bX2_doStack_132 S hg hr hlk hout ih hS hw hl h
            · have h := h.2 c10
              refine lv_aload_n S.1 S.2.1 dX2_doStack_112 rfl (lv_at hl 4 rfl) ?_
              refine lv_iconst (v := 0) S.1 S.2.1 dX2_doStack_113 (by decide) ?_
              refine lv_aload_n S.1 S.2.1 dX2_doStack_114 rfl (lv_at hl 4 rfl) ?_
              refine g6_7 S hg hw g1 u585 dX2_doStack_115 ?_
              refine lv_iconst (v := 1) S.1 S.2.1 dX2_doStack_118 (by decide) ?_
              refine lv_isub S.1 S.2.1 dX2_doStack_119 ?_
              refine va_mmax S.1 S.2.1 (S.2.2.1.trans hl.1.symm) S.2.2.2.1 (S.2.2.2.2 _ u719) (S.2.2.2.2 _ u425) (S.2.2.2.2 _ u33) (S.2.2.2.2 _ u426) (Nat.le_of_ble_eq_true rfl) (Nat.le_of_ble_eq_true rfl) (by show 0 ≤ mc; omega) (by show 0 ≤ ms; omega) dX2_doStack_120 ?_
              refine p6_7 S hg hS hw g1 u585 dX2_doStack_123 (fun H locs hw hS => ?_)
              refine lv_goto (tgt := 132) S.1 S.2.1 dX2_doStack_126 (by decide) ?_
              have hl := lv_sub hl (l' := [(0, .ref (ad 6 l0)), (1, .int 0)]) [4, 0] rfl
              exact bX2_doStack_132 S hg hr hlk hout ih hS hw hl h
          · have h := h.2 c9
            refine lv_aload_n S.1 S.2.1 dX2_doStack_97 rfl (lv_at hl 4 rfl) ?_
            refine lv_iload_n S.1 S.2.1 dX2_doStack_98 rfl (lv_at hl 3 rfl) ?_
            refine lv_iload S.1 S.2.1 dX2_doStack_99 (lv_at hl 1 rfl) ?_
            refine r_call (rest := []) S hg hS (mtX2_healOwn (mc := 0) (ms := 0) h) u714 u716 u12 u49 u717 hdX2_healOwn (rv6 hg hw g1) hw ⟨Nat.le_of_ble_eq_true rfl, Nat.le_of_ble_eq_true rfl⟩ ⟨by show 0 + 0 ≤ mc; omega, by show 0 + 0 ≤ ms; omega⟩ hl.1 (Nat.le_of_ble_eq_true rfl) rfl dX2_doStack_101 (fun E ce q H1 locs1 hx hS1 hc1 hc2 hc3 => hx.elim) (fun rv H locs hq hS => ?_)
            obtain ⟨_, K11, rfl, h, hw⟩ := hq
            show W p l e _ s m _ below meth c H locs _ _ _ (F0 m 104 ls [])
            show W p l e _ s m _ below meth c H locs 0 0 _ _
            refine lv_goto (tgt := 132) S.1 S.2.1 dX2_doStack_104 (by decide) ?_
            have hl := lv_sub hl (l' := [(0, .ref (ad 6 l0)), (1, .int 0)]) [4, 0] rfl
            exact bX2_doStack_132 S hg hr hlk hout ih hS hw hl h
        · have h := h.2 c8
          refine lv_aload_n S.1 S.2.1 dX2_doStack_82 rfl (lv_at hl 4 rfl) ?_
          refine lv_iload_n S.1 S.2.1 dX2_doStack_83 rfl (lv_at hl 3 rfl) ?_
          refine lv_iload S.1 S.2.1 dX2_doStack_84 (lv_at hl 1 rfl) ?_
          refine r_call (rest := []) S hg hS (mtX2_hurtOtherOf (mc := 0) (ms := 0) h) u706 u708 u10 u49 u709 hdX2_hurtOtherOf (rv6 hg hw g1) hw ⟨Nat.le_of_ble_eq_true rfl, Nat.le_of_ble_eq_true rfl⟩ ⟨by show 0 + 0 ≤ mc; omega, by show 0 + 0 ≤ ms; omega⟩ hl.1 (Nat.le_of_ble_eq_true rfl) rfl dX2_doStack_86 (fun E ce q H1 locs1 hx hS1 hc1 hc2 hc3 => hx.elim) (fun rv H locs hq hS => ?_)
          obtain ⟨_, K12, rfl, h, hw⟩ := hq
          show W p l e _ s m _ below meth c H locs _ _ _ (F0 m 89 ls [])
          show W p l e _ s m _ below meth c H locs 0 0 _ _
          refine lv_goto (tgt := 132) S.1 S.2.1 dX2_doStack_89 (by decide) ?_
          have hl := lv_sub hl (l' := [(0, .ref (ad 6 l0)), (1, .int 0)]) [4, 0] rfl
          exact bX2_doStack_132 S hg hr hlk hout ih hS hw hl h
def wpX2_doStack (post : Unit → KS → Prop) (K : KS) (q0 : Nat) : Prop := ∃ n1 : Nat, wX2_doStack_2 post n1 q0 0 K
theorem hdX2_doStack : yX2_doStack.cls ≠ "java/lang/invoke/MethodHandle" ∧ yX2_doStack.cls ≠ "java/lang/invoke/VarHandle" ∧ (parseMethodDescriptor yX2_doStack.desc).map (fun d => d.parameters.length) = some 0 := by decide +kernel
set_option maxHeartbeats 4000000 in
set_option maxRecDepth 100000 in
theorem mtX2_doStack {l : Launch} {D : va_G} {cI : Nat → ClassId} {e0 : Nat} {A : Nat → Prop} {ad : Nat → Nat → Nat} {K M : KS} {ap o : Int64} {od : UInt64} {mc ms : Nat} {q0 : Nat} {post : Unit → KS → Prop} (h : wpX2_doStack post K q0) : CM l D cI e0 A yX2_doStack cX2_doStack 5 none 2 53 mc ms [.ref (ad 6 q0)] (HT D cI e0 A ad K M ap o od) (qK D cI e0 A ad M ap o od rV post) xN := by
  refine CM.of (by decide) (Nat.le_of_ble_eq_true rfl) (fun p e s m below meth c ls FX hw hS hl => ?_)
  obtain ⟨S, hg, hr, hlk, hnm, hout⟩ := FX
  have hl : lv_has ls 5 [(0, .ref (ad 6 q0))] := hl
  unfold wpX2_doStack at h
  refine lv_iconst (v := 0) S.1 S.2.1 dX2_doStack_0 (by decide) ?_
  refine lv_istore_n (lv' := [(1, .int 0), (0, .ref (ad 6 q0))]) S.1 S.2.1 dX2_doStack_1 rfl hl (by decide) rfl (fun ls hl => ?_)
  have hl := lv_sub hl (l' := [(0, .ref (ad 6 q0)), (1, .int 0)]) [1, 0] rfl
  obtain ⟨n1, h⟩ := h
  exact bX2_doStack_2 S hg hr hlk hout n1 hS hw hl h

-- X2.playerWithMoreLife
theorem dX2_playerWithMoreLife_0 : decode cX2_playerWithMoreLife 0 = .ok (.aload_n 0, 1) := by decide +kernel
theorem dX2_playerWithMoreLife_1 : decode cX2_playerWithMoreLife 1 = .ok (.getfield 36, 3) := by decide +kernel
theorem dX2_playerWithMoreLife_4 : decode cX2_playerWithMoreLife 4 = .ok (.getfield 99, 3) := by decide +kernel
theorem dX2_playerWithMoreLife_7 : decode cX2_playerWithMoreLife 7 = .ok (.aload_n 0, 1) := by decide +kernel
theorem dX2_playerWithMoreLife_8 : decode cX2_playerWithMoreLife 8 = .ok (.getfield 40, 3) := by decide +kernel
theorem dX2_playerWithMoreLife_11 : decode cX2_playerWithMoreLife 11 = .ok (.getfield 99, 3) := by decide +kernel
theorem dX2_playerWithMoreLife_14 : decode cX2_playerWithMoreLife 14 = .ok (.if_icmp .ne 5, 3) := by decide +kernel
theorem dX2_playerWithMoreLife_17 : decode cX2_playerWithMoreLife 17 = .ok (.iconst (-1), 1) := by decide +kernel
theorem dX2_playerWithMoreLife_18 : decode cX2_playerWithMoreLife 18 = .ok (.ireturn, 1) := by decide +kernel
theorem dX2_playerWithMoreLife_19 : decode cX2_playerWithMoreLife 19 = .ok (.aload_n 0, 1) := by decide +kernel
theorem dX2_playerWithMoreLife_20 : decode cX2_playerWithMoreLife 20 = .ok (.getfield 36, 3) := by decide +kernel
theorem dX2_playerWithMoreLife_23 : decode cX2_playerWithMoreLife 23 = .ok (.getfield 99, 3) := by decide +kernel
theorem dX2_playerWithMoreLife_26 : decode cX2_playerWithMoreLife 26 = .ok (.aload_n 0, 1) := by decide +kernel
theorem dX2_playerWithMoreLife_27 : decode cX2_playerWithMoreLife 27 = .ok (.getfield 40, 3) := by decide +kernel
theorem dX2_playerWithMoreLife_30 : decode cX2_playerWithMoreLife 30 = .ok (.getfield 99, 3) := by decide +kernel
theorem dX2_playerWithMoreLife_33 : decode cX2_playerWithMoreLife 33 = .ok (.if_icmp .le 13, 3) := by decide +kernel
theorem dX2_playerWithMoreLife_36 : decode cX2_playerWithMoreLife 36 = .ok (.aload_n 0, 1) := by decide +kernel
theorem dX2_playerWithMoreLife_37 : decode cX2_playerWithMoreLife 37 = .ok (.getfield 36, 3) := by decide +kernel
theorem dX2_playerWithMoreLife_40 : decode cX2_playerWithMoreLife 40 = .ok (.getfield 43, 3) := by decide +kernel
theorem dX2_playerWithMoreLife_43 : decode cX2_playerWithMoreLife 43 = .ok (.goto 10, 3) := by decide +kernel
theorem dX2_playerWithMoreLife_46 : decode cX2_playerWithMoreLife 46 = .ok (.aload_n 0, 1) := by decide +kernel
theorem dX2_playerWithMoreLife_47 : decode cX2_playerWithMoreLife 47 = .ok (.getfield 40, 3) := by decide +kernel
theorem dX2_playerWithMoreLife_50 : decode cX2_playerWithMoreLife 50 = .ok (.getfield 43, 3) := by decide +kernel
theorem dX2_playerWithMoreLife_53 : decode cX2_playerWithMoreLife 53 = .ok (.ireturn, 1) := by decide +kernel
def wpX2_playerWithMoreLife (post : Int32 → Prop) (K : KS) (q0 : Nat) : Prop := (q0 < nD K) ∧ (((¬ (K 7 1 (2 * q0)) = (K 7 1 (2 * q0 + 1)) → ((((K 7 1 (2 * q0)) ≤ (K 7 1 (2 * q0 + 1)) → (post (K 7 0 (2 * q0 + 1)))) ∧ (¬ (K 7 1 (2 * q0)) ≤ (K 7 1 (2 * q0 + 1)) → (post (K 7 0 (2 * q0))))))) ∧ ((K 7 1 (2 * q0)) = (K 7 1 (2 * q0 + 1)) → (post (-1)))))
theorem hdX2_playerWithMoreLife : yX2_playerWithMoreLife.cls ≠ "java/lang/invoke/MethodHandle" ∧ yX2_playerWithMoreLife.cls ≠ "java/lang/invoke/VarHandle" ∧ (parseMethodDescriptor yX2_playerWithMoreLife.desc).map (fun d => d.parameters.length) = some 0 := by decide +kernel
set_option maxHeartbeats 4000000 in
set_option maxRecDepth 100000 in
theorem mtX2_playerWithMoreLife {l : Launch} {D : va_G} {cI : Nat → ClassId} {e0 : Nat} {A : Nat → Prop} {ad : Nat → Nat → Nat} {K M : KS} {ap o : Int64} {od : UInt64} {mc ms : Nat} {q0 : Nat} {post : Int32 → Prop} (h : wpX2_playerWithMoreLife post K q0) : CM l D cI e0 A yX2_playerWithMoreLife cX2_playerWithMoreLife 1 (some FieldType.int) 0 0 mc ms [.ref (ad 6 q0)] (HT D cI e0 A ad K M ap o od) (qP D cI e0 A ad K M ap o od rI post) xN := by
  refine CM.of (by decide) (Nat.le_of_ble_eq_true rfl) (fun p e s m below meth c ls FX hw hS hl => ?_)
  obtain ⟨S, hg, hr, hlk, hnm, hout⟩ := FX
  have hl : lv_has ls 1 [(0, .ref (ad 6 q0))] := hl
  unfold wpX2_playerWithMoreLife at h
  refine lv_aload_n S.1 S.2.1 dX2_playerWithMoreLife_0 rfl (lv_at hl 0 rfl) ?_
  obtain ⟨g1, h⟩ := h
  refine g6_0 S hg hw g1 u573 dX2_playerWithMoreLife_1 ?_
  refine g7_1 S hg hw (lt2 g1) u557 dX2_playerWithMoreLife_4 ?_
  refine lv_aload_n S.1 S.2.1 dX2_playerWithMoreLife_7 rfl (lv_at hl 0 rfl) ?_
  refine g6_1 S hg hw g1 u575 dX2_playerWithMoreLife_8 ?_
  refine g7_1 S hg hw (lt2s g1) u557 dX2_playerWithMoreLife_11 ?_
  refine lv_icmp_ne (tgt := 19) S.1 S.2.1 dX2_playerWithMoreLife_14 (by decide) (fun c2 => ?_) (fun c2 => ?_)
  · have h := h.1 c2
    refine lv_aload_n S.1 S.2.1 dX2_playerWithMoreLife_19 rfl (lv_at hl 0 rfl) ?_
    refine g6_0 S hg hw g1 u573 dX2_playerWithMoreLife_20 ?_
    refine g7_1 S hg hw (lt2 g1) u557 dX2_playerWithMoreLife_23 ?_
    refine lv_aload_n S.1 S.2.1 dX2_playerWithMoreLife_26 rfl (lv_at hl 0 rfl) ?_
    refine g6_1 S hg hw g1 u575 dX2_playerWithMoreLife_27 ?_
    refine g7_1 S hg hw (lt2s g1) u557 dX2_playerWithMoreLife_30 ?_
    refine lv_icmp_le (tgt := 46) S.1 S.2.1 dX2_playerWithMoreLife_33 (by decide) (fun c3 => ?_) (fun c3 => ?_)
    · have h := h.1 c3
      refine lv_aload_n S.1 S.2.1 dX2_playerWithMoreLife_46 rfl (lv_at hl 0 rfl) ?_
      refine g6_1 S hg hw g1 u575 dX2_playerWithMoreLife_47 ?_
      refine g7_0 S hg hw (lt2s g1) u554 dX2_playerWithMoreLife_50 ?_
      exact r_iret (y := yX2_playerWithMoreLife) S hr rfl hlk hS (by omega) (by omega) dX2_playerWithMoreLife_53 ⟨(K 7 0 (2 * q0 + 1)), rfl, h, hw⟩
    · have h := h.2 c3
      refine lv_aload_n S.1 S.2.1 dX2_playerWithMoreLife_36 rfl (lv_at hl 0 rfl) ?_
      refine g6_0 S hg hw g1 u573 dX2_playerWithMoreLife_37 ?_
      refine g7_0 S hg hw (lt2 g1) u554 dX2_playerWithMoreLife_40 ?_
      refine lv_goto (tgt := 53) S.1 S.2.1 dX2_playerWithMoreLife_43 (by decide) ?_
      exact r_iret (y := yX2_playerWithMoreLife) S hr rfl hlk hS (by omega) (by omega) dX2_playerWithMoreLife_53 ⟨(K 7 0 (2 * q0)), rfl, h, hw⟩
  · have h := h.2 c2
    refine lv_iconst (v := (-1)) S.1 S.2.1 dX2_playerWithMoreLife_17 (by decide) ?_
    exact r_iret (y := yX2_playerWithMoreLife) S hr rfl hlk hS (by omega) (by omega) dX2_playerWithMoreLife_18 ⟨(-1), rfl, h, hw⟩

-- X2.passTurn
theorem dX2_passTurn_0 : decode cX2_passTurn 0 = .ok (.aload_n 0, 1) := by decide +kernel
theorem dX2_passTurn_1 : decode cX2_passTurn 1 = .ok (.dup, 1) := by decide +kernel
theorem dX2_passTurn_2 : decode cX2_passTurn 2 = .ok (.getfield 56, 3) := by decide +kernel
theorem dX2_passTurn_5 : decode cX2_passTurn 5 = .ok (.iconst 1, 1) := by decide +kernel
theorem dX2_passTurn_6 : decode cX2_passTurn 6 = .ok (.iadd, 1) := by decide +kernel
theorem dX2_passTurn_7 : decode cX2_passTurn 7 = .ok (.putfield 56, 3) := by decide +kernel
theorem dX2_passTurn_10 : decode cX2_passTurn 10 = .ok (.aload_n 0, 1) := by decide +kernel
theorem dX2_passTurn_11 : decode cX2_passTurn 11 = .ok (.bipush 6, 2) := by decide +kernel
theorem dX2_passTurn_13 : decode cX2_passTurn 13 = .ok (.iconst 1, 1) := by decide +kernel
theorem dX2_passTurn_14 : decode cX2_passTurn 14 = .ok (.aload_n 0, 1) := by decide +kernel
theorem dX2_passTurn_15 : decode cX2_passTurn 15 = .ok (.getfield 56, 3) := by decide +kernel
theorem dX2_passTurn_18 : decode cX2_passTurn 18 = .ok (.iconst 2, 1) := by decide +kernel
theorem dX2_passTurn_19 : decode cX2_passTurn 19 = .ok (.idiv, 1) := by decide +kernel
theorem dX2_passTurn_20 : decode cX2_passTurn 20 = .ok (.iadd, 1) := by decide +kernel
theorem dX2_passTurn_21 : decode cX2_passTurn 21 = .ok (.invokestatic 105, 3) := by decide +kernel
theorem dX2_passTurn_24 : decode cX2_passTurn 24 = .ok (.putfield 72, 3) := by decide +kernel
theorem dX2_passTurn_27 : decode cX2_passTurn 27 = .ok (.aload_n 0, 1) := by decide +kernel
theorem dX2_passTurn_28 : decode cX2_passTurn 28 = .ok (.getfield 36, 3) := by decide +kernel
theorem dX2_passTurn_31 : decode cX2_passTurn 31 = .ok (.invokevirtual 108, 3) := by decide +kernel
theorem dX2_passTurn_34 : decode cX2_passTurn 34 = .ok (.ifCond .eq 21, 3) := by decide +kernel
theorem dX2_passTurn_37 : decode cX2_passTurn 37 = .ok (.aload_n 0, 1) := by decide +kernel
theorem dX2_passTurn_38 : decode cX2_passTurn 38 = .ok (.getfield 40, 3) := by decide +kernel
theorem dX2_passTurn_41 : decode cX2_passTurn 41 = .ok (.invokevirtual 108, 3) := by decide +kernel
theorem dX2_passTurn_44 : decode cX2_passTurn 44 = .ok (.ifCond .eq 11, 3) := by decide +kernel
theorem dX2_passTurn_47 : decode cX2_passTurn 47 = .ok (.aload_n 0, 1) := by decide +kernel
theorem dX2_passTurn_48 : decode cX2_passTurn 48 = .ok (.aload_n 0, 1) := by decide +kernel
theorem dX2_passTurn_49 : decode cX2_passTurn 49 = .ok (.invokevirtual 112, 3) := by decide +kernel
theorem dX2_passTurn_52 : decode cX2_passTurn 52 = .ok (.invokevirtual 102, 3) := by decide +kernel
theorem dX2_passTurn_55 : decode cX2_passTurn 55 = .ok (.return_, 1) := by decide +kernel
def wpX2_passTurn (post : Unit → KS → Prop) (K : KS) (q0 : Nat) : Prop := (q0 < nD K) ∧ ((wpX5_hasPlayedAll (fun r2 => ((r2 = 0 → (post () (k3 (k3 K 6 5 q0 ((K 6 5 q0) + 1)) 6 4 q0 (if (1 + (((k3 K 6 5 q0 ((K 6 5 q0) + 1)) 6 5 q0) / 2)) < 6 then (1 + (((k3 K 6 5 q0 ((K 6 5 q0) + 1)) 6 5 q0) / 2)) else 6)))) ∧ (¬ r2 = 0 → ((wpX5_hasPlayedAll (fun r4 => ((r4 = 0 → (post () (k3 (k3 K 6 5 q0 ((K 6 5 q0) + 1)) 6 4 q0 (if (1 + (((k3 K 6 5 q0 ((K 6 5 q0) + 1)) 6 5 q0) / 2)) < 6 then (1 + (((k3 K 6 5 q0 ((K 6 5 q0) + 1)) 6 5 q0) / 2)) else 6)))) ∧ (¬ r4 = 0 → ((wpX2_playerWithMoreLife (fun r6 => (wpX2_end (fun _ K7 => post () K7) (k3 (k3 K 6 5 q0 ((K 6 5 q0) + 1)) 6 4 q0 (if (1 + (((k3 K 6 5 q0 ((K 6 5 q0) + 1)) 6 5 q0) / 2)) < 6 then (1 + (((k3 K 6 5 q0 ((K 6 5 q0) + 1)) 6 5 q0) / 2)) else 6)) q0 r6)) (k3 (k3 K 6 5 q0 ((K 6 5 q0) + 1)) 6 4 q0 (if (1 + (((k3 K 6 5 q0 ((K 6 5 q0) + 1)) 6 5 q0) / 2)) < 6 then (1 + (((k3 K 6 5 q0 ((K 6 5 q0) + 1)) 6 5 q0) / 2)) else 6)) q0))))) (k3 (k3 K 6 5 q0 ((K 6 5 q0) + 1)) 6 4 q0 (if (1 + (((k3 K 6 5 q0 ((K 6 5 q0) + 1)) 6 5 q0) / 2)) < 6 then (1 + (((k3 K 6 5 q0 ((K 6 5 q0) + 1)) 6 5 q0) / 2)) else 6)) (2 * q0 + 1)))))) (k3 (k3 K 6 5 q0 ((K 6 5 q0) + 1)) 6 4 q0 (if (1 + (((k3 K 6 5 q0 ((K 6 5 q0) + 1)) 6 5 q0) / 2)) < 6 then (1 + (((k3 K 6 5 q0 ((K 6 5 q0) + 1)) 6 5 q0) / 2)) else 6)) (2 * q0)))
theorem hdX2_passTurn : yX2_passTurn.cls ≠ "java/lang/invoke/MethodHandle" ∧ yX2_passTurn.cls ≠ "java/lang/invoke/VarHandle" ∧ (parseMethodDescriptor yX2_passTurn.desc).map (fun d => d.parameters.length) = some 0 := by decide +kernel
set_option maxHeartbeats 4000000 in
set_option maxRecDepth 100000 in
theorem mtX2_passTurn {l : Launch} {D : va_G} {cI : Nat → ClassId} {e0 : Nat} {A : Nat → Prop} {ad : Nat → Nat → Nat} {K M : KS} {ap o : Int64} {od : UInt64} {mc ms : Nat} {q0 : Nat} {post : Unit → KS → Prop} (h : wpX2_passTurn post K q0) : CM l D cI e0 A yX2_passTurn cX2_passTurn 1 none 2 41 mc ms [.ref (ad 6 q0)] (HT D cI e0 A ad K M ap o od) (qK D cI e0 A ad M ap o od rV post) xN := by
  refine CM.of (by decide) (Nat.le_of_ble_eq_true rfl) (fun p e s m below meth c ls FX hw hS hl => ?_)
  obtain ⟨S, hg, hr, hlk, hnm, hout⟩ := FX
  have hl : lv_has ls 1 [(0, .ref (ad 6 q0))] := hl
  unfold wpX2_passTurn at h
  refine lv_aload_n S.1 S.2.1 dX2_passTurn_0 rfl (lv_at hl 0 rfl) ?_
  refine lv_dup S.1 S.2.1 dX2_passTurn_1 rfl ?_
  obtain ⟨g1, h⟩ := h
  refine g6_5 S hg hw g1 u583 dX2_passTurn_2 ?_
  refine lv_iconst (v := 1) S.1 S.2.1 dX2_passTurn_5 (by decide) ?_
  refine lv_iadd S.1 S.2.1 dX2_passTurn_6 ?_
  refine p6_5 S hg hS hw g1 u583 dX2_passTurn_7 (fun H locs hw hS => ?_)
  refine lv_aload_n S.1 S.2.1 dX2_passTurn_10 rfl (lv_at hl 0 rfl) ?_
  refine lv_bipush (v := 6) S.1 S.2.1 dX2_passTurn_11 (by decide) ?_
  refine lv_iconst (v := 1) S.1 S.2.1 dX2_passTurn_13 (by decide) ?_
  refine lv_aload_n S.1 S.2.1 dX2_passTurn_14 rfl (lv_at hl 0 rfl) ?_
  refine g6_5 S hg hw g1 u583 dX2_passTurn_15 ?_
  refine lv_iconst (v := 2) S.1 S.2.1 dX2_passTurn_18 (by decide) ?_
  refine lv_idiv S.1 S.2.1 dX2_passTurn_19 (by decide) ?_
  refine lv_iadd S.1 S.2.1 dX2_passTurn_20 ?_
  refine va_mmin S.1 S.2.1 (S.2.2.1.trans hl.1.symm) S.2.2.2.1 (S.2.2.2.2 _ u718) (S.2.2.2.2 _ u460) (S.2.2.2.2 _ u33) (S.2.2.2.2 _ u461) (Nat.le_of_ble_eq_true rfl) (Nat.le_of_ble_eq_true rfl) (by show 0 ≤ mc; omega) (by show 0 ≤ ms; omega) dX2_passTurn_21 ?_
  refine p6_4 S hg hS hw g1 u581 dX2_passTurn_24 (fun H locs hw hS => ?_)
  refine lv_aload_n S.1 S.2.1 dX2_passTurn_27 rfl (lv_at hl 0 rfl) ?_
  refine g6_0 S hg hw g1 u573 dX2_passTurn_28 ?_
  refine r_call (rest := []) S hg hS (mtX5_hasPlayedAll (mc := 0) (ms := 0) h) u724 u725 u726 u50 u727 hdX5_hasPlayedAll (rv7 hg hw (lt2 g1)) hw ⟨Nat.le_of_ble_eq_true rfl, Nat.le_of_ble_eq_true rfl⟩ ⟨by show 0 + 0 ≤ mc; omega, by show 0 + 0 ≤ ms; omega⟩ hl.1 (Nat.le_of_ble_eq_true rfl) rfl dX2_passTurn_31 (fun E ce q H1 locs1 hx hS1 hc1 hc2 hc3 => hx.elim) (fun rv H locs hq hS => ?_)
  obtain ⟨r2, rfl, h, hw⟩ := hq
  show W p l e _ s m _ below meth c H locs _ _ _ (F0 m 34 ls [.int r2])
  show W p l e _ s m _ below meth c H locs 0 0 _ _
  refine lv_if_eq (tgt := 55) S.1 S.2.1 dX2_passTurn_34 (by decide) (fun c3 => ?_) (fun c3 => ?_)
  · have h := h.1 c3
    exact r_vret (y := yX2_passTurn) S hr hlk hS (by omega) (by omega) dX2_passTurn_55 ⟨(), _, rfl, h, hw⟩
  · have h := h.2 c3
    refine lv_aload_n S.1 S.2.1 dX2_passTurn_37 rfl (lv_at hl 0 rfl) ?_
    refine g6_1 S hg hw g1 u575 dX2_passTurn_38 ?_
    refine r_call (rest := []) S hg hS (mtX5_hasPlayedAll (mc := 0) (ms := 0) h) u724 u725 u726 u50 u727 hdX5_hasPlayedAll (rv7 hg hw (lt2s g1)) hw ⟨Nat.le_of_ble_eq_true rfl, Nat.le_of_ble_eq_true rfl⟩ ⟨by show 0 + 0 ≤ mc; omega, by show 0 + 0 ≤ ms; omega⟩ hl.1 (Nat.le_of_ble_eq_true rfl) rfl dX2_passTurn_41 (fun E ce q H1 locs1 hx hS1 hc1 hc2 hc3 => hx.elim) (fun rv H locs hq hS => ?_)
    obtain ⟨r4, rfl, h, hw⟩ := hq
    show W p l e _ s m _ below meth c H locs _ _ _ (F0 m 44 ls [.int r4])
    show W p l e _ s m _ below meth c H locs 0 0 _ _
    refine lv_if_eq (tgt := 55) S.1 S.2.1 dX2_passTurn_44 (by decide) (fun c5 => ?_) (fun c5 => ?_)
    · have h := h.1 c5
      exact r_vret (y := yX2_passTurn) S hr hlk hS (by omega) (by omega) dX2_passTurn_55 ⟨(), _, rfl, h, hw⟩
    · have h := h.2 c5
      refine lv_aload_n S.1 S.2.1 dX2_passTurn_47 rfl (lv_at hl 0 rfl) ?_
      refine lv_aload_n S.1 S.2.1 dX2_passTurn_48 rfl (lv_at hl 0 rfl) ?_
      refine r_call (rest := [.ref (ad 6 q0)]) S hg hS (mtX2_playerWithMoreLife (mc := 0) (ms := 0) h) u728 u730 u13 u49 u731 hdX2_playerWithMoreLife (rv6 hg hw g1) hw ⟨Nat.le_of_ble_eq_true rfl, Nat.le_of_ble_eq_true rfl⟩ ⟨by show 0 + 0 ≤ mc; omega, by show 0 + 0 ≤ ms; omega⟩ hl.1 (Nat.le_of_ble_eq_true rfl) rfl dX2_passTurn_49 (fun E ce q H1 locs1 hx hS1 hc1 hc2 hc3 => hx.elim) (fun rv H locs hq hS => ?_)
      obtain ⟨r6, rfl, h, hw⟩ := hq
      show W p l e _ s m _ below meth c H locs _ _ _ (F0 m 52 ls [.int r6, .ref (ad 6 q0)])
      show W p l e _ s m _ below meth c H locs 0 0 _ _
      refine r_call (rest := []) S hg hS (mtX2_end (mc := 0) (ms := 0) h) u710 u712 u11 u49 u713 hdX2_end (rv6 hg hw g1) hw ⟨Nat.le_of_ble_eq_true rfl, Nat.le_of_ble_eq_true rfl⟩ ⟨by show 0 + 0 ≤ mc; omega, by show 0 + 0 ≤ ms; omega⟩ hl.1 (Nat.le_of_ble_eq_true rfl) rfl dX2_passTurn_52 (fun E ce q H1 locs1 hx hS1 hc1 hc2 hc3 => hx.elim) (fun rv H locs hq hS => ?_)
      obtain ⟨_, K7, rfl, h, hw⟩ := hq
      show W p l e _ s m _ below meth c H locs _ _ _ (F0 m 55 ls [])
      show W p l e _ s m _ below meth c H locs 0 0 _ _
      exact r_vret (y := yX2_passTurn) S hr hlk hS (by omega) (by omega) dX2_passTurn_55 ⟨(), _, rfl, h, hw⟩

-- X2.writeState
theorem dX2_writeState_0 : decode cX2_writeState 0 = .ok (.aload_n 1, 1) := by decide +kernel
theorem dX2_writeState_1 : decode cX2_writeState 1 = .ok (.arraylength, 1) := by decide +kernel
theorem dX2_writeState_2 : decode cX2_writeState 2 = .ok (.bipush 24, 2) := by decide +kernel
theorem dX2_writeState_4 : decode cX2_writeState 4 = .ok (.if_icmp .ge 4, 3) := by decide +kernel
theorem dX2_writeState_7 : decode cX2_writeState 7 = .ok (.return_, 1) := by decide +kernel
theorem dX2_writeState_8 : decode cX2_writeState 8 = .ok (.aload_n 1, 1) := by decide +kernel
theorem dX2_writeState_9 : decode cX2_writeState 9 = .ok (.iconst 0, 1) := by decide +kernel
theorem dX2_writeState_10 : decode cX2_writeState 10 = .ok (.aload_n 0, 1) := by decide +kernel
theorem dX2_writeState_11 : decode cX2_writeState 11 = .ok (.getfield 36, 3) := by decide +kernel
theorem dX2_writeState_14 : decode cX2_writeState 14 = .ok (.getfield 99, 3) := by decide +kernel
theorem dX2_writeState_17 : decode cX2_writeState 17 = .ok (.iastore, 1) := by decide +kernel
theorem dX2_writeState_18 : decode cX2_writeState 18 = .ok (.aload_n 1, 1) := by decide +kernel
theorem dX2_writeState_19 : decode cX2_writeState 19 = .ok (.iconst 1, 1) := by decide +kernel
theorem dX2_writeState_20 : decode cX2_writeState 20 = .ok (.aload_n 0, 1) := by decide +kernel
theorem dX2_writeState_21 : decode cX2_writeState 21 = .ok (.getfield 40, 3) := by decide +kernel
theorem dX2_writeState_24 : decode cX2_writeState 24 = .ok (.getfield 99, 3) := by decide +kernel
theorem dX2_writeState_27 : decode cX2_writeState 27 = .ok (.iastore, 1) := by decide +kernel
theorem dX2_writeState_28 : decode cX2_writeState 28 = .ok (.aload_n 1, 1) := by decide +kernel
theorem dX2_writeState_29 : decode cX2_writeState 29 = .ok (.iconst 2, 1) := by decide +kernel
theorem dX2_writeState_30 : decode cX2_writeState 30 = .ok (.aload_n 0, 1) := by decide +kernel
theorem dX2_writeState_31 : decode cX2_writeState 31 = .ok (.getfield 72, 3) := by decide +kernel
theorem dX2_writeState_34 : decode cX2_writeState 34 = .ok (.iastore, 1) := by decide +kernel
theorem dX2_writeState_35 : decode cX2_writeState 35 = .ok (.aload_n 1, 1) := by decide +kernel
theorem dX2_writeState_36 : decode cX2_writeState 36 = .ok (.iconst 3, 1) := by decide +kernel
theorem dX2_writeState_37 : decode cX2_writeState 37 = .ok (.aload_n 0, 1) := by decide +kernel
theorem dX2_writeState_38 : decode cX2_writeState 38 = .ok (.getfield 56, 3) := by decide +kernel
theorem dX2_writeState_41 : decode cX2_writeState 41 = .ok (.iastore, 1) := by decide +kernel
theorem dX2_writeState_42 : decode cX2_writeState 42 = .ok (.aload_n 0, 1) := by decide +kernel
theorem dX2_writeState_43 : decode cX2_writeState 43 = .ok (.getfield 36, 3) := by decide +kernel
theorem dX2_writeState_46 : decode cX2_writeState 46 = .ok (.getfield 66, 3) := by decide +kernel
theorem dX2_writeState_49 : decode cX2_writeState 49 = .ok (.iconst 0, 1) := by decide +kernel
theorem dX2_writeState_50 : decode cX2_writeState 50 = .ok (.aload_n 1, 1) := by decide +kernel
theorem dX2_writeState_51 : decode cX2_writeState 51 = .ok (.iconst 4, 1) := by decide +kernel
theorem dX2_writeState_52 : decode cX2_writeState 52 = .ok (.bipush 8, 2) := by decide +kernel
theorem dX2_writeState_54 : decode cX2_writeState 54 = .ok (.invokestatic 115, 3) := by decide +kernel
theorem dX2_writeState_57 : decode cX2_writeState 57 = .ok (.aload_n 0, 1) := by decide +kernel
theorem dX2_writeState_58 : decode cX2_writeState 58 = .ok (.getfield 40, 3) := by decide +kernel
theorem dX2_writeState_61 : decode cX2_writeState 61 = .ok (.getfield 66, 3) := by decide +kernel
theorem dX2_writeState_64 : decode cX2_writeState 64 = .ok (.iconst 0, 1) := by decide +kernel
theorem dX2_writeState_65 : decode cX2_writeState 65 = .ok (.aload_n 1, 1) := by decide +kernel
theorem dX2_writeState_66 : decode cX2_writeState 66 = .ok (.bipush 12, 2) := by decide +kernel
theorem dX2_writeState_68 : decode cX2_writeState 68 = .ok (.bipush 8, 2) := by decide +kernel
theorem dX2_writeState_70 : decode cX2_writeState 70 = .ok (.invokestatic 115, 3) := by decide +kernel
theorem dX2_writeState_73 : decode cX2_writeState 73 = .ok (.aload_n 1, 1) := by decide +kernel
theorem dX2_writeState_74 : decode cX2_writeState 74 = .ok (.bipush 20, 2) := by decide +kernel
theorem dX2_writeState_76 : decode cX2_writeState 76 = .ok (.aload_n 0, 1) := by decide +kernel
theorem dX2_writeState_77 : decode cX2_writeState 77 = .ok (.getfield 69, 3) := by decide +kernel
theorem dX2_writeState_80 : decode cX2_writeState 80 = .ok (.iastore, 1) := by decide +kernel
theorem dX2_writeState_81 : decode cX2_writeState 81 = .ok (.iconst 0, 1) := by decide +kernel
theorem dX2_writeState_82 : decode cX2_writeState 82 = .ok (.istore_n 2, 1) := by decide +kernel
theorem dX2_writeState_83 : decode cX2_writeState 83 = .ok (.iload_n 2, 1) := by decide +kernel
theorem dX2_writeState_84 : decode cX2_writeState 84 = .ok (.iconst 3, 1) := by decide +kernel
theorem dX2_writeState_85 : decode cX2_writeState 85 = .ok (.if_icmp .ge 47, 3) := by decide +kernel
theorem dX2_writeState_88 : decode cX2_writeState 88 = .ok (.aload_n 0, 1) := by decide +kernel
theorem dX2_writeState_89 : decode cX2_writeState 89 = .ok (.getfield 69, 3) := by decide +kernel
theorem dX2_writeState_92 : decode cX2_writeState 92 = .ok (.iconst 1, 1) := by decide +kernel
theorem dX2_writeState_93 : decode cX2_writeState 93 = .ok (.isub, 1) := by decide +kernel
theorem dX2_writeState_94 : decode cX2_writeState 94 = .ok (.iload_n 2, 1) := by decide +kernel
theorem dX2_writeState_95 : decode cX2_writeState 95 = .ok (.isub, 1) := by decide +kernel
theorem dX2_writeState_96 : decode cX2_writeState 96 = .ok (.istore_n 3, 1) := by decide +kernel
theorem dX2_writeState_97 : decode cX2_writeState 97 = .ok (.aload_n 1, 1) := by decide +kernel
theorem dX2_writeState_98 : decode cX2_writeState 98 = .ok (.bipush 21, 2) := by decide +kernel
theorem dX2_writeState_100 : decode cX2_writeState 100 = .ok (.iload_n 2, 1) := by decide +kernel
theorem dX2_writeState_101 : decode cX2_writeState 101 = .ok (.iadd, 1) := by decide +kernel
theorem dX2_writeState_102 : decode cX2_writeState 102 = .ok (.iload_n 3, 1) := by decide +kernel
theorem dX2_writeState_103 : decode cX2_writeState 103 = .ok (.ifCond .lt 21, 3) := by decide +kernel
theorem dX2_writeState_106 : decode cX2_writeState 106 = .ok (.iload_n 3, 1) := by decide +kernel
theorem dX2_writeState_107 : decode cX2_writeState 107 = .ok (.aload_n 0, 1) := by decide +kernel
theorem dX2_writeState_108 : decode cX2_writeState 108 = .ok (.getfield 19, 3) := by decide +kernel
theorem dX2_writeState_111 : decode cX2_writeState 111 = .ok (.arraylength, 1) := by decide +kernel
theorem dX2_writeState_112 : decode cX2_writeState 112 = .ok (.if_icmp .ge 12, 3) := by decide +kernel
theorem dX2_writeState_115 : decode cX2_writeState 115 = .ok (.aload_n 0, 1) := by decide +kernel
theorem dX2_writeState_116 : decode cX2_writeState 116 = .ok (.getfield 19, 3) := by decide +kernel
theorem dX2_writeState_119 : decode cX2_writeState 119 = .ok (.iload_n 3, 1) := by decide +kernel
theorem dX2_writeState_120 : decode cX2_writeState 120 = .ok (.iaload, 1) := by decide +kernel
theorem dX2_writeState_121 : decode cX2_writeState 121 = .ok (.goto 4, 3) := by decide +kernel
theorem dX2_writeState_124 : decode cX2_writeState 124 = .ok (.iconst (-1), 1) := by decide +kernel
theorem dX2_writeState_125 : decode cX2_writeState 125 = .ok (.iastore, 1) := by decide +kernel
theorem dX2_writeState_126 : decode cX2_writeState 126 = .ok (.iinc 2 1, 3) := by decide +kernel
theorem dX2_writeState_129 : decode cX2_writeState 129 = .ok (.goto (-46), 3) := by decide +kernel
theorem dX2_writeState_132 : decode cX2_writeState 132 = .ok (.return_, 1) := by decide +kernel
def wX2_writeState_125 (post : Unit → KS → Prop) (bk83 : Nat → Int32 → KS → Prop) (l0 : Nat) (l2 : Int32) (t0 : Int32) (t1 : Int32) (K : KS) : Prop := (vp_in t1 24) ∧ (bk83 l0 (l2 + 1) (k3 K 10 1 t1.toNatClampNeg t0))
set_option maxHeartbeats 4000000 in
set_option maxRecDepth 100000 in
theorem bX2_writeState_125 {p : Program} {l : Launch} {e : Env} {s : State} {m : MethodId} {args : Array Value} {below : List Frame} {meth : Method} {c : Code} {D : va_G} {cI : Nat → ClassId} {e0 : Nat} {A : Nat → Prop} {ad : Nat → Nat → Nat} {M : KS} {ap : Int64} {o : Int64} {od : UInt64} {mc ms : Nat} {post : Unit → KS → Prop} {bk83 : Nat → Int32 → KS → Prop} (S : CallFix p m c cX2_writeState 4 s args WU RX2) (hg : GI D cI e0 A s s.heap) (hr : meth.sig.returnType = none) (hlk : meth.locks = false) (hout : ∀ x ∈ c.exceptionTable.toList, False) (hbk83 : ∀ {H : Heap} {locs : List Loc} {ls : Array Slot} {l0 : Nat} {l2 : Int32} {K : KS}, va_S A s.heap H locs → HT D cI e0 A ad K M ap o od H → lv_has ls 4 [(0, .ref (ad 6 l0)), (1, .ref (ad 10 1)), (2, .int l2)] → bk83 l0 l2 K → W p l e ({ frames := 1, cells := mc, slots := ms, locals := 40 } : Room) s m args below meth c H locs 0 0 (MQQ below (qK D cI e0 A ad M ap o od rV post) xN args s mc ms A) (F0 m 83 ls [])) {H : Heap} {locs : List Loc} {ls : Array Slot} {l0 : Nat} {l2 : Int32} {t0 : Int32} {t1 : Int32} {K : KS} (hS : va_S A s.heap H locs) (hw : HT D cI e0 A ad K M ap o od H) (hl : lv_has ls 4 [(0, .ref (ad 6 l0)), (1, .ref (ad 10 1)), (2, .int l2)]) (h : wX2_writeState_125 post bk83 l0 l2 t0 t1 K) : W p l e ({ frames := 1, cells := mc, slots := ms, locals := 40 } : Room) s m args below meth c H locs 0 0 (MQQ below (qK D cI e0 A ad M ap o od rV post) xN args s mc ms A) (F0 m 125 ls [.int t0, .int t1, .ref (ad 10 1)]) := by
  unfold wX2_writeState_125 at h
  obtain ⟨g15, h⟩ := h
  refine s10 S hg hS hw (Nat.le_of_ble_eq_true rfl) g15 dX2_writeState_125 (fun H locs hw hS => ?_)
  refine lv_iinc (v := l2 + 1) (lv' := [(2, .int (l2 + 1)), (0, .ref (ad 6 l0)), (1, .ref (ad 10 1))]) S.1 S.2.1 dX2_writeState_126 hl (k := 2) rfl rfl (by decide) rfl (fun ls hl => ?_)
  refine lv_goto (tgt := 83) S.1 S.2.1 dX2_writeState_129 (by decide) ?_
  have hl := lv_sub hl (l' := [(0, .ref (ad 6 l0)), (1, .ref (ad 10 1)), (2, .int (l2 + 1))]) [1, 2, 0] rfl
  exact hbk83 hS hw hl h
def wX2_writeState_124 (post : Unit → KS → Prop) (bk83 : Nat → Int32 → KS → Prop) (l0 : Nat) (l2 : Int32) (t0 : Int32) (K : KS) : Prop := wX2_writeState_125 post bk83 l0 l2 (-1) t0 K
set_option maxHeartbeats 4000000 in
set_option maxRecDepth 100000 in
theorem bX2_writeState_124 {p : Program} {l : Launch} {e : Env} {s : State} {m : MethodId} {args : Array Value} {below : List Frame} {meth : Method} {c : Code} {D : va_G} {cI : Nat → ClassId} {e0 : Nat} {A : Nat → Prop} {ad : Nat → Nat → Nat} {M : KS} {ap : Int64} {o : Int64} {od : UInt64} {mc ms : Nat} {post : Unit → KS → Prop} {bk83 : Nat → Int32 → KS → Prop} (S : CallFix p m c cX2_writeState 4 s args WU RX2) (hg : GI D cI e0 A s s.heap) (hr : meth.sig.returnType = none) (hlk : meth.locks = false) (hout : ∀ x ∈ c.exceptionTable.toList, False) (hbk83 : ∀ {H : Heap} {locs : List Loc} {ls : Array Slot} {l0 : Nat} {l2 : Int32} {K : KS}, va_S A s.heap H locs → HT D cI e0 A ad K M ap o od H → lv_has ls 4 [(0, .ref (ad 6 l0)), (1, .ref (ad 10 1)), (2, .int l2)] → bk83 l0 l2 K → W p l e ({ frames := 1, cells := mc, slots := ms, locals := 40 } : Room) s m args below meth c H locs 0 0 (MQQ below (qK D cI e0 A ad M ap o od rV post) xN args s mc ms A) (F0 m 83 ls [])) {H : Heap} {locs : List Loc} {ls : Array Slot} {l0 : Nat} {l2 : Int32} {t0 : Int32} {K : KS} (hS : va_S A s.heap H locs) (hw : HT D cI e0 A ad K M ap o od H) (hl : lv_has ls 4 [(0, .ref (ad 6 l0)), (1, .ref (ad 10 1)), (2, .int l2)]) (h : wX2_writeState_124 post bk83 l0 l2 t0 K) : W p l e ({ frames := 1, cells := mc, slots := ms, locals := 40 } : Room) s m args below meth c H locs 0 0 (MQQ below (qK D cI e0 A ad M ap o od rV post) xN args s mc ms A) (F0 m 124 ls [.int t0, .ref (ad 10 1)]) := by
  unfold wX2_writeState_124 at h
  refine lv_iconst (v := (-1)) S.1 S.2.1 dX2_writeState_124 (by decide) ?_
  have hl := lv_sub hl (l' := [(0, .ref (ad 6 l0)), (1, .ref (ad 10 1)), (2, .int l2)]) [0, 1, 2] rfl
  exact bX2_writeState_125 S hg hr hlk hout hbk83 hS hw hl h
def wX2_writeState_83 (post : Unit → KS → Prop) : Nat → Nat → Int32 → KS → Prop
  | 0 => fun _ _ _ => False
  | n + 1 => fun l0 l2 K => ((3 ≤ l2 → (post () K)) ∧ (¬ 3 ≤ l2 → ((l0 < nD K) ∧ ((((((K 6 7 l0) - 1) - l2) < 0 → (wX2_writeState_124 post (wX2_writeState_83 post n) l0 l2 (21 + l2) K)) ∧ (¬ (((K 6 7 l0) - 1) - l2) < 0 → ((((nI 8) ≤ (((K 6 7 l0) - 1) - l2) → (wX2_writeState_124 post (wX2_writeState_83 post n) l0 l2 (21 + l2) K)) ∧ (¬ (nI 8) ≤ (((K 6 7 l0) - 1) - l2) → ((vp_in (((K 6 7 l0) - 1) - l2) 8) ∧ (wX2_writeState_125 post (wX2_writeState_83 post n) l0 l2 (K 17 l0 ((((K 6 7 l0) - 1) - l2).toNatClampNeg)) (21 + l2) K)))))))))))
set_option maxHeartbeats 4000000 in
set_option maxRecDepth 100000 in
theorem bX2_writeState_83 {p : Program} {l : Launch} {e : Env} {s : State} {m : MethodId} {args : Array Value} {below : List Frame} {meth : Method} {c : Code} {D : va_G} {cI : Nat → ClassId} {e0 : Nat} {A : Nat → Prop} {ad : Nat → Nat → Nat} {M : KS} {ap : Int64} {o : Int64} {od : UInt64} {mc ms : Nat} {post : Unit → KS → Prop} (S : CallFix p m c cX2_writeState 4 s args WU RX2) (hg : GI D cI e0 A s s.heap) (hr : meth.sig.returnType = none) (hlk : meth.locks = false) (hout : ∀ x ∈ c.exceptionTable.toList, False) : ∀ n : Nat, ∀ {H : Heap} {locs : List Loc} {ls : Array Slot} {l0 : Nat} {l2 : Int32} {K : KS}, va_S A s.heap H locs → HT D cI e0 A ad K M ap o od H → lv_has ls 4 [(0, .ref (ad 6 l0)), (1, .ref (ad 10 1)), (2, .int l2)] → wX2_writeState_83 post n l0 l2 K → W p l e ({ frames := 1, cells := mc, slots := ms, locals := 40 } : Room) s m args below meth c H locs 0 0 (MQQ below (qK D cI e0 A ad M ap o od rV post) xN args s mc ms A) (F0 m 83 ls []) := by
  intro n
  induction n with
  | zero => intros; exact False.elim (by assumption)
  | succ n ih =>
    intro H locs ls l0 l2 K hS hw hl h
    unfold wX2_writeState_83 at h
    refine lv_iload_n S.1 S.2.1 dX2_writeState_83 rfl (lv_at hl 2 rfl) ?_
    refine lv_iconst (v := 3) S.1 S.2.1 dX2_writeState_84 (by decide) ?_
    refine lv_icmp_ge (tgt := 132) S.1 S.2.1 dX2_writeState_85 (by decide) (fun c12 => ?_) (fun c12 => ?_)
    · have h := h.1 c12
      exact r_vret (y := yX2_writeState) S hr hlk hS (by omega) (by omega) dX2_writeState_132 ⟨(), _, rfl, h, hw⟩
    · have h := h.2 c12
      refine lv_aload_n S.1 S.2.1 dX2_writeState_88 rfl (lv_at hl 0 rfl) ?_
      obtain ⟨g13, h⟩ := h
      refine g6_7 S hg hw g13 u585 dX2_writeState_89 ?_
      refine lv_iconst (v := 1) S.1 S.2.1 dX2_writeState_92 (by decide) ?_
      refine lv_isub S.1 S.2.1 dX2_writeState_93 ?_
      refine lv_iload_n S.1 S.2.1 dX2_writeState_94 rfl (lv_at hl 2 rfl) ?_
      refine lv_isub S.1 S.2.1 dX2_writeState_95 ?_
      refine lv_istore_n (lv' := [(3, .int (((K 6 7 l0) - 1) - l2)), (0, .ref (ad 6 l0)), (1, .ref (ad 10 1)), (2, .int l2)]) S.1 S.2.1 dX2_writeState_96 rfl hl (by decide) rfl (fun ls hl => ?_)
      refine lv_aload_n S.1 S.2.1 dX2_writeState_97 rfl (lv_at hl 2 rfl) ?_
      refine lv_bipush (v := 21) S.1 S.2.1 dX2_writeState_98 (by decide) ?_
      refine lv_iload_n S.1 S.2.1 dX2_writeState_100 rfl (lv_at hl 3 rfl) ?_
      refine lv_iadd S.1 S.2.1 dX2_writeState_101 ?_
      refine lv_iload_n S.1 S.2.1 dX2_writeState_102 rfl (lv_at hl 0 rfl) ?_
      refine lv_if_lt (tgt := 124) S.1 S.2.1 dX2_writeState_103 (by decide) (fun c14 => ?_) (fun c14 => ?_)
      · have h := h.1 c14
        have hl := lv_sub hl (l' := [(0, .ref (ad 6 l0)), (1, .ref (ad 10 1)), (2, .int l2)]) [1, 2, 3] rfl
        exact bX2_writeState_124 S hg hr hlk hout ih hS hw hl h
      · have h := h.2 c14
        refine lv_iload_n S.1 S.2.1 dX2_writeState_106 rfl (lv_at hl 0 rfl) ?_
        refine lv_aload_n S.1 S.2.1 dX2_writeState_107 rfl (lv_at hl 1 rfl) ?_
        refine g6_6 S hg hw g13 u584 dX2_writeState_108 ?_
        refine n17 S hg hw g13 dX2_writeState_111 ?_
        refine lv_icmp_ge (tgt := 124) S.1 S.2.1 dX2_writeState_112 (by decide) (fun c16 => ?_) (fun c16 => ?_)
        · have h := h.1 c16
          have hl := lv_sub hl (l' := [(0, .ref (ad 6 l0)), (1, .ref (ad 10 1)), (2, .int l2)]) [1, 2, 3] rfl
          exact bX2_writeState_124 S hg hr hlk hout ih hS hw hl h
        · have h := h.2 c16
          refine lv_aload_n S.1 S.2.1 dX2_writeState_115 rfl (lv_at hl 1 rfl) ?_
          refine g6_6 S hg hw g13 u584 dX2_writeState_116 ?_
          refine lv_iload_n S.1 S.2.1 dX2_writeState_119 rfl (lv_at hl 0 rfl) ?_
          obtain ⟨g17, h⟩ := h
          refine a17 S hg hw g13 g17 dX2_writeState_120 ?_
          refine lv_goto (tgt := 125) S.1 S.2.1 dX2_writeState_121 (by decide) ?_
          have hl := lv_sub hl (l' := [(0, .ref (ad 6 l0)), (1, .ref (ad 10 1)), (2, .int l2)]) [1, 2, 3] rfl
          exact bX2_writeState_125 S hg hr hlk hout ih hS hw hl h
def wpX2_writeState (post : Unit → KS → Prop) (K : KS) (q0 : Nat) : Prop := ((24 ≤ (nI 24) → ((q0 < nD K) ∧ ((vp_in 0 24) ∧ ((vp_in 1 24) ∧ ((vp_in 2 24) ∧ ((vp_in 3 24) ∧ ((2 * q0 < 2 * nD (k3 (k3 (k3 (k3 K 10 1 ((0 : Int32).toNatClampNeg) (K 7 1 (2 * q0))) 10 1 ((1 : Int32).toNatClampNeg) ((k3 K 10 1 ((0 : Int32).toNatClampNeg) (K 7 1 (2 * q0))) 7 1 (2 * q0 + 1))) 10 1 ((2 : Int32).toNatClampNeg) ((k3 (k3 K 10 1 ((0 : Int32).toNatClampNeg) (K 7 1 (2 * q0))) 10 1 ((1 : Int32).toNatClampNeg) ((k3 K 10 1 ((0 : Int32).toNatClampNeg) (K 7 1 (2 * q0))) 7 1 (2 * q0 + 1))) 6 4 q0)) 10 1 ((3 : Int32).toNatClampNeg) ((k3 (k3 (k3 K 10 1 ((0 : Int32).toNatClampNeg) (K 7 1 (2 * q0))) 10 1 ((1 : Int32).toNatClampNeg) ((k3 K 10 1 ((0 : Int32).toNatClampNeg) (K 7 1 (2 * q0))) 7 1 (2 * q0 + 1))) 10 1 ((2 : Int32).toNatClampNeg) ((k3 (k3 K 10 1 ((0 : Int32).toNatClampNeg) (K 7 1 (2 * q0))) 10 1 ((1 : Int32).toNatClampNeg) ((k3 K 10 1 ((0 : Int32).toNatClampNeg) (K 7 1 (2 * q0))) 7 1 (2 * q0 + 1))) 6 4 q0)) 6 5 q0))) ∧ (okCpy 0 4 8 8 24) ∧ ((2 * q0 + 1 < 2 * nD (kr (k3 (k3 (k3 (k3 K 10 1 ((0 : Int32).toNatClampNeg) (K 7 1 (2 * q0))) 10 1 ((1 : Int32).toNatClampNeg) ((k3 K 10 1 ((0 : Int32).toNatClampNeg) (K 7 1 (2 * q0))) 7 1 (2 * q0 + 1))) 10 1 ((2 : Int32).toNatClampNeg) ((k3 (k3 K 10 1 ((0 : Int32).toNatClampNeg) (K 7 1 (2 * q0))) 10 1 ((1 : Int32).toNatClampNeg) ((k3 K 10 1 ((0 : Int32).toNatClampNeg) (K 7 1 (2 * q0))) 7 1 (2 * q0 + 1))) 6 4 q0)) 10 1 ((3 : Int32).toNatClampNeg) ((k3 (k3 (k3 K 10 1 ((0 : Int32).toNatClampNeg) (K 7 1 (2 * q0))) 10 1 ((1 : Int32).toNatClampNeg) ((k3 K 10 1 ((0 : Int32).toNatClampNeg) (K 7 1 (2 * q0))) 7 1 (2 * q0 + 1))) 10 1 ((2 : Int32).toNatClampNeg) ((k3 (k3 K 10 1 ((0 : Int32).toNatClampNeg) (K 7 1 (2 * q0))) 10 1 ((1 : Int32).toNatClampNeg) ((k3 K 10 1 ((0 : Int32).toNatClampNeg) (K 7 1 (2 * q0))) 7 1 (2 * q0 + 1))) 6 4 q0)) 6 5 q0)) 10 1 (va_cpy ((k3 (k3 (k3 (k3 K 10 1 ((0 : Int32).toNatClampNeg) (K 7 1 (2 * q0))) 10 1 ((1 : Int32).toNatClampNeg) ((k3 K 10 1 ((0 : Int32).toNatClampNeg) (K 7 1 (2 * q0))) 7 1 (2 * q0 + 1))) 10 1 ((2 : Int32).toNatClampNeg) ((k3 (k3 K 10 1 ((0 : Int32).toNatClampNeg) (K 7 1 (2 * q0))) 10 1 ((1 : Int32).toNatClampNeg) ((k3 K 10 1 ((0 : Int32).toNatClampNeg) (K 7 1 (2 * q0))) 7 1 (2 * q0 + 1))) 6 4 q0)) 10 1 ((3 : Int32).toNatClampNeg) ((k3 (k3 (k3 K 10 1 ((0 : Int32).toNatClampNeg) (K 7 1 (2 * q0))) 10 1 ((1 : Int32).toNatClampNeg) ((k3 K 10 1 ((0 : Int32).toNatClampNeg) (K 7 1 (2 * q0))) 7 1 (2 * q0 + 1))) 10 1 ((2 : Int32).toNatClampNeg) ((k3 (k3 K 10 1 ((0 : Int32).toNatClampNeg) (K 7 1 (2 * q0))) 10 1 ((1 : Int32).toNatClampNeg) ((k3 K 10 1 ((0 : Int32).toNatClampNeg) (K 7 1 (2 * q0))) 7 1 (2 * q0 + 1))) 6 4 q0)) 6 5 q0)) 18 (2 * q0)) ((k3 (k3 (k3 (k3 K 10 1 ((0 : Int32).toNatClampNeg) (K 7 1 (2 * q0))) 10 1 ((1 : Int32).toNatClampNeg) ((k3 K 10 1 ((0 : Int32).toNatClampNeg) (K 7 1 (2 * q0))) 7 1 (2 * q0 + 1))) 10 1 ((2 : Int32).toNatClampNeg) ((k3 (k3 K 10 1 ((0 : Int32).toNatClampNeg) (K 7 1 (2 * q0))) 10 1 ((1 : Int32).toNatClampNeg) ((k3 K 10 1 ((0 : Int32).toNatClampNeg) (K 7 1 (2 * q0))) 7 1 (2 * q0 + 1))) 6 4 q0)) 10 1 ((3 : Int32).toNatClampNeg) ((k3 (k3 (k3 K 10 1 ((0 : Int32).toNatClampNeg) (K 7 1 (2 * q0))) 10 1 ((1 : Int32).toNatClampNeg) ((k3 K 10 1 ((0 : Int32).toNatClampNeg) (K 7 1 (2 * q0))) 7 1 (2 * q0 + 1))) 10 1 ((2 : Int32).toNatClampNeg) ((k3 (k3 K 10 1 ((0 : Int32).toNatClampNeg) (K 7 1 (2 * q0))) 10 1 ((1 : Int32).toNatClampNeg) ((k3 K 10 1 ((0 : Int32).toNatClampNeg) (K 7 1 (2 * q0))) 7 1 (2 * q0 + 1))) 6 4 q0)) 6 5 q0)) 10 1) ((0 : Int32).toNatClampNeg) ((4 : Int32).toNatClampNeg) ((8 : Int32).toNatClampNeg)))) ∧ (okCpy 0 12 8 8 24) ∧ ((vp_in 20 24) ∧ (∃ n1 : Nat, wX2_writeState_83 post n1 q0 0 (k3 (kr (kr (k3 (k3 (k3 (k3 K 10 1 ((0 : Int32).toNatClampNeg) (K 7 1 (2 * q0))) 10 1 ((1 : Int32).toNatClampNeg) ((k3 K 10 1 ((0 : Int32).toNatClampNeg) (K 7 1 (2 * q0))) 7 1 (2 * q0 + 1))) 10 1 ((2 : Int32).toNatClampNeg) ((k3 (k3 K 10 1 ((0 : Int32).toNatClampNeg) (K 7 1 (2 * q0))) 10 1 ((1 : Int32).toNatClampNeg) ((k3 K 10 1 ((0 : Int32).toNatClampNeg) (K 7 1 (2 * q0))) 7 1 (2 * q0 + 1))) 6 4 q0)) 10 1 ((3 : Int32).toNatClampNeg) ((k3 (k3 (k3 K 10 1 ((0 : Int32).toNatClampNeg) (K 7 1 (2 * q0))) 10 1 ((1 : Int32).toNatClampNeg) ((k3 K 10 1 ((0 : Int32).toNatClampNeg) (K 7 1 (2 * q0))) 7 1 (2 * q0 + 1))) 10 1 ((2 : Int32).toNatClampNeg) ((k3 (k3 K 10 1 ((0 : Int32).toNatClampNeg) (K 7 1 (2 * q0))) 10 1 ((1 : Int32).toNatClampNeg) ((k3 K 10 1 ((0 : Int32).toNatClampNeg) (K 7 1 (2 * q0))) 7 1 (2 * q0 + 1))) 6 4 q0)) 6 5 q0)) 10 1 (va_cpy ((k3 (k3 (k3 (k3 K 10 1 ((0 : Int32).toNatClampNeg) (K 7 1 (2 * q0))) 10 1 ((1 : Int32).toNatClampNeg) ((k3 K 10 1 ((0 : Int32).toNatClampNeg) (K 7 1 (2 * q0))) 7 1 (2 * q0 + 1))) 10 1 ((2 : Int32).toNatClampNeg) ((k3 (k3 K 10 1 ((0 : Int32).toNatClampNeg) (K 7 1 (2 * q0))) 10 1 ((1 : Int32).toNatClampNeg) ((k3 K 10 1 ((0 : Int32).toNatClampNeg) (K 7 1 (2 * q0))) 7 1 (2 * q0 + 1))) 6 4 q0)) 10 1 ((3 : Int32).toNatClampNeg) ((k3 (k3 (k3 K 10 1 ((0 : Int32).toNatClampNeg) (K 7 1 (2 * q0))) 10 1 ((1 : Int32).toNatClampNeg) ((k3 K 10 1 ((0 : Int32).toNatClampNeg) (K 7 1 (2 * q0))) 7 1 (2 * q0 + 1))) 10 1 ((2 : Int32).toNatClampNeg) ((k3 (k3 K 10 1 ((0 : Int32).toNatClampNeg) (K 7 1 (2 * q0))) 10 1 ((1 : Int32).toNatClampNeg) ((k3 K 10 1 ((0 : Int32).toNatClampNeg) (K 7 1 (2 * q0))) 7 1 (2 * q0 + 1))) 6 4 q0)) 6 5 q0)) 18 (2 * q0)) ((k3 (k3 (k3 (k3 K 10 1 ((0 : Int32).toNatClampNeg) (K 7 1 (2 * q0))) 10 1 ((1 : Int32).toNatClampNeg) ((k3 K 10 1 ((0 : Int32).toNatClampNeg) (K 7 1 (2 * q0))) 7 1 (2 * q0 + 1))) 10 1 ((2 : Int32).toNatClampNeg) ((k3 (k3 K 10 1 ((0 : Int32).toNatClampNeg) (K 7 1 (2 * q0))) 10 1 ((1 : Int32).toNatClampNeg) ((k3 K 10 1 ((0 : Int32).toNatClampNeg) (K 7 1 (2 * q0))) 7 1 (2 * q0 + 1))) 6 4 q0)) 10 1 ((3 : Int32).toNatClampNeg) ((k3 (k3 (k3 K 10 1 ((0 : Int32).toNatClampNeg) (K 7 1 (2 * q0))) 10 1 ((1 : Int32).toNatClampNeg) ((k3 K 10 1 ((0 : Int32).toNatClampNeg) (K 7 1 (2 * q0))) 7 1 (2 * q0 + 1))) 10 1 ((2 : Int32).toNatClampNeg) ((k3 (k3 K 10 1 ((0 : Int32).toNatClampNeg) (K 7 1 (2 * q0))) 10 1 ((1 : Int32).toNatClampNeg) ((k3 K 10 1 ((0 : Int32).toNatClampNeg) (K 7 1 (2 * q0))) 7 1 (2 * q0 + 1))) 6 4 q0)) 6 5 q0)) 10 1) ((0 : Int32).toNatClampNeg) ((4 : Int32).toNatClampNeg) ((8 : Int32).toNatClampNeg))) 10 1 (va_cpy ((kr (k3 (k3 (k3 (k3 K 10 1 ((0 : Int32).toNatClampNeg) (K 7 1 (2 * q0))) 10 1 ((1 : Int32).toNatClampNeg) ((k3 K 10 1 ((0 : Int32).toNatClampNeg) (K 7 1 (2 * q0))) 7 1 (2 * q0 + 1))) 10 1 ((2 : Int32).toNatClampNeg) ((k3 (k3 K 10 1 ((0 : Int32).toNatClampNeg) (K 7 1 (2 * q0))) 10 1 ((1 : Int32).toNatClampNeg) ((k3 K 10 1 ((0 : Int32).toNatClampNeg) (K 7 1 (2 * q0))) 7 1 (2 * q0 + 1))) 6 4 q0)) 10 1 ((3 : Int32).toNatClampNeg) ((k3 (k3 (k3 K 10 1 ((0 : Int32).toNatClampNeg) (K 7 1 (2 * q0))) 10 1 ((1 : Int32).toNatClampNeg) ((k3 K 10 1 ((0 : Int32).toNatClampNeg) (K 7 1 (2 * q0))) 7 1 (2 * q0 + 1))) 10 1 ((2 : Int32).toNatClampNeg) ((k3 (k3 K 10 1 ((0 : Int32).toNatClampNeg) (K 7 1 (2 * q0))) 10 1 ((1 : Int32).toNatClampNeg) ((k3 K 10 1 ((0 : Int32).toNatClampNeg) (K 7 1 (2 * q0))) 7 1 (2 * q0 + 1))) 6 4 q0)) 6 5 q0)) 10 1 (va_cpy ((k3 (k3 (k3 (k3 K 10 1 ((0 : Int32).toNatClampNeg) (K 7 1 (2 * q0))) 10 1 ((1 : Int32).toNatClampNeg) ((k3 K 10 1 ((0 : Int32).toNatClampNeg) (K 7 1 (2 * q0))) 7 1 (2 * q0 + 1))) 10 1 ((2 : Int32).toNatClampNeg) ((k3 (k3 K 10 1 ((0 : Int32).toNatClampNeg) (K 7 1 (2 * q0))) 10 1 ((1 : Int32).toNatClampNeg) ((k3 K 10 1 ((0 : Int32).toNatClampNeg) (K 7 1 (2 * q0))) 7 1 (2 * q0 + 1))) 6 4 q0)) 10 1 ((3 : Int32).toNatClampNeg) ((k3 (k3 (k3 K 10 1 ((0 : Int32).toNatClampNeg) (K 7 1 (2 * q0))) 10 1 ((1 : Int32).toNatClampNeg) ((k3 K 10 1 ((0 : Int32).toNatClampNeg) (K 7 1 (2 * q0))) 7 1 (2 * q0 + 1))) 10 1 ((2 : Int32).toNatClampNeg) ((k3 (k3 K 10 1 ((0 : Int32).toNatClampNeg) (K 7 1 (2 * q0))) 10 1 ((1 : Int32).toNatClampNeg) ((k3 K 10 1 ((0 : Int32).toNatClampNeg) (K 7 1 (2 * q0))) 7 1 (2 * q0 + 1))) 6 4 q0)) 6 5 q0)) 18 (2 * q0)) ((k3 (k3 (k3 (k3 K 10 1 ((0 : Int32).toNatClampNeg) (K 7 1 (2 * q0))) 10 1 ((1 : Int32).toNatClampNeg) ((k3 K 10 1 ((0 : Int32).toNatClampNeg) (K 7 1 (2 * q0))) 7 1 (2 * q0 + 1))) 10 1 ((2 : Int32).toNatClampNeg) ((k3 (k3 K 10 1 ((0 : Int32).toNatClampNeg) (K 7 1 (2 * q0))) 10 1 ((1 : Int32).toNatClampNeg) ((k3 K 10 1 ((0 : Int32).toNatClampNeg) (K 7 1 (2 * q0))) 7 1 (2 * q0 + 1))) 6 4 q0)) 10 1 ((3 : Int32).toNatClampNeg) ((k3 (k3 (k3 K 10 1 ((0 : Int32).toNatClampNeg) (K 7 1 (2 * q0))) 10 1 ((1 : Int32).toNatClampNeg) ((k3 K 10 1 ((0 : Int32).toNatClampNeg) (K 7 1 (2 * q0))) 7 1 (2 * q0 + 1))) 10 1 ((2 : Int32).toNatClampNeg) ((k3 (k3 K 10 1 ((0 : Int32).toNatClampNeg) (K 7 1 (2 * q0))) 10 1 ((1 : Int32).toNatClampNeg) ((k3 K 10 1 ((0 : Int32).toNatClampNeg) (K 7 1 (2 * q0))) 7 1 (2 * q0 + 1))) 6 4 q0)) 6 5 q0)) 10 1) ((0 : Int32).toNatClampNeg) ((4 : Int32).toNatClampNeg) ((8 : Int32).toNatClampNeg))) 18 (2 * q0 + 1)) ((kr (k3 (k3 (k3 (k3 K 10 1 ((0 : Int32).toNatClampNeg) (K 7 1 (2 * q0))) 10 1 ((1 : Int32).toNatClampNeg) ((k3 K 10 1 ((0 : Int32).toNatClampNeg) (K 7 1 (2 * q0))) 7 1 (2 * q0 + 1))) 10 1 ((2 : Int32).toNatClampNeg) ((k3 (k3 K 10 1 ((0 : Int32).toNatClampNeg) (K 7 1 (2 * q0))) 10 1 ((1 : Int32).toNatClampNeg) ((k3 K 10 1 ((0 : Int32).toNatClampNeg) (K 7 1 (2 * q0))) 7 1 (2 * q0 + 1))) 6 4 q0)) 10 1 ((3 : Int32).toNatClampNeg) ((k3 (k3 (k3 K 10 1 ((0 : Int32).toNatClampNeg) (K 7 1 (2 * q0))) 10 1 ((1 : Int32).toNatClampNeg) ((k3 K 10 1 ((0 : Int32).toNatClampNeg) (K 7 1 (2 * q0))) 7 1 (2 * q0 + 1))) 10 1 ((2 : Int32).toNatClampNeg) ((k3 (k3 K 10 1 ((0 : Int32).toNatClampNeg) (K 7 1 (2 * q0))) 10 1 ((1 : Int32).toNatClampNeg) ((k3 K 10 1 ((0 : Int32).toNatClampNeg) (K 7 1 (2 * q0))) 7 1 (2 * q0 + 1))) 6 4 q0)) 6 5 q0)) 10 1 (va_cpy ((k3 (k3 (k3 (k3 K 10 1 ((0 : Int32).toNatClampNeg) (K 7 1 (2 * q0))) 10 1 ((1 : Int32).toNatClampNeg) ((k3 K 10 1 ((0 : Int32).toNatClampNeg) (K 7 1 (2 * q0))) 7 1 (2 * q0 + 1))) 10 1 ((2 : Int32).toNatClampNeg) ((k3 (k3 K 10 1 ((0 : Int32).toNatClampNeg) (K 7 1 (2 * q0))) 10 1 ((1 : Int32).toNatClampNeg) ((k3 K 10 1 ((0 : Int32).toNatClampNeg) (K 7 1 (2 * q0))) 7 1 (2 * q0 + 1))) 6 4 q0)) 10 1 ((3 : Int32).toNatClampNeg) ((k3 (k3 (k3 K 10 1 ((0 : Int32).toNatClampNeg) (K 7 1 (2 * q0))) 10 1 ((1 : Int32).toNatClampNeg) ((k3 K 10 1 ((0 : Int32).toNatClampNeg) (K 7 1 (2 * q0))) 7 1 (2 * q0 + 1))) 10 1 ((2 : Int32).toNatClampNeg) ((k3 (k3 K 10 1 ((0 : Int32).toNatClampNeg) (K 7 1 (2 * q0))) 10 1 ((1 : Int32).toNatClampNeg) ((k3 K 10 1 ((0 : Int32).toNatClampNeg) (K 7 1 (2 * q0))) 7 1 (2 * q0 + 1))) 6 4 q0)) 6 5 q0)) 18 (2 * q0)) ((k3 (k3 (k3 (k3 K 10 1 ((0 : Int32).toNatClampNeg) (K 7 1 (2 * q0))) 10 1 ((1 : Int32).toNatClampNeg) ((k3 K 10 1 ((0 : Int32).toNatClampNeg) (K 7 1 (2 * q0))) 7 1 (2 * q0 + 1))) 10 1 ((2 : Int32).toNatClampNeg) ((k3 (k3 K 10 1 ((0 : Int32).toNatClampNeg) (K 7 1 (2 * q0))) 10 1 ((1 : Int32).toNatClampNeg) ((k3 K 10 1 ((0 : Int32).toNatClampNeg) (K 7 1 (2 * q0))) 7 1 (2 * q0 + 1))) 6 4 q0)) 10 1 ((3 : Int32).toNatClampNeg) ((k3 (k3 (k3 K 10 1 ((0 : Int32).toNatClampNeg) (K 7 1 (2 * q0))) 10 1 ((1 : Int32).toNatClampNeg) ((k3 K 10 1 ((0 : Int32).toNatClampNeg) (K 7 1 (2 * q0))) 7 1 (2 * q0 + 1))) 10 1 ((2 : Int32).toNatClampNeg) ((k3 (k3 K 10 1 ((0 : Int32).toNatClampNeg) (K 7 1 (2 * q0))) 10 1 ((1 : Int32).toNatClampNeg) ((k3 K 10 1 ((0 : Int32).toNatClampNeg) (K 7 1 (2 * q0))) 7 1 (2 * q0 + 1))) 6 4 q0)) 6 5 q0)) 10 1) ((0 : Int32).toNatClampNeg) ((4 : Int32).toNatClampNeg) ((8 : Int32).toNatClampNeg))) 10 1) ((0 : Int32).toNatClampNeg) ((12 : Int32).toNatClampNeg) ((8 : Int32).toNatClampNeg))) 10 1 ((20 : Int32).toNatClampNeg) ((kr (kr (k3 (k3 (k3 (k3 K 10 1 ((0 : Int32).toNatClampNeg) (K 7 1 (2 * q0))) 10 1 ((1 : Int32).toNatClampNeg) ((k3 K 10 1 ((0 : Int32).toNatClampNeg) (K 7 1 (2 * q0))) 7 1 (2 * q0 + 1))) 10 1 ((2 : Int32).toNatClampNeg) ((k3 (k3 K 10 1 ((0 : Int32).toNatClampNeg) (K 7 1 (2 * q0))) 10 1 ((1 : Int32).toNatClampNeg) ((k3 K 10 1 ((0 : Int32).toNatClampNeg) (K 7 1 (2 * q0))) 7 1 (2 * q0 + 1))) 6 4 q0)) 10 1 ((3 : Int32).toNatClampNeg) ((k3 (k3 (k3 K 10 1 ((0 : Int32).toNatClampNeg) (K 7 1 (2 * q0))) 10 1 ((1 : Int32).toNatClampNeg) ((k3 K 10 1 ((0 : Int32).toNatClampNeg) (K 7 1 (2 * q0))) 7 1 (2 * q0 + 1))) 10 1 ((2 : Int32).toNatClampNeg) ((k3 (k3 K 10 1 ((0 : Int32).toNatClampNeg) (K 7 1 (2 * q0))) 10 1 ((1 : Int32).toNatClampNeg) ((k3 K 10 1 ((0 : Int32).toNatClampNeg) (K 7 1 (2 * q0))) 7 1 (2 * q0 + 1))) 6 4 q0)) 6 5 q0)) 10 1 (va_cpy ((k3 (k3 (k3 (k3 K 10 1 ((0 : Int32).toNatClampNeg) (K 7 1 (2 * q0))) 10 1 ((1 : Int32).toNatClampNeg) ((k3 K 10 1 ((0 : Int32).toNatClampNeg) (K 7 1 (2 * q0))) 7 1 (2 * q0 + 1))) 10 1 ((2 : Int32).toNatClampNeg) ((k3 (k3 K 10 1 ((0 : Int32).toNatClampNeg) (K 7 1 (2 * q0))) 10 1 ((1 : Int32).toNatClampNeg) ((k3 K 10 1 ((0 : Int32).toNatClampNeg) (K 7 1 (2 * q0))) 7 1 (2 * q0 + 1))) 6 4 q0)) 10 1 ((3 : Int32).toNatClampNeg) ((k3 (k3 (k3 K 10 1 ((0 : Int32).toNatClampNeg) (K 7 1 (2 * q0))) 10 1 ((1 : Int32).toNatClampNeg) ((k3 K 10 1 ((0 : Int32).toNatClampNeg) (K 7 1 (2 * q0))) 7 1 (2 * q0 + 1))) 10 1 ((2 : Int32).toNatClampNeg) ((k3 (k3 K 10 1 ((0 : Int32).toNatClampNeg) (K 7 1 (2 * q0))) 10 1 ((1 : Int32).toNatClampNeg) ((k3 K 10 1 ((0 : Int32).toNatClampNeg) (K 7 1 (2 * q0))) 7 1 (2 * q0 + 1))) 6 4 q0)) 6 5 q0)) 18 (2 * q0)) ((k3 (k3 (k3 (k3 K 10 1 ((0 : Int32).toNatClampNeg) (K 7 1 (2 * q0))) 10 1 ((1 : Int32).toNatClampNeg) ((k3 K 10 1 ((0 : Int32).toNatClampNeg) (K 7 1 (2 * q0))) 7 1 (2 * q0 + 1))) 10 1 ((2 : Int32).toNatClampNeg) ((k3 (k3 K 10 1 ((0 : Int32).toNatClampNeg) (K 7 1 (2 * q0))) 10 1 ((1 : Int32).toNatClampNeg) ((k3 K 10 1 ((0 : Int32).toNatClampNeg) (K 7 1 (2 * q0))) 7 1 (2 * q0 + 1))) 6 4 q0)) 10 1 ((3 : Int32).toNatClampNeg) ((k3 (k3 (k3 K 10 1 ((0 : Int32).toNatClampNeg) (K 7 1 (2 * q0))) 10 1 ((1 : Int32).toNatClampNeg) ((k3 K 10 1 ((0 : Int32).toNatClampNeg) (K 7 1 (2 * q0))) 7 1 (2 * q0 + 1))) 10 1 ((2 : Int32).toNatClampNeg) ((k3 (k3 K 10 1 ((0 : Int32).toNatClampNeg) (K 7 1 (2 * q0))) 10 1 ((1 : Int32).toNatClampNeg) ((k3 K 10 1 ((0 : Int32).toNatClampNeg) (K 7 1 (2 * q0))) 7 1 (2 * q0 + 1))) 6 4 q0)) 6 5 q0)) 10 1) ((0 : Int32).toNatClampNeg) ((4 : Int32).toNatClampNeg) ((8 : Int32).toNatClampNeg))) 10 1 (va_cpy ((kr (k3 (k3 (k3 (k3 K 10 1 ((0 : Int32).toNatClampNeg) (K 7 1 (2 * q0))) 10 1 ((1 : Int32).toNatClampNeg) ((k3 K 10 1 ((0 : Int32).toNatClampNeg) (K 7 1 (2 * q0))) 7 1 (2 * q0 + 1))) 10 1 ((2 : Int32).toNatClampNeg) ((k3 (k3 K 10 1 ((0 : Int32).toNatClampNeg) (K 7 1 (2 * q0))) 10 1 ((1 : Int32).toNatClampNeg) ((k3 K 10 1 ((0 : Int32).toNatClampNeg) (K 7 1 (2 * q0))) 7 1 (2 * q0 + 1))) 6 4 q0)) 10 1 ((3 : Int32).toNatClampNeg) ((k3 (k3 (k3 K 10 1 ((0 : Int32).toNatClampNeg) (K 7 1 (2 * q0))) 10 1 ((1 : Int32).toNatClampNeg) ((k3 K 10 1 ((0 : Int32).toNatClampNeg) (K 7 1 (2 * q0))) 7 1 (2 * q0 + 1))) 10 1 ((2 : Int32).toNatClampNeg) ((k3 (k3 K 10 1 ((0 : Int32).toNatClampNeg) (K 7 1 (2 * q0))) 10 1 ((1 : Int32).toNatClampNeg) ((k3 K 10 1 ((0 : Int32).toNatClampNeg) (K 7 1 (2 * q0))) 7 1 (2 * q0 + 1))) 6 4 q0)) 6 5 q0)) 10 1 (va_cpy ((k3 (k3 (k3 (k3 K 10 1 ((0 : Int32).toNatClampNeg) (K 7 1 (2 * q0))) 10 1 ((1 : Int32).toNatClampNeg) ((k3 K 10 1 ((0 : Int32).toNatClampNeg) (K 7 1 (2 * q0))) 7 1 (2 * q0 + 1))) 10 1 ((2 : Int32).toNatClampNeg) ((k3 (k3 K 10 1 ((0 : Int32).toNatClampNeg) (K 7 1 (2 * q0))) 10 1 ((1 : Int32).toNatClampNeg) ((k3 K 10 1 ((0 : Int32).toNatClampNeg) (K 7 1 (2 * q0))) 7 1 (2 * q0 + 1))) 6 4 q0)) 10 1 ((3 : Int32).toNatClampNeg) ((k3 (k3 (k3 K 10 1 ((0 : Int32).toNatClampNeg) (K 7 1 (2 * q0))) 10 1 ((1 : Int32).toNatClampNeg) ((k3 K 10 1 ((0 : Int32).toNatClampNeg) (K 7 1 (2 * q0))) 7 1 (2 * q0 + 1))) 10 1 ((2 : Int32).toNatClampNeg) ((k3 (k3 K 10 1 ((0 : Int32).toNatClampNeg) (K 7 1 (2 * q0))) 10 1 ((1 : Int32).toNatClampNeg) ((k3 K 10 1 ((0 : Int32).toNatClampNeg) (K 7 1 (2 * q0))) 7 1 (2 * q0 + 1))) 6 4 q0)) 6 5 q0)) 18 (2 * q0)) ((k3 (k3 (k3 (k3 K 10 1 ((0 : Int32).toNatClampNeg) (K 7 1 (2 * q0))) 10 1 ((1 : Int32).toNatClampNeg) ((k3 K 10 1 ((0 : Int32).toNatClampNeg) (K 7 1 (2 * q0))) 7 1 (2 * q0 + 1))) 10 1 ((2 : Int32).toNatClampNeg) ((k3 (k3 K 10 1 ((0 : Int32).toNatClampNeg) (K 7 1 (2 * q0))) 10 1 ((1 : Int32).toNatClampNeg) ((k3 K 10 1 ((0 : Int32).toNatClampNeg) (K 7 1 (2 * q0))) 7 1 (2 * q0 + 1))) 6 4 q0)) 10 1 ((3 : Int32).toNatClampNeg) ((k3 (k3 (k3 K 10 1 ((0 : Int32).toNatClampNeg) (K 7 1 (2 * q0))) 10 1 ((1 : Int32).toNatClampNeg) ((k3 K 10 1 ((0 : Int32).toNatClampNeg) (K 7 1 (2 * q0))) 7 1 (2 * q0 + 1))) 10 1 ((2 : Int32).toNatClampNeg) ((k3 (k3 K 10 1 ((0 : Int32).toNatClampNeg) (K 7 1 (2 * q0))) 10 1 ((1 : Int32).toNatClampNeg) ((k3 K 10 1 ((0 : Int32).toNatClampNeg) (K 7 1 (2 * q0))) 7 1 (2 * q0 + 1))) 6 4 q0)) 6 5 q0)) 10 1) ((0 : Int32).toNatClampNeg) ((4 : Int32).toNatClampNeg) ((8 : Int32).toNatClampNeg))) 18 (2 * q0 + 1)) ((kr (k3 (k3 (k3 (k3 K 10 1 ((0 : Int32).toNatClampNeg) (K 7 1 (2 * q0))) 10 1 ((1 : Int32).toNatClampNeg) ((k3 K 10 1 ((0 : Int32).toNatClampNeg) (K 7 1 (2 * q0))) 7 1 (2 * q0 + 1))) 10 1 ((2 : Int32).toNatClampNeg) ((k3 (k3 K 10 1 ((0 : Int32).toNatClampNeg) (K 7 1 (2 * q0))) 10 1 ((1 : Int32).toNatClampNeg) ((k3 K 10 1 ((0 : Int32).toNatClampNeg) (K 7 1 (2 * q0))) 7 1 (2 * q0 + 1))) 6 4 q0)) 10 1 ((3 : Int32).toNatClampNeg) ((k3 (k3 (k3 K 10 1 ((0 : Int32).toNatClampNeg) (K 7 1 (2 * q0))) 10 1 ((1 : Int32).toNatClampNeg) ((k3 K 10 1 ((0 : Int32).toNatClampNeg) (K 7 1 (2 * q0))) 7 1 (2 * q0 + 1))) 10 1 ((2 : Int32).toNatClampNeg) ((k3 (k3 K 10 1 ((0 : Int32).toNatClampNeg) (K 7 1 (2 * q0))) 10 1 ((1 : Int32).toNatClampNeg) ((k3 K 10 1 ((0 : Int32).toNatClampNeg) (K 7 1 (2 * q0))) 7 1 (2 * q0 + 1))) 6 4 q0)) 6 5 q0)) 10 1 (va_cpy ((k3 (k3 (k3 (k3 K 10 1 ((0 : Int32).toNatClampNeg) (K 7 1 (2 * q0))) 10 1 ((1 : Int32).toNatClampNeg) ((k3 K 10 1 ((0 : Int32).toNatClampNeg) (K 7 1 (2 * q0))) 7 1 (2 * q0 + 1))) 10 1 ((2 : Int32).toNatClampNeg) ((k3 (k3 K 10 1 ((0 : Int32).toNatClampNeg) (K 7 1 (2 * q0))) 10 1 ((1 : Int32).toNatClampNeg) ((k3 K 10 1 ((0 : Int32).toNatClampNeg) (K 7 1 (2 * q0))) 7 1 (2 * q0 + 1))) 6 4 q0)) 10 1 ((3 : Int32).toNatClampNeg) ((k3 (k3 (k3 K 10 1 ((0 : Int32).toNatClampNeg) (K 7 1 (2 * q0))) 10 1 ((1 : Int32).toNatClampNeg) ((k3 K 10 1 ((0 : Int32).toNatClampNeg) (K 7 1 (2 * q0))) 7 1 (2 * q0 + 1))) 10 1 ((2 : Int32).toNatClampNeg) ((k3 (k3 K 10 1 ((0 : Int32).toNatClampNeg) (K 7 1 (2 * q0))) 10 1 ((1 : Int32).toNatClampNeg) ((k3 K 10 1 ((0 : Int32).toNatClampNeg) (K 7 1 (2 * q0))) 7 1 (2 * q0 + 1))) 6 4 q0)) 6 5 q0)) 18 (2 * q0)) ((k3 (k3 (k3 (k3 K 10 1 ((0 : Int32).toNatClampNeg) (K 7 1 (2 * q0))) 10 1 ((1 : Int32).toNatClampNeg) ((k3 K 10 1 ((0 : Int32).toNatClampNeg) (K 7 1 (2 * q0))) 7 1 (2 * q0 + 1))) 10 1 ((2 : Int32).toNatClampNeg) ((k3 (k3 K 10 1 ((0 : Int32).toNatClampNeg) (K 7 1 (2 * q0))) 10 1 ((1 : Int32).toNatClampNeg) ((k3 K 10 1 ((0 : Int32).toNatClampNeg) (K 7 1 (2 * q0))) 7 1 (2 * q0 + 1))) 6 4 q0)) 10 1 ((3 : Int32).toNatClampNeg) ((k3 (k3 (k3 K 10 1 ((0 : Int32).toNatClampNeg) (K 7 1 (2 * q0))) 10 1 ((1 : Int32).toNatClampNeg) ((k3 K 10 1 ((0 : Int32).toNatClampNeg) (K 7 1 (2 * q0))) 7 1 (2 * q0 + 1))) 10 1 ((2 : Int32).toNatClampNeg) ((k3 (k3 K 10 1 ((0 : Int32).toNatClampNeg) (K 7 1 (2 * q0))) 10 1 ((1 : Int32).toNatClampNeg) ((k3 K 10 1 ((0 : Int32).toNatClampNeg) (K 7 1 (2 * q0))) 7 1 (2 * q0 + 1))) 6 4 q0)) 6 5 q0)) 10 1) ((0 : Int32).toNatClampNeg) ((4 : Int32).toNatClampNeg) ((8 : Int32).toNatClampNeg))) 10 1) ((0 : Int32).toNatClampNeg) ((12 : Int32).toNatClampNeg) ((8 : Int32).toNatClampNeg))) 6 7 q0)))))))))))) ∧ (¬ 24 ≤ (nI 24) → (post () K)))
theorem hdX2_writeState : yX2_writeState.cls ≠ "java/lang/invoke/MethodHandle" ∧ yX2_writeState.cls ≠ "java/lang/invoke/VarHandle" ∧ (parseMethodDescriptor yX2_writeState.desc).map (fun d => d.parameters.length) = some 1 := by decide +kernel
set_option maxHeartbeats 4000000 in
set_option maxRecDepth 100000 in
theorem mtX2_writeState {l : Launch} {D : va_G} {cI : Nat → ClassId} {e0 : Nat} {A : Nat → Prop} {ad : Nat → Nat → Nat} {K M : KS} {ap o : Int64} {od : UInt64} {mc ms : Nat} {q0 : Nat} {post : Unit → KS → Prop} (h : wpX2_writeState post K q0) : CM l D cI e0 A yX2_writeState cX2_writeState 4 none 1 40 mc ms [.ref (ad 6 q0), .ref (ad 10 1)] (HT D cI e0 A ad K M ap o od) (qK D cI e0 A ad M ap o od rV post) xN := by
  refine CM.of (by decide) (Nat.le_of_ble_eq_true rfl) (fun p e s m below meth c ls FX hw hS hl => ?_)
  obtain ⟨S, hg, hr, hlk, hnm, hout⟩ := FX
  have hl : lv_has ls 4 [(0, .ref (ad 6 q0)), (1, .ref (ad 10 1))] := hl
  unfold wpX2_writeState at h
  refine lv_aload_n S.1 S.2.1 dX2_writeState_0 rfl (lv_at hl 1 rfl) ?_
  refine n10 S hg hw (Nat.le_of_ble_eq_true rfl) dX2_writeState_1 ?_
  refine lv_bipush (v := 24) S.1 S.2.1 dX2_writeState_2 (by decide) ?_
  refine lv_icmp_ge (tgt := 8) S.1 S.2.1 dX2_writeState_4 (by decide) (fun c1 => ?_) (fun c1 => ?_)
  · have h := h.1 c1
    refine lv_aload_n S.1 S.2.1 dX2_writeState_8 rfl (lv_at hl 1 rfl) ?_
    refine lv_iconst (v := 0) S.1 S.2.1 dX2_writeState_9 (by decide) ?_
    refine lv_aload_n S.1 S.2.1 dX2_writeState_10 rfl (lv_at hl 0 rfl) ?_
    obtain ⟨g2, h⟩ := h
    refine g6_0 S hg hw g2 u573 dX2_writeState_11 ?_
    refine g7_1 S hg hw (lt2 g2) u557 dX2_writeState_14 ?_
    obtain ⟨g3, h⟩ := h
    refine s10 S hg hS hw (Nat.le_of_ble_eq_true rfl) g3 dX2_writeState_17 (fun H locs hw hS => ?_)
    refine lv_aload_n S.1 S.2.1 dX2_writeState_18 rfl (lv_at hl 1 rfl) ?_
    refine lv_iconst (v := 1) S.1 S.2.1 dX2_writeState_19 (by decide) ?_
    refine lv_aload_n S.1 S.2.1 dX2_writeState_20 rfl (lv_at hl 0 rfl) ?_
    refine g6_1 S hg hw g2 u575 dX2_writeState_21 ?_
    refine g7_1 S hg hw (lt2s g2) u557 dX2_writeState_24 ?_
    obtain ⟨g4, h⟩ := h
    refine s10 S hg hS hw (Nat.le_of_ble_eq_true rfl) g4 dX2_writeState_27 (fun H locs hw hS => ?_)
    refine lv_aload_n S.1 S.2.1 dX2_writeState_28 rfl (lv_at hl 1 rfl) ?_
    refine lv_iconst (v := 2) S.1 S.2.1 dX2_writeState_29 (by decide) ?_
    refine lv_aload_n S.1 S.2.1 dX2_writeState_30 rfl (lv_at hl 0 rfl) ?_
    refine g6_4 S hg hw g2 u581 dX2_writeState_31 ?_
    obtain ⟨g5, h⟩ := h
    refine s10 S hg hS hw (Nat.le_of_ble_eq_true rfl) g5 dX2_writeState_34 (fun H locs hw hS => ?_)
    refine lv_aload_n S.1 S.2.1 dX2_writeState_35 rfl (lv_at hl 1 rfl) ?_
    refine lv_iconst (v := 3) S.1 S.2.1 dX2_writeState_36 (by decide) ?_
    refine lv_aload_n S.1 S.2.1 dX2_writeState_37 rfl (lv_at hl 0 rfl) ?_
    refine g6_5 S hg hw g2 u583 dX2_writeState_38 ?_
    obtain ⟨g6, h⟩ := h
    refine s10 S hg hS hw (Nat.le_of_ble_eq_true rfl) g6 dX2_writeState_41 (fun H locs hw hS => ?_)
    refine lv_aload_n S.1 S.2.1 dX2_writeState_42 rfl (lv_at hl 0 rfl) ?_
    refine g6_0 S hg hw g2 u573 dX2_writeState_43 ?_
    refine g7_3 S hg hw (lt2 g2) u563 dX2_writeState_46 ?_
    refine lv_iconst (v := 0) S.1 S.2.1 dX2_writeState_49 (by decide) ?_
    refine lv_aload_n S.1 S.2.1 dX2_writeState_50 rfl (lv_at hl 1 rfl) ?_
    refine lv_iconst (v := 4) S.1 S.2.1 dX2_writeState_51 (by decide) ?_
    refine lv_bipush (v := 8) S.1 S.2.1 dX2_writeState_52 (by decide) ?_
    obtain ⟨g7, h⟩ := h
    obtain ⟨g8, h⟩ := h
    refine cp_18_10 S hg hS hw g7 (Nat.le_of_ble_eq_true rfl) g8 hl.1 (Nat.le_of_ble_eq_true rfl) (Nat.le_of_ble_eq_true rfl) u807 dX2_writeState_54 (fun H locs hw hS => ?_)
    refine lv_aload_n S.1 S.2.1 dX2_writeState_57 rfl (lv_at hl 0 rfl) ?_
    refine g6_1 S hg hw g2 u575 dX2_writeState_58 ?_
    refine g7_3 S hg hw (lt2s g2) u563 dX2_writeState_61 ?_
    refine lv_iconst (v := 0) S.1 S.2.1 dX2_writeState_64 (by decide) ?_
    refine lv_aload_n S.1 S.2.1 dX2_writeState_65 rfl (lv_at hl 1 rfl) ?_
    refine lv_bipush (v := 12) S.1 S.2.1 dX2_writeState_66 (by decide) ?_
    refine lv_bipush (v := 8) S.1 S.2.1 dX2_writeState_68 (by decide) ?_
    obtain ⟨g9, h⟩ := h
    obtain ⟨g10, h⟩ := h
    refine cp_18_10 S hg hS hw g9 (Nat.le_of_ble_eq_true rfl) g10 hl.1 (Nat.le_of_ble_eq_true rfl) (Nat.le_of_ble_eq_true rfl) u807 dX2_writeState_70 (fun H locs hw hS => ?_)
    refine lv_aload_n S.1 S.2.1 dX2_writeState_73 rfl (lv_at hl 1 rfl) ?_
    refine lv_bipush (v := 20) S.1 S.2.1 dX2_writeState_74 (by decide) ?_
    refine lv_aload_n S.1 S.2.1 dX2_writeState_76 rfl (lv_at hl 0 rfl) ?_
    refine g6_7 S hg hw g2 u585 dX2_writeState_77 ?_
    obtain ⟨g11, h⟩ := h
    refine s10 S hg hS hw (Nat.le_of_ble_eq_true rfl) g11 dX2_writeState_80 (fun H locs hw hS => ?_)
    refine lv_iconst (v := 0) S.1 S.2.1 dX2_writeState_81 (by decide) ?_
    refine lv_istore_n (lv' := [(2, .int 0), (0, .ref (ad 6 q0)), (1, .ref (ad 10 1))]) S.1 S.2.1 dX2_writeState_82 rfl hl (by decide) rfl (fun ls hl => ?_)
    have hl := lv_sub hl (l' := [(0, .ref (ad 6 q0)), (1, .ref (ad 10 1)), (2, .int 0)]) [1, 2, 0] rfl
    obtain ⟨n1, h⟩ := h
    exact bX2_writeState_83 S hg hr hlk hout n1 hS hw hl h
  · have h := h.2 c1
    exact r_vret (y := yX2_writeState) S hr hlk hS (by omega) (by omega) dX2_writeState_7 ⟨(), _, rfl, h, hw⟩

-- X2.resume
theorem dX2_resume_0 : decode cX2_resume 0 = .ok (.iload_n 1, 1) := by decide +kernel
theorem dX2_resume_1 : decode cX2_resume 1 = .ok (.ifCond .lt 16, 3) := by decide +kernel
theorem dX2_resume_4 : decode cX2_resume 4 = .ok (.iload_n 1, 1) := by decide +kernel
theorem dX2_resume_5 : decode cX2_resume 5 = .ok (.bipush 6, 2) := by decide +kernel
theorem dX2_resume_7 : decode cX2_resume 7 = .ok (.if_icmp .ge 10, 3) := by decide +kernel
theorem dX2_resume_10 : decode cX2_resume 10 = .ok (.aload_n 2, 1) := by decide +kernel
theorem dX2_resume_11 : decode cX2_resume 11 = .ok (.arraylength, 1) := by decide +kernel
theorem dX2_resume_12 : decode cX2_resume 12 = .ok (.bipush 24, 2) := by decide +kernel
theorem dX2_resume_14 : decode cX2_resume 14 = .ok (.if_icmp .ge 4, 3) := by decide +kernel
theorem dX2_resume_17 : decode cX2_resume 17 = .ok (.return_, 1) := by decide +kernel
theorem dX2_resume_18 : decode cX2_resume 18 = .ok (.aload_n 0, 1) := by decide +kernel
theorem dX2_resume_19 : decode cX2_resume 19 = .ok (.getfield 36, 3) := by decide +kernel
theorem dX2_resume_22 : decode cX2_resume 22 = .ok (.aload_n 2, 1) := by decide +kernel
theorem dX2_resume_23 : decode cX2_resume 23 = .ok (.iconst 0, 1) := by decide +kernel
theorem dX2_resume_24 : decode cX2_resume 24 = .ok (.iaload, 1) := by decide +kernel
theorem dX2_resume_25 : decode cX2_resume 25 = .ok (.putfield 99, 3) := by decide +kernel
theorem dX2_resume_28 : decode cX2_resume 28 = .ok (.aload_n 0, 1) := by decide +kernel
theorem dX2_resume_29 : decode cX2_resume 29 = .ok (.getfield 40, 3) := by decide +kernel
theorem dX2_resume_32 : decode cX2_resume 32 = .ok (.aload_n 2, 1) := by decide +kernel
theorem dX2_resume_33 : decode cX2_resume 33 = .ok (.iconst 1, 1) := by decide +kernel
theorem dX2_resume_34 : decode cX2_resume 34 = .ok (.iaload, 1) := by decide +kernel
theorem dX2_resume_35 : decode cX2_resume 35 = .ok (.putfield 99, 3) := by decide +kernel
theorem dX2_resume_38 : decode cX2_resume 38 = .ok (.aload_n 0, 1) := by decide +kernel
theorem dX2_resume_39 : decode cX2_resume 39 = .ok (.aload_n 2, 1) := by decide +kernel
theorem dX2_resume_40 : decode cX2_resume 40 = .ok (.iconst 2, 1) := by decide +kernel
theorem dX2_resume_41 : decode cX2_resume 41 = .ok (.iaload, 1) := by decide +kernel
theorem dX2_resume_42 : decode cX2_resume 42 = .ok (.putfield 72, 3) := by decide +kernel
theorem dX2_resume_45 : decode cX2_resume 45 = .ok (.aload_n 0, 1) := by decide +kernel
theorem dX2_resume_46 : decode cX2_resume 46 = .ok (.aload_n 2, 1) := by decide +kernel
theorem dX2_resume_47 : decode cX2_resume 47 = .ok (.iconst 3, 1) := by decide +kernel
theorem dX2_resume_48 : decode cX2_resume 48 = .ok (.iaload, 1) := by decide +kernel
theorem dX2_resume_49 : decode cX2_resume 49 = .ok (.putfield 56, 3) := by decide +kernel
theorem dX2_resume_52 : decode cX2_resume 52 = .ok (.aload_n 2, 1) := by decide +kernel
theorem dX2_resume_53 : decode cX2_resume 53 = .ok (.iconst 4, 1) := by decide +kernel
theorem dX2_resume_54 : decode cX2_resume 54 = .ok (.aload_n 0, 1) := by decide +kernel
theorem dX2_resume_55 : decode cX2_resume 55 = .ok (.getfield 36, 3) := by decide +kernel
theorem dX2_resume_58 : decode cX2_resume 58 = .ok (.getfield 66, 3) := by decide +kernel
theorem dX2_resume_61 : decode cX2_resume 61 = .ok (.iconst 0, 1) := by decide +kernel
theorem dX2_resume_62 : decode cX2_resume 62 = .ok (.bipush 8, 2) := by decide +kernel
theorem dX2_resume_64 : decode cX2_resume 64 = .ok (.invokestatic 115, 3) := by decide +kernel
theorem dX2_resume_67 : decode cX2_resume 67 = .ok (.aload_n 2, 1) := by decide +kernel
theorem dX2_resume_68 : decode cX2_resume 68 = .ok (.bipush 12, 2) := by decide +kernel
theorem dX2_resume_70 : decode cX2_resume 70 = .ok (.aload_n 0, 1) := by decide +kernel
theorem dX2_resume_71 : decode cX2_resume 71 = .ok (.getfield 40, 3) := by decide +kernel
theorem dX2_resume_74 : decode cX2_resume 74 = .ok (.getfield 66, 3) := by decide +kernel
theorem dX2_resume_77 : decode cX2_resume 77 = .ok (.iconst 0, 1) := by decide +kernel
theorem dX2_resume_78 : decode cX2_resume 78 = .ok (.bipush 8, 2) := by decide +kernel
theorem dX2_resume_80 : decode cX2_resume 80 = .ok (.invokestatic 115, 3) := by decide +kernel
theorem dX2_resume_83 : decode cX2_resume 83 = .ok (.aload_n 0, 1) := by decide +kernel
theorem dX2_resume_84 : decode cX2_resume 84 = .ok (.aload_n 2, 1) := by decide +kernel
theorem dX2_resume_85 : decode cX2_resume 85 = .ok (.bipush 20, 2) := by decide +kernel
theorem dX2_resume_87 : decode cX2_resume 87 = .ok (.iaload, 1) := by decide +kernel
theorem dX2_resume_88 : decode cX2_resume 88 = .ok (.putfield 69, 3) := by decide +kernel
theorem dX2_resume_91 : decode cX2_resume 91 = .ok (.aload_n 0, 1) := by decide +kernel
theorem dX2_resume_92 : decode cX2_resume 92 = .ok (.getfield 28, 3) := by decide +kernel
theorem dX2_resume_95 : decode cX2_resume 95 = .ok (.iload_n 1, 1) := by decide +kernel
theorem dX2_resume_96 : decode cX2_resume 96 = .ok (.aaload, 1) := by decide +kernel
theorem dX2_resume_97 : decode cX2_resume 97 = .ok (.iconst 0, 1) := by decide +kernel
theorem dX2_resume_98 : decode cX2_resume 98 = .ok (.aload_n 0, 1) := by decide +kernel
theorem dX2_resume_99 : decode cX2_resume 99 = .ok (.getfield 19, 3) := by decide +kernel
theorem dX2_resume_102 : decode cX2_resume 102 = .ok (.iconst 0, 1) := by decide +kernel
theorem dX2_resume_103 : decode cX2_resume 103 = .ok (.bipush 8, 2) := by decide +kernel
theorem dX2_resume_105 : decode cX2_resume 105 = .ok (.invokestatic 115, 3) := by decide +kernel
theorem dX2_resume_108 : decode cX2_resume 108 = .ok (.aload_n 0, 1) := by decide +kernel
theorem dX2_resume_109 : decode cX2_resume 109 = .ok (.bipush 103, 2) := by decide +kernel
theorem dX2_resume_111 : decode cX2_resume 111 = .ok (.putfield 9, 3) := by decide +kernel
theorem dX2_resume_114 : decode cX2_resume 114 = .ok (.aload_n 0, 1) := by decide +kernel
theorem dX2_resume_115 : decode cX2_resume 115 = .ok (.iconst (-1), 1) := by decide +kernel
theorem dX2_resume_116 : decode cX2_resume 116 = .ok (.putfield 15, 3) := by decide +kernel
theorem dX2_resume_119 : decode cX2_resume 119 = .ok (.return_, 1) := by decide +kernel
def wpX2_resume (post : Unit → KS → Prop) (K : KS) (q0 : Nat) (p1 : Int32) : Prop := ((p1 < 0 → (post () K)) ∧ (¬ p1 < 0 → (((6 ≤ p1 → (post () K)) ∧ (¬ 6 ≤ p1 → (((24 ≤ (nI 24) → ((q0 < nD K) ∧ ((vp_in 0 24) ∧ ((vp_in 1 24) ∧ ((vp_in 2 24) ∧ ((vp_in 3 24) ∧ ((2 * q0 < 2 * nD (k3 (k3 (k3 (k3 K 7 1 (2 * q0) (K 10 1 ((0 : Int32).toNatClampNeg))) 7 1 (2 * q0 + 1) ((k3 K 7 1 (2 * q0) (K 10 1 ((0 : Int32).toNatClampNeg))) 10 1 ((1 : Int32).toNatClampNeg))) 6 4 q0 ((k3 (k3 K 7 1 (2 * q0) (K 10 1 ((0 : Int32).toNatClampNeg))) 7 1 (2 * q0 + 1) ((k3 K 7 1 (2 * q0) (K 10 1 ((0 : Int32).toNatClampNeg))) 10 1 ((1 : Int32).toNatClampNeg))) 10 1 ((2 : Int32).toNatClampNeg))) 6 5 q0 ((k3 (k3 (k3 K 7 1 (2 * q0) (K 10 1 ((0 : Int32).toNatClampNeg))) 7 1 (2 * q0 + 1) ((k3 K 7 1 (2 * q0) (K 10 1 ((0 : Int32).toNatClampNeg))) 10 1 ((1 : Int32).toNatClampNeg))) 6 4 q0 ((k3 (k3 K 7 1 (2 * q0) (K 10 1 ((0 : Int32).toNatClampNeg))) 7 1 (2 * q0 + 1) ((k3 K 7 1 (2 * q0) (K 10 1 ((0 : Int32).toNatClampNeg))) 10 1 ((1 : Int32).toNatClampNeg))) 10 1 ((2 : Int32).toNatClampNeg))) 10 1 ((3 : Int32).toNatClampNeg)))) ∧ (okCpy 4 0 8 24 8) ∧ ((2 * q0 + 1 < 2 * nD (kr (k3 (k3 (k3 (k3 K 7 1 (2 * q0) (K 10 1 ((0 : Int32).toNatClampNeg))) 7 1 (2 * q0 + 1) ((k3 K 7 1 (2 * q0) (K 10 1 ((0 : Int32).toNatClampNeg))) 10 1 ((1 : Int32).toNatClampNeg))) 6 4 q0 ((k3 (k3 K 7 1 (2 * q0) (K 10 1 ((0 : Int32).toNatClampNeg))) 7 1 (2 * q0 + 1) ((k3 K 7 1 (2 * q0) (K 10 1 ((0 : Int32).toNatClampNeg))) 10 1 ((1 : Int32).toNatClampNeg))) 10 1 ((2 : Int32).toNatClampNeg))) 6 5 q0 ((k3 (k3 (k3 K 7 1 (2 * q0) (K 10 1 ((0 : Int32).toNatClampNeg))) 7 1 (2 * q0 + 1) ((k3 K 7 1 (2 * q0) (K 10 1 ((0 : Int32).toNatClampNeg))) 10 1 ((1 : Int32).toNatClampNeg))) 6 4 q0 ((k3 (k3 K 7 1 (2 * q0) (K 10 1 ((0 : Int32).toNatClampNeg))) 7 1 (2 * q0 + 1) ((k3 K 7 1 (2 * q0) (K 10 1 ((0 : Int32).toNatClampNeg))) 10 1 ((1 : Int32).toNatClampNeg))) 10 1 ((2 : Int32).toNatClampNeg))) 10 1 ((3 : Int32).toNatClampNeg))) 18 (2 * q0) (va_cpy ((k3 (k3 (k3 (k3 K 7 1 (2 * q0) (K 10 1 ((0 : Int32).toNatClampNeg))) 7 1 (2 * q0 + 1) ((k3 K 7 1 (2 * q0) (K 10 1 ((0 : Int32).toNatClampNeg))) 10 1 ((1 : Int32).toNatClampNeg))) 6 4 q0 ((k3 (k3 K 7 1 (2 * q0) (K 10 1 ((0 : Int32).toNatClampNeg))) 7 1 (2 * q0 + 1) ((k3 K 7 1 (2 * q0) (K 10 1 ((0 : Int32).toNatClampNeg))) 10 1 ((1 : Int32).toNatClampNeg))) 10 1 ((2 : Int32).toNatClampNeg))) 6 5 q0 ((k3 (k3 (k3 K 7 1 (2 * q0) (K 10 1 ((0 : Int32).toNatClampNeg))) 7 1 (2 * q0 + 1) ((k3 K 7 1 (2 * q0) (K 10 1 ((0 : Int32).toNatClampNeg))) 10 1 ((1 : Int32).toNatClampNeg))) 6 4 q0 ((k3 (k3 K 7 1 (2 * q0) (K 10 1 ((0 : Int32).toNatClampNeg))) 7 1 (2 * q0 + 1) ((k3 K 7 1 (2 * q0) (K 10 1 ((0 : Int32).toNatClampNeg))) 10 1 ((1 : Int32).toNatClampNeg))) 10 1 ((2 : Int32).toNatClampNeg))) 10 1 ((3 : Int32).toNatClampNeg))) 10 1) ((k3 (k3 (k3 (k3 K 7 1 (2 * q0) (K 10 1 ((0 : Int32).toNatClampNeg))) 7 1 (2 * q0 + 1) ((k3 K 7 1 (2 * q0) (K 10 1 ((0 : Int32).toNatClampNeg))) 10 1 ((1 : Int32).toNatClampNeg))) 6 4 q0 ((k3 (k3 K 7 1 (2 * q0) (K 10 1 ((0 : Int32).toNatClampNeg))) 7 1 (2 * q0 + 1) ((k3 K 7 1 (2 * q0) (K 10 1 ((0 : Int32).toNatClampNeg))) 10 1 ((1 : Int32).toNatClampNeg))) 10 1 ((2 : Int32).toNatClampNeg))) 6 5 q0 ((k3 (k3 (k3 K 7 1 (2 * q0) (K 10 1 ((0 : Int32).toNatClampNeg))) 7 1 (2 * q0 + 1) ((k3 K 7 1 (2 * q0) (K 10 1 ((0 : Int32).toNatClampNeg))) 10 1 ((1 : Int32).toNatClampNeg))) 6 4 q0 ((k3 (k3 K 7 1 (2 * q0) (K 10 1 ((0 : Int32).toNatClampNeg))) 7 1 (2 * q0 + 1) ((k3 K 7 1 (2 * q0) (K 10 1 ((0 : Int32).toNatClampNeg))) 10 1 ((1 : Int32).toNatClampNeg))) 10 1 ((2 : Int32).toNatClampNeg))) 10 1 ((3 : Int32).toNatClampNeg))) 18 (2 * q0)) ((4 : Int32).toNatClampNeg) ((0 : Int32).toNatClampNeg) ((8 : Int32).toNatClampNeg)))) ∧ (okCpy 12 0 8 24 8) ∧ ((vp_in 20 24) ∧ ((vp_in p1 6) ∧ ((okCpy 0 0 8 8 8) ∧ (post () (k3 (k3 (kr (k3 (kr (kr (k3 (k3 (k3 (k3 K 7 1 (2 * q0) (K 10 1 ((0 : Int32).toNatClampNeg))) 7 1 (2 * q0 + 1) ((k3 K 7 1 (2 * q0) (K 10 1 ((0 : Int32).toNatClampNeg))) 10 1 ((1 : Int32).toNatClampNeg))) 6 4 q0 ((k3 (k3 K 7 1 (2 * q0) (K 10 1 ((0 : Int32).toNatClampNeg))) 7 1 (2 * q0 + 1) ((k3 K 7 1 (2 * q0) (K 10 1 ((0 : Int32).toNatClampNeg))) 10 1 ((1 : Int32).toNatClampNeg))) 10 1 ((2 : Int32).toNatClampNeg))) 6 5 q0 ((k3 (k3 (k3 K 7 1 (2 * q0) (K 10 1 ((0 : Int32).toNatClampNeg))) 7 1 (2 * q0 + 1) ((k3 K 7 1 (2 * q0) (K 10 1 ((0 : Int32).toNatClampNeg))) 10 1 ((1 : Int32).toNatClampNeg))) 6 4 q0 ((k3 (k3 K 7 1 (2 * q0) (K 10 1 ((0 : Int32).toNatClampNeg))) 7 1 (2 * q0 + 1) ((k3 K 7 1 (2 * q0) (K 10 1 ((0 : Int32).toNatClampNeg))) 10 1 ((1 : Int32).toNatClampNeg))) 10 1 ((2 : Int32).toNatClampNeg))) 10 1 ((3 : Int32).toNatClampNeg))) 18 (2 * q0) (va_cpy ((k3 (k3 (k3 (k3 K 7 1 (2 * q0) (K 10 1 ((0 : Int32).toNatClampNeg))) 7 1 (2 * q0 + 1) ((k3 K 7 1 (2 * q0) (K 10 1 ((0 : Int32).toNatClampNeg))) 10 1 ((1 : Int32).toNatClampNeg))) 6 4 q0 ((k3 (k3 K 7 1 (2 * q0) (K 10 1 ((0 : Int32).toNatClampNeg))) 7 1 (2 * q0 + 1) ((k3 K 7 1 (2 * q0) (K 10 1 ((0 : Int32).toNatClampNeg))) 10 1 ((1 : Int32).toNatClampNeg))) 10 1 ((2 : Int32).toNatClampNeg))) 6 5 q0 ((k3 (k3 (k3 K 7 1 (2 * q0) (K 10 1 ((0 : Int32).toNatClampNeg))) 7 1 (2 * q0 + 1) ((k3 K 7 1 (2 * q0) (K 10 1 ((0 : Int32).toNatClampNeg))) 10 1 ((1 : Int32).toNatClampNeg))) 6 4 q0 ((k3 (k3 K 7 1 (2 * q0) (K 10 1 ((0 : Int32).toNatClampNeg))) 7 1 (2 * q0 + 1) ((k3 K 7 1 (2 * q0) (K 10 1 ((0 : Int32).toNatClampNeg))) 10 1 ((1 : Int32).toNatClampNeg))) 10 1 ((2 : Int32).toNatClampNeg))) 10 1 ((3 : Int32).toNatClampNeg))) 10 1) ((k3 (k3 (k3 (k3 K 7 1 (2 * q0) (K 10 1 ((0 : Int32).toNatClampNeg))) 7 1 (2 * q0 + 1) ((k3 K 7 1 (2 * q0) (K 10 1 ((0 : Int32).toNatClampNeg))) 10 1 ((1 : Int32).toNatClampNeg))) 6 4 q0 ((k3 (k3 K 7 1 (2 * q0) (K 10 1 ((0 : Int32).toNatClampNeg))) 7 1 (2 * q0 + 1) ((k3 K 7 1 (2 * q0) (K 10 1 ((0 : Int32).toNatClampNeg))) 10 1 ((1 : Int32).toNatClampNeg))) 10 1 ((2 : Int32).toNatClampNeg))) 6 5 q0 ((k3 (k3 (k3 K 7 1 (2 * q0) (K 10 1 ((0 : Int32).toNatClampNeg))) 7 1 (2 * q0 + 1) ((k3 K 7 1 (2 * q0) (K 10 1 ((0 : Int32).toNatClampNeg))) 10 1 ((1 : Int32).toNatClampNeg))) 6 4 q0 ((k3 (k3 K 7 1 (2 * q0) (K 10 1 ((0 : Int32).toNatClampNeg))) 7 1 (2 * q0 + 1) ((k3 K 7 1 (2 * q0) (K 10 1 ((0 : Int32).toNatClampNeg))) 10 1 ((1 : Int32).toNatClampNeg))) 10 1 ((2 : Int32).toNatClampNeg))) 10 1 ((3 : Int32).toNatClampNeg))) 18 (2 * q0)) ((4 : Int32).toNatClampNeg) ((0 : Int32).toNatClampNeg) ((8 : Int32).toNatClampNeg))) 18 (2 * q0 + 1) (va_cpy ((kr (k3 (k3 (k3 (k3 K 7 1 (2 * q0) (K 10 1 ((0 : Int32).toNatClampNeg))) 7 1 (2 * q0 + 1) ((k3 K 7 1 (2 * q0) (K 10 1 ((0 : Int32).toNatClampNeg))) 10 1 ((1 : Int32).toNatClampNeg))) 6 4 q0 ((k3 (k3 K 7 1 (2 * q0) (K 10 1 ((0 : Int32).toNatClampNeg))) 7 1 (2 * q0 + 1) ((k3 K 7 1 (2 * q0) (K 10 1 ((0 : Int32).toNatClampNeg))) 10 1 ((1 : Int32).toNatClampNeg))) 10 1 ((2 : Int32).toNatClampNeg))) 6 5 q0 ((k3 (k3 (k3 K 7 1 (2 * q0) (K 10 1 ((0 : Int32).toNatClampNeg))) 7 1 (2 * q0 + 1) ((k3 K 7 1 (2 * q0) (K 10 1 ((0 : Int32).toNatClampNeg))) 10 1 ((1 : Int32).toNatClampNeg))) 6 4 q0 ((k3 (k3 K 7 1 (2 * q0) (K 10 1 ((0 : Int32).toNatClampNeg))) 7 1 (2 * q0 + 1) ((k3 K 7 1 (2 * q0) (K 10 1 ((0 : Int32).toNatClampNeg))) 10 1 ((1 : Int32).toNatClampNeg))) 10 1 ((2 : Int32).toNatClampNeg))) 10 1 ((3 : Int32).toNatClampNeg))) 18 (2 * q0) (va_cpy ((k3 (k3 (k3 (k3 K 7 1 (2 * q0) (K 10 1 ((0 : Int32).toNatClampNeg))) 7 1 (2 * q0 + 1) ((k3 K 7 1 (2 * q0) (K 10 1 ((0 : Int32).toNatClampNeg))) 10 1 ((1 : Int32).toNatClampNeg))) 6 4 q0 ((k3 (k3 K 7 1 (2 * q0) (K 10 1 ((0 : Int32).toNatClampNeg))) 7 1 (2 * q0 + 1) ((k3 K 7 1 (2 * q0) (K 10 1 ((0 : Int32).toNatClampNeg))) 10 1 ((1 : Int32).toNatClampNeg))) 10 1 ((2 : Int32).toNatClampNeg))) 6 5 q0 ((k3 (k3 (k3 K 7 1 (2 * q0) (K 10 1 ((0 : Int32).toNatClampNeg))) 7 1 (2 * q0 + 1) ((k3 K 7 1 (2 * q0) (K 10 1 ((0 : Int32).toNatClampNeg))) 10 1 ((1 : Int32).toNatClampNeg))) 6 4 q0 ((k3 (k3 K 7 1 (2 * q0) (K 10 1 ((0 : Int32).toNatClampNeg))) 7 1 (2 * q0 + 1) ((k3 K 7 1 (2 * q0) (K 10 1 ((0 : Int32).toNatClampNeg))) 10 1 ((1 : Int32).toNatClampNeg))) 10 1 ((2 : Int32).toNatClampNeg))) 10 1 ((3 : Int32).toNatClampNeg))) 10 1) ((k3 (k3 (k3 (k3 K 7 1 (2 * q0) (K 10 1 ((0 : Int32).toNatClampNeg))) 7 1 (2 * q0 + 1) ((k3 K 7 1 (2 * q0) (K 10 1 ((0 : Int32).toNatClampNeg))) 10 1 ((1 : Int32).toNatClampNeg))) 6 4 q0 ((k3 (k3 K 7 1 (2 * q0) (K 10 1 ((0 : Int32).toNatClampNeg))) 7 1 (2 * q0 + 1) ((k3 K 7 1 (2 * q0) (K 10 1 ((0 : Int32).toNatClampNeg))) 10 1 ((1 : Int32).toNatClampNeg))) 10 1 ((2 : Int32).toNatClampNeg))) 6 5 q0 ((k3 (k3 (k3 K 7 1 (2 * q0) (K 10 1 ((0 : Int32).toNatClampNeg))) 7 1 (2 * q0 + 1) ((k3 K 7 1 (2 * q0) (K 10 1 ((0 : Int32).toNatClampNeg))) 10 1 ((1 : Int32).toNatClampNeg))) 6 4 q0 ((k3 (k3 K 7 1 (2 * q0) (K 10 1 ((0 : Int32).toNatClampNeg))) 7 1 (2 * q0 + 1) ((k3 K 7 1 (2 * q0) (K 10 1 ((0 : Int32).toNatClampNeg))) 10 1 ((1 : Int32).toNatClampNeg))) 10 1 ((2 : Int32).toNatClampNeg))) 10 1 ((3 : Int32).toNatClampNeg))) 18 (2 * q0)) ((4 : Int32).toNatClampNeg) ((0 : Int32).toNatClampNeg) ((8 : Int32).toNatClampNeg))) 10 1) ((kr (k3 (k3 (k3 (k3 K 7 1 (2 * q0) (K 10 1 ((0 : Int32).toNatClampNeg))) 7 1 (2 * q0 + 1) ((k3 K 7 1 (2 * q0) (K 10 1 ((0 : Int32).toNatClampNeg))) 10 1 ((1 : Int32).toNatClampNeg))) 6 4 q0 ((k3 (k3 K 7 1 (2 * q0) (K 10 1 ((0 : Int32).toNatClampNeg))) 7 1 (2 * q0 + 1) ((k3 K 7 1 (2 * q0) (K 10 1 ((0 : Int32).toNatClampNeg))) 10 1 ((1 : Int32).toNatClampNeg))) 10 1 ((2 : Int32).toNatClampNeg))) 6 5 q0 ((k3 (k3 (k3 K 7 1 (2 * q0) (K 10 1 ((0 : Int32).toNatClampNeg))) 7 1 (2 * q0 + 1) ((k3 K 7 1 (2 * q0) (K 10 1 ((0 : Int32).toNatClampNeg))) 10 1 ((1 : Int32).toNatClampNeg))) 6 4 q0 ((k3 (k3 K 7 1 (2 * q0) (K 10 1 ((0 : Int32).toNatClampNeg))) 7 1 (2 * q0 + 1) ((k3 K 7 1 (2 * q0) (K 10 1 ((0 : Int32).toNatClampNeg))) 10 1 ((1 : Int32).toNatClampNeg))) 10 1 ((2 : Int32).toNatClampNeg))) 10 1 ((3 : Int32).toNatClampNeg))) 18 (2 * q0) (va_cpy ((k3 (k3 (k3 (k3 K 7 1 (2 * q0) (K 10 1 ((0 : Int32).toNatClampNeg))) 7 1 (2 * q0 + 1) ((k3 K 7 1 (2 * q0) (K 10 1 ((0 : Int32).toNatClampNeg))) 10 1 ((1 : Int32).toNatClampNeg))) 6 4 q0 ((k3 (k3 K 7 1 (2 * q0) (K 10 1 ((0 : Int32).toNatClampNeg))) 7 1 (2 * q0 + 1) ((k3 K 7 1 (2 * q0) (K 10 1 ((0 : Int32).toNatClampNeg))) 10 1 ((1 : Int32).toNatClampNeg))) 10 1 ((2 : Int32).toNatClampNeg))) 6 5 q0 ((k3 (k3 (k3 K 7 1 (2 * q0) (K 10 1 ((0 : Int32).toNatClampNeg))) 7 1 (2 * q0 + 1) ((k3 K 7 1 (2 * q0) (K 10 1 ((0 : Int32).toNatClampNeg))) 10 1 ((1 : Int32).toNatClampNeg))) 6 4 q0 ((k3 (k3 K 7 1 (2 * q0) (K 10 1 ((0 : Int32).toNatClampNeg))) 7 1 (2 * q0 + 1) ((k3 K 7 1 (2 * q0) (K 10 1 ((0 : Int32).toNatClampNeg))) 10 1 ((1 : Int32).toNatClampNeg))) 10 1 ((2 : Int32).toNatClampNeg))) 10 1 ((3 : Int32).toNatClampNeg))) 10 1) ((k3 (k3 (k3 (k3 K 7 1 (2 * q0) (K 10 1 ((0 : Int32).toNatClampNeg))) 7 1 (2 * q0 + 1) ((k3 K 7 1 (2 * q0) (K 10 1 ((0 : Int32).toNatClampNeg))) 10 1 ((1 : Int32).toNatClampNeg))) 6 4 q0 ((k3 (k3 K 7 1 (2 * q0) (K 10 1 ((0 : Int32).toNatClampNeg))) 7 1 (2 * q0 + 1) ((k3 K 7 1 (2 * q0) (K 10 1 ((0 : Int32).toNatClampNeg))) 10 1 ((1 : Int32).toNatClampNeg))) 10 1 ((2 : Int32).toNatClampNeg))) 6 5 q0 ((k3 (k3 (k3 K 7 1 (2 * q0) (K 10 1 ((0 : Int32).toNatClampNeg))) 7 1 (2 * q0 + 1) ((k3 K 7 1 (2 * q0) (K 10 1 ((0 : Int32).toNatClampNeg))) 10 1 ((1 : Int32).toNatClampNeg))) 6 4 q0 ((k3 (k3 K 7 1 (2 * q0) (K 10 1 ((0 : Int32).toNatClampNeg))) 7 1 (2 * q0 + 1) ((k3 K 7 1 (2 * q0) (K 10 1 ((0 : Int32).toNatClampNeg))) 10 1 ((1 : Int32).toNatClampNeg))) 10 1 ((2 : Int32).toNatClampNeg))) 10 1 ((3 : Int32).toNatClampNeg))) 18 (2 * q0)) ((4 : Int32).toNatClampNeg) ((0 : Int32).toNatClampNeg) ((8 : Int32).toNatClampNeg))) 18 (2 * q0 + 1)) ((12 : Int32).toNatClampNeg) ((0 : Int32).toNatClampNeg) ((8 : Int32).toNatClampNeg))) 6 7 q0 ((kr (kr (k3 (k3 (k3 (k3 K 7 1 (2 * q0) (K 10 1 ((0 : Int32).toNatClampNeg))) 7 1 (2 * q0 + 1) ((k3 K 7 1 (2 * q0) (K 10 1 ((0 : Int32).toNatClampNeg))) 10 1 ((1 : Int32).toNatClampNeg))) 6 4 q0 ((k3 (k3 K 7 1 (2 * q0) (K 10 1 ((0 : Int32).toNatClampNeg))) 7 1 (2 * q0 + 1) ((k3 K 7 1 (2 * q0) (K 10 1 ((0 : Int32).toNatClampNeg))) 10 1 ((1 : Int32).toNatClampNeg))) 10 1 ((2 : Int32).toNatClampNeg))) 6 5 q0 ((k3 (k3 (k3 K 7 1 (2 * q0) (K 10 1 ((0 : Int32).toNatClampNeg))) 7 1 (2 * q0 + 1) ((k3 K 7 1 (2 * q0) (K 10 1 ((0 : Int32).toNatClampNeg))) 10 1 ((1 : Int32).toNatClampNeg))) 6 4 q0 ((k3 (k3 K 7 1 (2 * q0) (K 10 1 ((0 : Int32).toNatClampNeg))) 7 1 (2 * q0 + 1) ((k3 K 7 1 (2 * q0) (K 10 1 ((0 : Int32).toNatClampNeg))) 10 1 ((1 : Int32).toNatClampNeg))) 10 1 ((2 : Int32).toNatClampNeg))) 10 1 ((3 : Int32).toNatClampNeg))) 18 (2 * q0) (va_cpy ((k3 (k3 (k3 (k3 K 7 1 (2 * q0) (K 10 1 ((0 : Int32).toNatClampNeg))) 7 1 (2 * q0 + 1) ((k3 K 7 1 (2 * q0) (K 10 1 ((0 : Int32).toNatClampNeg))) 10 1 ((1 : Int32).toNatClampNeg))) 6 4 q0 ((k3 (k3 K 7 1 (2 * q0) (K 10 1 ((0 : Int32).toNatClampNeg))) 7 1 (2 * q0 + 1) ((k3 K 7 1 (2 * q0) (K 10 1 ((0 : Int32).toNatClampNeg))) 10 1 ((1 : Int32).toNatClampNeg))) 10 1 ((2 : Int32).toNatClampNeg))) 6 5 q0 ((k3 (k3 (k3 K 7 1 (2 * q0) (K 10 1 ((0 : Int32).toNatClampNeg))) 7 1 (2 * q0 + 1) ((k3 K 7 1 (2 * q0) (K 10 1 ((0 : Int32).toNatClampNeg))) 10 1 ((1 : Int32).toNatClampNeg))) 6 4 q0 ((k3 (k3 K 7 1 (2 * q0) (K 10 1 ((0 : Int32).toNatClampNeg))) 7 1 (2 * q0 + 1) ((k3 K 7 1 (2 * q0) (K 10 1 ((0 : Int32).toNatClampNeg))) 10 1 ((1 : Int32).toNatClampNeg))) 10 1 ((2 : Int32).toNatClampNeg))) 10 1 ((3 : Int32).toNatClampNeg))) 10 1) ((k3 (k3 (k3 (k3 K 7 1 (2 * q0) (K 10 1 ((0 : Int32).toNatClampNeg))) 7 1 (2 * q0 + 1) ((k3 K 7 1 (2 * q0) (K 10 1 ((0 : Int32).toNatClampNeg))) 10 1 ((1 : Int32).toNatClampNeg))) 6 4 q0 ((k3 (k3 K 7 1 (2 * q0) (K 10 1 ((0 : Int32).toNatClampNeg))) 7 1 (2 * q0 + 1) ((k3 K 7 1 (2 * q0) (K 10 1 ((0 : Int32).toNatClampNeg))) 10 1 ((1 : Int32).toNatClampNeg))) 10 1 ((2 : Int32).toNatClampNeg))) 6 5 q0 ((k3 (k3 (k3 K 7 1 (2 * q0) (K 10 1 ((0 : Int32).toNatClampNeg))) 7 1 (2 * q0 + 1) ((k3 K 7 1 (2 * q0) (K 10 1 ((0 : Int32).toNatClampNeg))) 10 1 ((1 : Int32).toNatClampNeg))) 6 4 q0 ((k3 (k3 K 7 1 (2 * q0) (K 10 1 ((0 : Int32).toNatClampNeg))) 7 1 (2 * q0 + 1) ((k3 K 7 1 (2 * q0) (K 10 1 ((0 : Int32).toNatClampNeg))) 10 1 ((1 : Int32).toNatClampNeg))) 10 1 ((2 : Int32).toNatClampNeg))) 10 1 ((3 : Int32).toNatClampNeg))) 18 (2 * q0)) ((4 : Int32).toNatClampNeg) ((0 : Int32).toNatClampNeg) ((8 : Int32).toNatClampNeg))) 18 (2 * q0 + 1) (va_cpy ((kr (k3 (k3 (k3 (k3 K 7 1 (2 * q0) (K 10 1 ((0 : Int32).toNatClampNeg))) 7 1 (2 * q0 + 1) ((k3 K 7 1 (2 * q0) (K 10 1 ((0 : Int32).toNatClampNeg))) 10 1 ((1 : Int32).toNatClampNeg))) 6 4 q0 ((k3 (k3 K 7 1 (2 * q0) (K 10 1 ((0 : Int32).toNatClampNeg))) 7 1 (2 * q0 + 1) ((k3 K 7 1 (2 * q0) (K 10 1 ((0 : Int32).toNatClampNeg))) 10 1 ((1 : Int32).toNatClampNeg))) 10 1 ((2 : Int32).toNatClampNeg))) 6 5 q0 ((k3 (k3 (k3 K 7 1 (2 * q0) (K 10 1 ((0 : Int32).toNatClampNeg))) 7 1 (2 * q0 + 1) ((k3 K 7 1 (2 * q0) (K 10 1 ((0 : Int32).toNatClampNeg))) 10 1 ((1 : Int32).toNatClampNeg))) 6 4 q0 ((k3 (k3 K 7 1 (2 * q0) (K 10 1 ((0 : Int32).toNatClampNeg))) 7 1 (2 * q0 + 1) ((k3 K 7 1 (2 * q0) (K 10 1 ((0 : Int32).toNatClampNeg))) 10 1 ((1 : Int32).toNatClampNeg))) 10 1 ((2 : Int32).toNatClampNeg))) 10 1 ((3 : Int32).toNatClampNeg))) 18 (2 * q0) (va_cpy ((k3 (k3 (k3 (k3 K 7 1 (2 * q0) (K 10 1 ((0 : Int32).toNatClampNeg))) 7 1 (2 * q0 + 1) ((k3 K 7 1 (2 * q0) (K 10 1 ((0 : Int32).toNatClampNeg))) 10 1 ((1 : Int32).toNatClampNeg))) 6 4 q0 ((k3 (k3 K 7 1 (2 * q0) (K 10 1 ((0 : Int32).toNatClampNeg))) 7 1 (2 * q0 + 1) ((k3 K 7 1 (2 * q0) (K 10 1 ((0 : Int32).toNatClampNeg))) 10 1 ((1 : Int32).toNatClampNeg))) 10 1 ((2 : Int32).toNatClampNeg))) 6 5 q0 ((k3 (k3 (k3 K 7 1 (2 * q0) (K 10 1 ((0 : Int32).toNatClampNeg))) 7 1 (2 * q0 + 1) ((k3 K 7 1 (2 * q0) (K 10 1 ((0 : Int32).toNatClampNeg))) 10 1 ((1 : Int32).toNatClampNeg))) 6 4 q0 ((k3 (k3 K 7 1 (2 * q0) (K 10 1 ((0 : Int32).toNatClampNeg))) 7 1 (2 * q0 + 1) ((k3 K 7 1 (2 * q0) (K 10 1 ((0 : Int32).toNatClampNeg))) 10 1 ((1 : Int32).toNatClampNeg))) 10 1 ((2 : Int32).toNatClampNeg))) 10 1 ((3 : Int32).toNatClampNeg))) 10 1) ((k3 (k3 (k3 (k3 K 7 1 (2 * q0) (K 10 1 ((0 : Int32).toNatClampNeg))) 7 1 (2 * q0 + 1) ((k3 K 7 1 (2 * q0) (K 10 1 ((0 : Int32).toNatClampNeg))) 10 1 ((1 : Int32).toNatClampNeg))) 6 4 q0 ((k3 (k3 K 7 1 (2 * q0) (K 10 1 ((0 : Int32).toNatClampNeg))) 7 1 (2 * q0 + 1) ((k3 K 7 1 (2 * q0) (K 10 1 ((0 : Int32).toNatClampNeg))) 10 1 ((1 : Int32).toNatClampNeg))) 10 1 ((2 : Int32).toNatClampNeg))) 6 5 q0 ((k3 (k3 (k3 K 7 1 (2 * q0) (K 10 1 ((0 : Int32).toNatClampNeg))) 7 1 (2 * q0 + 1) ((k3 K 7 1 (2 * q0) (K 10 1 ((0 : Int32).toNatClampNeg))) 10 1 ((1 : Int32).toNatClampNeg))) 6 4 q0 ((k3 (k3 K 7 1 (2 * q0) (K 10 1 ((0 : Int32).toNatClampNeg))) 7 1 (2 * q0 + 1) ((k3 K 7 1 (2 * q0) (K 10 1 ((0 : Int32).toNatClampNeg))) 10 1 ((1 : Int32).toNatClampNeg))) 10 1 ((2 : Int32).toNatClampNeg))) 10 1 ((3 : Int32).toNatClampNeg))) 18 (2 * q0)) ((4 : Int32).toNatClampNeg) ((0 : Int32).toNatClampNeg) ((8 : Int32).toNatClampNeg))) 10 1) ((kr (k3 (k3 (k3 (k3 K 7 1 (2 * q0) (K 10 1 ((0 : Int32).toNatClampNeg))) 7 1 (2 * q0 + 1) ((k3 K 7 1 (2 * q0) (K 10 1 ((0 : Int32).toNatClampNeg))) 10 1 ((1 : Int32).toNatClampNeg))) 6 4 q0 ((k3 (k3 K 7 1 (2 * q0) (K 10 1 ((0 : Int32).toNatClampNeg))) 7 1 (2 * q0 + 1) ((k3 K 7 1 (2 * q0) (K 10 1 ((0 : Int32).toNatClampNeg))) 10 1 ((1 : Int32).toNatClampNeg))) 10 1 ((2 : Int32).toNatClampNeg))) 6 5 q0 ((k3 (k3 (k3 K 7 1 (2 * q0) (K 10 1 ((0 : Int32).toNatClampNeg))) 7 1 (2 * q0 + 1) ((k3 K 7 1 (2 * q0) (K 10 1 ((0 : Int32).toNatClampNeg))) 10 1 ((1 : Int32).toNatClampNeg))) 6 4 q0 ((k3 (k3 K 7 1 (2 * q0) (K 10 1 ((0 : Int32).toNatClampNeg))) 7 1 (2 * q0 + 1) ((k3 K 7 1 (2 * q0) (K 10 1 ((0 : Int32).toNatClampNeg))) 10 1 ((1 : Int32).toNatClampNeg))) 10 1 ((2 : Int32).toNatClampNeg))) 10 1 ((3 : Int32).toNatClampNeg))) 18 (2 * q0) (va_cpy ((k3 (k3 (k3 (k3 K 7 1 (2 * q0) (K 10 1 ((0 : Int32).toNatClampNeg))) 7 1 (2 * q0 + 1) ((k3 K 7 1 (2 * q0) (K 10 1 ((0 : Int32).toNatClampNeg))) 10 1 ((1 : Int32).toNatClampNeg))) 6 4 q0 ((k3 (k3 K 7 1 (2 * q0) (K 10 1 ((0 : Int32).toNatClampNeg))) 7 1 (2 * q0 + 1) ((k3 K 7 1 (2 * q0) (K 10 1 ((0 : Int32).toNatClampNeg))) 10 1 ((1 : Int32).toNatClampNeg))) 10 1 ((2 : Int32).toNatClampNeg))) 6 5 q0 ((k3 (k3 (k3 K 7 1 (2 * q0) (K 10 1 ((0 : Int32).toNatClampNeg))) 7 1 (2 * q0 + 1) ((k3 K 7 1 (2 * q0) (K 10 1 ((0 : Int32).toNatClampNeg))) 10 1 ((1 : Int32).toNatClampNeg))) 6 4 q0 ((k3 (k3 K 7 1 (2 * q0) (K 10 1 ((0 : Int32).toNatClampNeg))) 7 1 (2 * q0 + 1) ((k3 K 7 1 (2 * q0) (K 10 1 ((0 : Int32).toNatClampNeg))) 10 1 ((1 : Int32).toNatClampNeg))) 10 1 ((2 : Int32).toNatClampNeg))) 10 1 ((3 : Int32).toNatClampNeg))) 10 1) ((k3 (k3 (k3 (k3 K 7 1 (2 * q0) (K 10 1 ((0 : Int32).toNatClampNeg))) 7 1 (2 * q0 + 1) ((k3 K 7 1 (2 * q0) (K 10 1 ((0 : Int32).toNatClampNeg))) 10 1 ((1 : Int32).toNatClampNeg))) 6 4 q0 ((k3 (k3 K 7 1 (2 * q0) (K 10 1 ((0 : Int32).toNatClampNeg))) 7 1 (2 * q0 + 1) ((k3 K 7 1 (2 * q0) (K 10 1 ((0 : Int32).toNatClampNeg))) 10 1 ((1 : Int32).toNatClampNeg))) 10 1 ((2 : Int32).toNatClampNeg))) 6 5 q0 ((k3 (k3 (k3 K 7 1 (2 * q0) (K 10 1 ((0 : Int32).toNatClampNeg))) 7 1 (2 * q0 + 1) ((k3 K 7 1 (2 * q0) (K 10 1 ((0 : Int32).toNatClampNeg))) 10 1 ((1 : Int32).toNatClampNeg))) 6 4 q0 ((k3 (k3 K 7 1 (2 * q0) (K 10 1 ((0 : Int32).toNatClampNeg))) 7 1 (2 * q0 + 1) ((k3 K 7 1 (2 * q0) (K 10 1 ((0 : Int32).toNatClampNeg))) 10 1 ((1 : Int32).toNatClampNeg))) 10 1 ((2 : Int32).toNatClampNeg))) 10 1 ((3 : Int32).toNatClampNeg))) 18 (2 * q0)) ((4 : Int32).toNatClampNeg) ((0 : Int32).toNatClampNeg) ((8 : Int32).toNatClampNeg))) 18 (2 * q0 + 1)) ((12 : Int32).toNatClampNeg) ((0 : Int32).toNatClampNeg) ((8 : Int32).toNatClampNeg))) 10 1 ((20 : Int32).toNatClampNeg))) 17 q0 (va_cpy ((k3 (kr (kr (k3 (k3 (k3 (k3 K 7 1 (2 * q0) (K 10 1 ((0 : Int32).toNatClampNeg))) 7 1 (2 * q0 + 1) ((k3 K 7 1 (2 * q0) (K 10 1 ((0 : Int32).toNatClampNeg))) 10 1 ((1 : Int32).toNatClampNeg))) 6 4 q0 ((k3 (k3 K 7 1 (2 * q0) (K 10 1 ((0 : Int32).toNatClampNeg))) 7 1 (2 * q0 + 1) ((k3 K 7 1 (2 * q0) (K 10 1 ((0 : Int32).toNatClampNeg))) 10 1 ((1 : Int32).toNatClampNeg))) 10 1 ((2 : Int32).toNatClampNeg))) 6 5 q0 ((k3 (k3 (k3 K 7 1 (2 * q0) (K 10 1 ((0 : Int32).toNatClampNeg))) 7 1 (2 * q0 + 1) ((k3 K 7 1 (2 * q0) (K 10 1 ((0 : Int32).toNatClampNeg))) 10 1 ((1 : Int32).toNatClampNeg))) 6 4 q0 ((k3 (k3 K 7 1 (2 * q0) (K 10 1 ((0 : Int32).toNatClampNeg))) 7 1 (2 * q0 + 1) ((k3 K 7 1 (2 * q0) (K 10 1 ((0 : Int32).toNatClampNeg))) 10 1 ((1 : Int32).toNatClampNeg))) 10 1 ((2 : Int32).toNatClampNeg))) 10 1 ((3 : Int32).toNatClampNeg))) 18 (2 * q0) (va_cpy ((k3 (k3 (k3 (k3 K 7 1 (2 * q0) (K 10 1 ((0 : Int32).toNatClampNeg))) 7 1 (2 * q0 + 1) ((k3 K 7 1 (2 * q0) (K 10 1 ((0 : Int32).toNatClampNeg))) 10 1 ((1 : Int32).toNatClampNeg))) 6 4 q0 ((k3 (k3 K 7 1 (2 * q0) (K 10 1 ((0 : Int32).toNatClampNeg))) 7 1 (2 * q0 + 1) ((k3 K 7 1 (2 * q0) (K 10 1 ((0 : Int32).toNatClampNeg))) 10 1 ((1 : Int32).toNatClampNeg))) 10 1 ((2 : Int32).toNatClampNeg))) 6 5 q0 ((k3 (k3 (k3 K 7 1 (2 * q0) (K 10 1 ((0 : Int32).toNatClampNeg))) 7 1 (2 * q0 + 1) ((k3 K 7 1 (2 * q0) (K 10 1 ((0 : Int32).toNatClampNeg))) 10 1 ((1 : Int32).toNatClampNeg))) 6 4 q0 ((k3 (k3 K 7 1 (2 * q0) (K 10 1 ((0 : Int32).toNatClampNeg))) 7 1 (2 * q0 + 1) ((k3 K 7 1 (2 * q0) (K 10 1 ((0 : Int32).toNatClampNeg))) 10 1 ((1 : Int32).toNatClampNeg))) 10 1 ((2 : Int32).toNatClampNeg))) 10 1 ((3 : Int32).toNatClampNeg))) 10 1) ((k3 (k3 (k3 (k3 K 7 1 (2 * q0) (K 10 1 ((0 : Int32).toNatClampNeg))) 7 1 (2 * q0 + 1) ((k3 K 7 1 (2 * q0) (K 10 1 ((0 : Int32).toNatClampNeg))) 10 1 ((1 : Int32).toNatClampNeg))) 6 4 q0 ((k3 (k3 K 7 1 (2 * q0) (K 10 1 ((0 : Int32).toNatClampNeg))) 7 1 (2 * q0 + 1) ((k3 K 7 1 (2 * q0) (K 10 1 ((0 : Int32).toNatClampNeg))) 10 1 ((1 : Int32).toNatClampNeg))) 10 1 ((2 : Int32).toNatClampNeg))) 6 5 q0 ((k3 (k3 (k3 K 7 1 (2 * q0) (K 10 1 ((0 : Int32).toNatClampNeg))) 7 1 (2 * q0 + 1) ((k3 K 7 1 (2 * q0) (K 10 1 ((0 : Int32).toNatClampNeg))) 10 1 ((1 : Int32).toNatClampNeg))) 6 4 q0 ((k3 (k3 K 7 1 (2 * q0) (K 10 1 ((0 : Int32).toNatClampNeg))) 7 1 (2 * q0 + 1) ((k3 K 7 1 (2 * q0) (K 10 1 ((0 : Int32).toNatClampNeg))) 10 1 ((1 : Int32).toNatClampNeg))) 10 1 ((2 : Int32).toNatClampNeg))) 10 1 ((3 : Int32).toNatClampNeg))) 18 (2 * q0)) ((4 : Int32).toNatClampNeg) ((0 : Int32).toNatClampNeg) ((8 : Int32).toNatClampNeg))) 18 (2 * q0 + 1) (va_cpy ((kr (k3 (k3 (k3 (k3 K 7 1 (2 * q0) (K 10 1 ((0 : Int32).toNatClampNeg))) 7 1 (2 * q0 + 1) ((k3 K 7 1 (2 * q0) (K 10 1 ((0 : Int32).toNatClampNeg))) 10 1 ((1 : Int32).toNatClampNeg))) 6 4 q0 ((k3 (k3 K 7 1 (2 * q0) (K 10 1 ((0 : Int32).toNatClampNeg))) 7 1 (2 * q0 + 1) ((k3 K 7 1 (2 * q0) (K 10 1 ((0 : Int32).toNatClampNeg))) 10 1 ((1 : Int32).toNatClampNeg))) 10 1 ((2 : Int32).toNatClampNeg))) 6 5 q0 ((k3 (k3 (k3 K 7 1 (2 * q0) (K 10 1 ((0 : Int32).toNatClampNeg))) 7 1 (2 * q0 + 1) ((k3 K 7 1 (2 * q0) (K 10 1 ((0 : Int32).toNatClampNeg))) 10 1 ((1 : Int32).toNatClampNeg))) 6 4 q0 ((k3 (k3 K 7 1 (2 * q0) (K 10 1 ((0 : Int32).toNatClampNeg))) 7 1 (2 * q0 + 1) ((k3 K 7 1 (2 * q0) (K 10 1 ((0 : Int32).toNatClampNeg))) 10 1 ((1 : Int32).toNatClampNeg))) 10 1 ((2 : Int32).toNatClampNeg))) 10 1 ((3 : Int32).toNatClampNeg))) 18 (2 * q0) (va_cpy ((k3 (k3 (k3 (k3 K 7 1 (2 * q0) (K 10 1 ((0 : Int32).toNatClampNeg))) 7 1 (2 * q0 + 1) ((k3 K 7 1 (2 * q0) (K 10 1 ((0 : Int32).toNatClampNeg))) 10 1 ((1 : Int32).toNatClampNeg))) 6 4 q0 ((k3 (k3 K 7 1 (2 * q0) (K 10 1 ((0 : Int32).toNatClampNeg))) 7 1 (2 * q0 + 1) ((k3 K 7 1 (2 * q0) (K 10 1 ((0 : Int32).toNatClampNeg))) 10 1 ((1 : Int32).toNatClampNeg))) 10 1 ((2 : Int32).toNatClampNeg))) 6 5 q0 ((k3 (k3 (k3 K 7 1 (2 * q0) (K 10 1 ((0 : Int32).toNatClampNeg))) 7 1 (2 * q0 + 1) ((k3 K 7 1 (2 * q0) (K 10 1 ((0 : Int32).toNatClampNeg))) 10 1 ((1 : Int32).toNatClampNeg))) 6 4 q0 ((k3 (k3 K 7 1 (2 * q0) (K 10 1 ((0 : Int32).toNatClampNeg))) 7 1 (2 * q0 + 1) ((k3 K 7 1 (2 * q0) (K 10 1 ((0 : Int32).toNatClampNeg))) 10 1 ((1 : Int32).toNatClampNeg))) 10 1 ((2 : Int32).toNatClampNeg))) 10 1 ((3 : Int32).toNatClampNeg))) 10 1) ((k3 (k3 (k3 (k3 K 7 1 (2 * q0) (K 10 1 ((0 : Int32).toNatClampNeg))) 7 1 (2 * q0 + 1) ((k3 K 7 1 (2 * q0) (K 10 1 ((0 : Int32).toNatClampNeg))) 10 1 ((1 : Int32).toNatClampNeg))) 6 4 q0 ((k3 (k3 K 7 1 (2 * q0) (K 10 1 ((0 : Int32).toNatClampNeg))) 7 1 (2 * q0 + 1) ((k3 K 7 1 (2 * q0) (K 10 1 ((0 : Int32).toNatClampNeg))) 10 1 ((1 : Int32).toNatClampNeg))) 10 1 ((2 : Int32).toNatClampNeg))) 6 5 q0 ((k3 (k3 (k3 K 7 1 (2 * q0) (K 10 1 ((0 : Int32).toNatClampNeg))) 7 1 (2 * q0 + 1) ((k3 K 7 1 (2 * q0) (K 10 1 ((0 : Int32).toNatClampNeg))) 10 1 ((1 : Int32).toNatClampNeg))) 6 4 q0 ((k3 (k3 K 7 1 (2 * q0) (K 10 1 ((0 : Int32).toNatClampNeg))) 7 1 (2 * q0 + 1) ((k3 K 7 1 (2 * q0) (K 10 1 ((0 : Int32).toNatClampNeg))) 10 1 ((1 : Int32).toNatClampNeg))) 10 1 ((2 : Int32).toNatClampNeg))) 10 1 ((3 : Int32).toNatClampNeg))) 18 (2 * q0)) ((4 : Int32).toNatClampNeg) ((0 : Int32).toNatClampNeg) ((8 : Int32).toNatClampNeg))) 10 1) ((kr (k3 (k3 (k3 (k3 K 7 1 (2 * q0) (K 10 1 ((0 : Int32).toNatClampNeg))) 7 1 (2 * q0 + 1) ((k3 K 7 1 (2 * q0) (K 10 1 ((0 : Int32).toNatClampNeg))) 10 1 ((1 : Int32).toNatClampNeg))) 6 4 q0 ((k3 (k3 K 7 1 (2 * q0) (K 10 1 ((0 : Int32).toNatClampNeg))) 7 1 (2 * q0 + 1) ((k3 K 7 1 (2 * q0) (K 10 1 ((0 : Int32).toNatClampNeg))) 10 1 ((1 : Int32).toNatClampNeg))) 10 1 ((2 : Int32).toNatClampNeg))) 6 5 q0 ((k3 (k3 (k3 K 7 1 (2 * q0) (K 10 1 ((0 : Int32).toNatClampNeg))) 7 1 (2 * q0 + 1) ((k3 K 7 1 (2 * q0) (K 10 1 ((0 : Int32).toNatClampNeg))) 10 1 ((1 : Int32).toNatClampNeg))) 6 4 q0 ((k3 (k3 K 7 1 (2 * q0) (K 10 1 ((0 : Int32).toNatClampNeg))) 7 1 (2 * q0 + 1) ((k3 K 7 1 (2 * q0) (K 10 1 ((0 : Int32).toNatClampNeg))) 10 1 ((1 : Int32).toNatClampNeg))) 10 1 ((2 : Int32).toNatClampNeg))) 10 1 ((3 : Int32).toNatClampNeg))) 18 (2 * q0) (va_cpy ((k3 (k3 (k3 (k3 K 7 1 (2 * q0) (K 10 1 ((0 : Int32).toNatClampNeg))) 7 1 (2 * q0 + 1) ((k3 K 7 1 (2 * q0) (K 10 1 ((0 : Int32).toNatClampNeg))) 10 1 ((1 : Int32).toNatClampNeg))) 6 4 q0 ((k3 (k3 K 7 1 (2 * q0) (K 10 1 ((0 : Int32).toNatClampNeg))) 7 1 (2 * q0 + 1) ((k3 K 7 1 (2 * q0) (K 10 1 ((0 : Int32).toNatClampNeg))) 10 1 ((1 : Int32).toNatClampNeg))) 10 1 ((2 : Int32).toNatClampNeg))) 6 5 q0 ((k3 (k3 (k3 K 7 1 (2 * q0) (K 10 1 ((0 : Int32).toNatClampNeg))) 7 1 (2 * q0 + 1) ((k3 K 7 1 (2 * q0) (K 10 1 ((0 : Int32).toNatClampNeg))) 10 1 ((1 : Int32).toNatClampNeg))) 6 4 q0 ((k3 (k3 K 7 1 (2 * q0) (K 10 1 ((0 : Int32).toNatClampNeg))) 7 1 (2 * q0 + 1) ((k3 K 7 1 (2 * q0) (K 10 1 ((0 : Int32).toNatClampNeg))) 10 1 ((1 : Int32).toNatClampNeg))) 10 1 ((2 : Int32).toNatClampNeg))) 10 1 ((3 : Int32).toNatClampNeg))) 10 1) ((k3 (k3 (k3 (k3 K 7 1 (2 * q0) (K 10 1 ((0 : Int32).toNatClampNeg))) 7 1 (2 * q0 + 1) ((k3 K 7 1 (2 * q0) (K 10 1 ((0 : Int32).toNatClampNeg))) 10 1 ((1 : Int32).toNatClampNeg))) 6 4 q0 ((k3 (k3 K 7 1 (2 * q0) (K 10 1 ((0 : Int32).toNatClampNeg))) 7 1 (2 * q0 + 1) ((k3 K 7 1 (2 * q0) (K 10 1 ((0 : Int32).toNatClampNeg))) 10 1 ((1 : Int32).toNatClampNeg))) 10 1 ((2 : Int32).toNatClampNeg))) 6 5 q0 ((k3 (k3 (k3 K 7 1 (2 * q0) (K 10 1 ((0 : Int32).toNatClampNeg))) 7 1 (2 * q0 + 1) ((k3 K 7 1 (2 * q0) (K 10 1 ((0 : Int32).toNatClampNeg))) 10 1 ((1 : Int32).toNatClampNeg))) 6 4 q0 ((k3 (k3 K 7 1 (2 * q0) (K 10 1 ((0 : Int32).toNatClampNeg))) 7 1 (2 * q0 + 1) ((k3 K 7 1 (2 * q0) (K 10 1 ((0 : Int32).toNatClampNeg))) 10 1 ((1 : Int32).toNatClampNeg))) 10 1 ((2 : Int32).toNatClampNeg))) 10 1 ((3 : Int32).toNatClampNeg))) 18 (2 * q0)) ((4 : Int32).toNatClampNeg) ((0 : Int32).toNatClampNeg) ((8 : Int32).toNatClampNeg))) 18 (2 * q0 + 1)) ((12 : Int32).toNatClampNeg) ((0 : Int32).toNatClampNeg) ((8 : Int32).toNatClampNeg))) 6 7 q0 ((kr (kr (k3 (k3 (k3 (k3 K 7 1 (2 * q0) (K 10 1 ((0 : Int32).toNatClampNeg))) 7 1 (2 * q0 + 1) ((k3 K 7 1 (2 * q0) (K 10 1 ((0 : Int32).toNatClampNeg))) 10 1 ((1 : Int32).toNatClampNeg))) 6 4 q0 ((k3 (k3 K 7 1 (2 * q0) (K 10 1 ((0 : Int32).toNatClampNeg))) 7 1 (2 * q0 + 1) ((k3 K 7 1 (2 * q0) (K 10 1 ((0 : Int32).toNatClampNeg))) 10 1 ((1 : Int32).toNatClampNeg))) 10 1 ((2 : Int32).toNatClampNeg))) 6 5 q0 ((k3 (k3 (k3 K 7 1 (2 * q0) (K 10 1 ((0 : Int32).toNatClampNeg))) 7 1 (2 * q0 + 1) ((k3 K 7 1 (2 * q0) (K 10 1 ((0 : Int32).toNatClampNeg))) 10 1 ((1 : Int32).toNatClampNeg))) 6 4 q0 ((k3 (k3 K 7 1 (2 * q0) (K 10 1 ((0 : Int32).toNatClampNeg))) 7 1 (2 * q0 + 1) ((k3 K 7 1 (2 * q0) (K 10 1 ((0 : Int32).toNatClampNeg))) 10 1 ((1 : Int32).toNatClampNeg))) 10 1 ((2 : Int32).toNatClampNeg))) 10 1 ((3 : Int32).toNatClampNeg))) 18 (2 * q0) (va_cpy ((k3 (k3 (k3 (k3 K 7 1 (2 * q0) (K 10 1 ((0 : Int32).toNatClampNeg))) 7 1 (2 * q0 + 1) ((k3 K 7 1 (2 * q0) (K 10 1 ((0 : Int32).toNatClampNeg))) 10 1 ((1 : Int32).toNatClampNeg))) 6 4 q0 ((k3 (k3 K 7 1 (2 * q0) (K 10 1 ((0 : Int32).toNatClampNeg))) 7 1 (2 * q0 + 1) ((k3 K 7 1 (2 * q0) (K 10 1 ((0 : Int32).toNatClampNeg))) 10 1 ((1 : Int32).toNatClampNeg))) 10 1 ((2 : Int32).toNatClampNeg))) 6 5 q0 ((k3 (k3 (k3 K 7 1 (2 * q0) (K 10 1 ((0 : Int32).toNatClampNeg))) 7 1 (2 * q0 + 1) ((k3 K 7 1 (2 * q0) (K 10 1 ((0 : Int32).toNatClampNeg))) 10 1 ((1 : Int32).toNatClampNeg))) 6 4 q0 ((k3 (k3 K 7 1 (2 * q0) (K 10 1 ((0 : Int32).toNatClampNeg))) 7 1 (2 * q0 + 1) ((k3 K 7 1 (2 * q0) (K 10 1 ((0 : Int32).toNatClampNeg))) 10 1 ((1 : Int32).toNatClampNeg))) 10 1 ((2 : Int32).toNatClampNeg))) 10 1 ((3 : Int32).toNatClampNeg))) 10 1) ((k3 (k3 (k3 (k3 K 7 1 (2 * q0) (K 10 1 ((0 : Int32).toNatClampNeg))) 7 1 (2 * q0 + 1) ((k3 K 7 1 (2 * q0) (K 10 1 ((0 : Int32).toNatClampNeg))) 10 1 ((1 : Int32).toNatClampNeg))) 6 4 q0 ((k3 (k3 K 7 1 (2 * q0) (K 10 1 ((0 : Int32).toNatClampNeg))) 7 1 (2 * q0 + 1) ((k3 K 7 1 (2 * q0) (K 10 1 ((0 : Int32).toNatClampNeg))) 10 1 ((1 : Int32).toNatClampNeg))) 10 1 ((2 : Int32).toNatClampNeg))) 6 5 q0 ((k3 (k3 (k3 K 7 1 (2 * q0) (K 10 1 ((0 : Int32).toNatClampNeg))) 7 1 (2 * q0 + 1) ((k3 K 7 1 (2 * q0) (K 10 1 ((0 : Int32).toNatClampNeg))) 10 1 ((1 : Int32).toNatClampNeg))) 6 4 q0 ((k3 (k3 K 7 1 (2 * q0) (K 10 1 ((0 : Int32).toNatClampNeg))) 7 1 (2 * q0 + 1) ((k3 K 7 1 (2 * q0) (K 10 1 ((0 : Int32).toNatClampNeg))) 10 1 ((1 : Int32).toNatClampNeg))) 10 1 ((2 : Int32).toNatClampNeg))) 10 1 ((3 : Int32).toNatClampNeg))) 18 (2 * q0)) ((4 : Int32).toNatClampNeg) ((0 : Int32).toNatClampNeg) ((8 : Int32).toNatClampNeg))) 18 (2 * q0 + 1) (va_cpy ((kr (k3 (k3 (k3 (k3 K 7 1 (2 * q0) (K 10 1 ((0 : Int32).toNatClampNeg))) 7 1 (2 * q0 + 1) ((k3 K 7 1 (2 * q0) (K 10 1 ((0 : Int32).toNatClampNeg))) 10 1 ((1 : Int32).toNatClampNeg))) 6 4 q0 ((k3 (k3 K 7 1 (2 * q0) (K 10 1 ((0 : Int32).toNatClampNeg))) 7 1 (2 * q0 + 1) ((k3 K 7 1 (2 * q0) (K 10 1 ((0 : Int32).toNatClampNeg))) 10 1 ((1 : Int32).toNatClampNeg))) 10 1 ((2 : Int32).toNatClampNeg))) 6 5 q0 ((k3 (k3 (k3 K 7 1 (2 * q0) (K 10 1 ((0 : Int32).toNatClampNeg))) 7 1 (2 * q0 + 1) ((k3 K 7 1 (2 * q0) (K 10 1 ((0 : Int32).toNatClampNeg))) 10 1 ((1 : Int32).toNatClampNeg))) 6 4 q0 ((k3 (k3 K 7 1 (2 * q0) (K 10 1 ((0 : Int32).toNatClampNeg))) 7 1 (2 * q0 + 1) ((k3 K 7 1 (2 * q0) (K 10 1 ((0 : Int32).toNatClampNeg))) 10 1 ((1 : Int32).toNatClampNeg))) 10 1 ((2 : Int32).toNatClampNeg))) 10 1 ((3 : Int32).toNatClampNeg))) 18 (2 * q0) (va_cpy ((k3 (k3 (k3 (k3 K 7 1 (2 * q0) (K 10 1 ((0 : Int32).toNatClampNeg))) 7 1 (2 * q0 + 1) ((k3 K 7 1 (2 * q0) (K 10 1 ((0 : Int32).toNatClampNeg))) 10 1 ((1 : Int32).toNatClampNeg))) 6 4 q0 ((k3 (k3 K 7 1 (2 * q0) (K 10 1 ((0 : Int32).toNatClampNeg))) 7 1 (2 * q0 + 1) ((k3 K 7 1 (2 * q0) (K 10 1 ((0 : Int32).toNatClampNeg))) 10 1 ((1 : Int32).toNatClampNeg))) 10 1 ((2 : Int32).toNatClampNeg))) 6 5 q0 ((k3 (k3 (k3 K 7 1 (2 * q0) (K 10 1 ((0 : Int32).toNatClampNeg))) 7 1 (2 * q0 + 1) ((k3 K 7 1 (2 * q0) (K 10 1 ((0 : Int32).toNatClampNeg))) 10 1 ((1 : Int32).toNatClampNeg))) 6 4 q0 ((k3 (k3 K 7 1 (2 * q0) (K 10 1 ((0 : Int32).toNatClampNeg))) 7 1 (2 * q0 + 1) ((k3 K 7 1 (2 * q0) (K 10 1 ((0 : Int32).toNatClampNeg))) 10 1 ((1 : Int32).toNatClampNeg))) 10 1 ((2 : Int32).toNatClampNeg))) 10 1 ((3 : Int32).toNatClampNeg))) 10 1) ((k3 (k3 (k3 (k3 K 7 1 (2 * q0) (K 10 1 ((0 : Int32).toNatClampNeg))) 7 1 (2 * q0 + 1) ((k3 K 7 1 (2 * q0) (K 10 1 ((0 : Int32).toNatClampNeg))) 10 1 ((1 : Int32).toNatClampNeg))) 6 4 q0 ((k3 (k3 K 7 1 (2 * q0) (K 10 1 ((0 : Int32).toNatClampNeg))) 7 1 (2 * q0 + 1) ((k3 K 7 1 (2 * q0) (K 10 1 ((0 : Int32).toNatClampNeg))) 10 1 ((1 : Int32).toNatClampNeg))) 10 1 ((2 : Int32).toNatClampNeg))) 6 5 q0 ((k3 (k3 (k3 K 7 1 (2 * q0) (K 10 1 ((0 : Int32).toNatClampNeg))) 7 1 (2 * q0 + 1) ((k3 K 7 1 (2 * q0) (K 10 1 ((0 : Int32).toNatClampNeg))) 10 1 ((1 : Int32).toNatClampNeg))) 6 4 q0 ((k3 (k3 K 7 1 (2 * q0) (K 10 1 ((0 : Int32).toNatClampNeg))) 7 1 (2 * q0 + 1) ((k3 K 7 1 (2 * q0) (K 10 1 ((0 : Int32).toNatClampNeg))) 10 1 ((1 : Int32).toNatClampNeg))) 10 1 ((2 : Int32).toNatClampNeg))) 10 1 ((3 : Int32).toNatClampNeg))) 18 (2 * q0)) ((4 : Int32).toNatClampNeg) ((0 : Int32).toNatClampNeg) ((8 : Int32).toNatClampNeg))) 10 1) ((kr (k3 (k3 (k3 (k3 K 7 1 (2 * q0) (K 10 1 ((0 : Int32).toNatClampNeg))) 7 1 (2 * q0 + 1) ((k3 K 7 1 (2 * q0) (K 10 1 ((0 : Int32).toNatClampNeg))) 10 1 ((1 : Int32).toNatClampNeg))) 6 4 q0 ((k3 (k3 K 7 1 (2 * q0) (K 10 1 ((0 : Int32).toNatClampNeg))) 7 1 (2 * q0 + 1) ((k3 K 7 1 (2 * q0) (K 10 1 ((0 : Int32).toNatClampNeg))) 10 1 ((1 : Int32).toNatClampNeg))) 10 1 ((2 : Int32).toNatClampNeg))) 6 5 q0 ((k3 (k3 (k3 K 7 1 (2 * q0) (K 10 1 ((0 : Int32).toNatClampNeg))) 7 1 (2 * q0 + 1) ((k3 K 7 1 (2 * q0) (K 10 1 ((0 : Int32).toNatClampNeg))) 10 1 ((1 : Int32).toNatClampNeg))) 6 4 q0 ((k3 (k3 K 7 1 (2 * q0) (K 10 1 ((0 : Int32).toNatClampNeg))) 7 1 (2 * q0 + 1) ((k3 K 7 1 (2 * q0) (K 10 1 ((0 : Int32).toNatClampNeg))) 10 1 ((1 : Int32).toNatClampNeg))) 10 1 ((2 : Int32).toNatClampNeg))) 10 1 ((3 : Int32).toNatClampNeg))) 18 (2 * q0) (va_cpy ((k3 (k3 (k3 (k3 K 7 1 (2 * q0) (K 10 1 ((0 : Int32).toNatClampNeg))) 7 1 (2 * q0 + 1) ((k3 K 7 1 (2 * q0) (K 10 1 ((0 : Int32).toNatClampNeg))) 10 1 ((1 : Int32).toNatClampNeg))) 6 4 q0 ((k3 (k3 K 7 1 (2 * q0) (K 10 1 ((0 : Int32).toNatClampNeg))) 7 1 (2 * q0 + 1) ((k3 K 7 1 (2 * q0) (K 10 1 ((0 : Int32).toNatClampNeg))) 10 1 ((1 : Int32).toNatClampNeg))) 10 1 ((2 : Int32).toNatClampNeg))) 6 5 q0 ((k3 (k3 (k3 K 7 1 (2 * q0) (K 10 1 ((0 : Int32).toNatClampNeg))) 7 1 (2 * q0 + 1) ((k3 K 7 1 (2 * q0) (K 10 1 ((0 : Int32).toNatClampNeg))) 10 1 ((1 : Int32).toNatClampNeg))) 6 4 q0 ((k3 (k3 K 7 1 (2 * q0) (K 10 1 ((0 : Int32).toNatClampNeg))) 7 1 (2 * q0 + 1) ((k3 K 7 1 (2 * q0) (K 10 1 ((0 : Int32).toNatClampNeg))) 10 1 ((1 : Int32).toNatClampNeg))) 10 1 ((2 : Int32).toNatClampNeg))) 10 1 ((3 : Int32).toNatClampNeg))) 10 1) ((k3 (k3 (k3 (k3 K 7 1 (2 * q0) (K 10 1 ((0 : Int32).toNatClampNeg))) 7 1 (2 * q0 + 1) ((k3 K 7 1 (2 * q0) (K 10 1 ((0 : Int32).toNatClampNeg))) 10 1 ((1 : Int32).toNatClampNeg))) 6 4 q0 ((k3 (k3 K 7 1 (2 * q0) (K 10 1 ((0 : Int32).toNatClampNeg))) 7 1 (2 * q0 + 1) ((k3 K 7 1 (2 * q0) (K 10 1 ((0 : Int32).toNatClampNeg))) 10 1 ((1 : Int32).toNatClampNeg))) 10 1 ((2 : Int32).toNatClampNeg))) 6 5 q0 ((k3 (k3 (k3 K 7 1 (2 * q0) (K 10 1 ((0 : Int32).toNatClampNeg))) 7 1 (2 * q0 + 1) ((k3 K 7 1 (2 * q0) (K 10 1 ((0 : Int32).toNatClampNeg))) 10 1 ((1 : Int32).toNatClampNeg))) 6 4 q0 ((k3 (k3 K 7 1 (2 * q0) (K 10 1 ((0 : Int32).toNatClampNeg))) 7 1 (2 * q0 + 1) ((k3 K 7 1 (2 * q0) (K 10 1 ((0 : Int32).toNatClampNeg))) 10 1 ((1 : Int32).toNatClampNeg))) 10 1 ((2 : Int32).toNatClampNeg))) 10 1 ((3 : Int32).toNatClampNeg))) 18 (2 * q0)) ((4 : Int32).toNatClampNeg) ((0 : Int32).toNatClampNeg) ((8 : Int32).toNatClampNeg))) 18 (2 * q0 + 1)) ((12 : Int32).toNatClampNeg) ((0 : Int32).toNatClampNeg) ((8 : Int32).toNatClampNeg))) 10 1 ((20 : Int32).toNatClampNeg))) 20 (6 * q0 + p1.toNatClampNeg)) ((k3 (kr (kr (k3 (k3 (k3 (k3 K 7 1 (2 * q0) (K 10 1 ((0 : Int32).toNatClampNeg))) 7 1 (2 * q0 + 1) ((k3 K 7 1 (2 * q0) (K 10 1 ((0 : Int32).toNatClampNeg))) 10 1 ((1 : Int32).toNatClampNeg))) 6 4 q0 ((k3 (k3 K 7 1 (2 * q0) (K 10 1 ((0 : Int32).toNatClampNeg))) 7 1 (2 * q0 + 1) ((k3 K 7 1 (2 * q0) (K 10 1 ((0 : Int32).toNatClampNeg))) 10 1 ((1 : Int32).toNatClampNeg))) 10 1 ((2 : Int32).toNatClampNeg))) 6 5 q0 ((k3 (k3 (k3 K 7 1 (2 * q0) (K 10 1 ((0 : Int32).toNatClampNeg))) 7 1 (2 * q0 + 1) ((k3 K 7 1 (2 * q0) (K 10 1 ((0 : Int32).toNatClampNeg))) 10 1 ((1 : Int32).toNatClampNeg))) 6 4 q0 ((k3 (k3 K 7 1 (2 * q0) (K 10 1 ((0 : Int32).toNatClampNeg))) 7 1 (2 * q0 + 1) ((k3 K 7 1 (2 * q0) (K 10 1 ((0 : Int32).toNatClampNeg))) 10 1 ((1 : Int32).toNatClampNeg))) 10 1 ((2 : Int32).toNatClampNeg))) 10 1 ((3 : Int32).toNatClampNeg))) 18 (2 * q0) (va_cpy ((k3 (k3 (k3 (k3 K 7 1 (2 * q0) (K 10 1 ((0 : Int32).toNatClampNeg))) 7 1 (2 * q0 + 1) ((k3 K 7 1 (2 * q0) (K 10 1 ((0 : Int32).toNatClampNeg))) 10 1 ((1 : Int32).toNatClampNeg))) 6 4 q0 ((k3 (k3 K 7 1 (2 * q0) (K 10 1 ((0 : Int32).toNatClampNeg))) 7 1 (2 * q0 + 1) ((k3 K 7 1 (2 * q0) (K 10 1 ((0 : Int32).toNatClampNeg))) 10 1 ((1 : Int32).toNatClampNeg))) 10 1 ((2 : Int32).toNatClampNeg))) 6 5 q0 ((k3 (k3 (k3 K 7 1 (2 * q0) (K 10 1 ((0 : Int32).toNatClampNeg))) 7 1 (2 * q0 + 1) ((k3 K 7 1 (2 * q0) (K 10 1 ((0 : Int32).toNatClampNeg))) 10 1 ((1 : Int32).toNatClampNeg))) 6 4 q0 ((k3 (k3 K 7 1 (2 * q0) (K 10 1 ((0 : Int32).toNatClampNeg))) 7 1 (2 * q0 + 1) ((k3 K 7 1 (2 * q0) (K 10 1 ((0 : Int32).toNatClampNeg))) 10 1 ((1 : Int32).toNatClampNeg))) 10 1 ((2 : Int32).toNatClampNeg))) 10 1 ((3 : Int32).toNatClampNeg))) 10 1) ((k3 (k3 (k3 (k3 K 7 1 (2 * q0) (K 10 1 ((0 : Int32).toNatClampNeg))) 7 1 (2 * q0 + 1) ((k3 K 7 1 (2 * q0) (K 10 1 ((0 : Int32).toNatClampNeg))) 10 1 ((1 : Int32).toNatClampNeg))) 6 4 q0 ((k3 (k3 K 7 1 (2 * q0) (K 10 1 ((0 : Int32).toNatClampNeg))) 7 1 (2 * q0 + 1) ((k3 K 7 1 (2 * q0) (K 10 1 ((0 : Int32).toNatClampNeg))) 10 1 ((1 : Int32).toNatClampNeg))) 10 1 ((2 : Int32).toNatClampNeg))) 6 5 q0 ((k3 (k3 (k3 K 7 1 (2 * q0) (K 10 1 ((0 : Int32).toNatClampNeg))) 7 1 (2 * q0 + 1) ((k3 K 7 1 (2 * q0) (K 10 1 ((0 : Int32).toNatClampNeg))) 10 1 ((1 : Int32).toNatClampNeg))) 6 4 q0 ((k3 (k3 K 7 1 (2 * q0) (K 10 1 ((0 : Int32).toNatClampNeg))) 7 1 (2 * q0 + 1) ((k3 K 7 1 (2 * q0) (K 10 1 ((0 : Int32).toNatClampNeg))) 10 1 ((1 : Int32).toNatClampNeg))) 10 1 ((2 : Int32).toNatClampNeg))) 10 1 ((3 : Int32).toNatClampNeg))) 18 (2 * q0)) ((4 : Int32).toNatClampNeg) ((0 : Int32).toNatClampNeg) ((8 : Int32).toNatClampNeg))) 18 (2 * q0 + 1) (va_cpy ((kr (k3 (k3 (k3 (k3 K 7 1 (2 * q0) (K 10 1 ((0 : Int32).toNatClampNeg))) 7 1 (2 * q0 + 1) ((k3 K 7 1 (2 * q0) (K 10 1 ((0 : Int32).toNatClampNeg))) 10 1 ((1 : Int32).toNatClampNeg))) 6 4 q0 ((k3 (k3 K 7 1 (2 * q0) (K 10 1 ((0 : Int32).toNatClampNeg))) 7 1 (2 * q0 + 1) ((k3 K 7 1 (2 * q0) (K 10 1 ((0 : Int32).toNatClampNeg))) 10 1 ((1 : Int32).toNatClampNeg))) 10 1 ((2 : Int32).toNatClampNeg))) 6 5 q0 ((k3 (k3 (k3 K 7 1 (2 * q0) (K 10 1 ((0 : Int32).toNatClampNeg))) 7 1 (2 * q0 + 1) ((k3 K 7 1 (2 * q0) (K 10 1 ((0 : Int32).toNatClampNeg))) 10 1 ((1 : Int32).toNatClampNeg))) 6 4 q0 ((k3 (k3 K 7 1 (2 * q0) (K 10 1 ((0 : Int32).toNatClampNeg))) 7 1 (2 * q0 + 1) ((k3 K 7 1 (2 * q0) (K 10 1 ((0 : Int32).toNatClampNeg))) 10 1 ((1 : Int32).toNatClampNeg))) 10 1 ((2 : Int32).toNatClampNeg))) 10 1 ((3 : Int32).toNatClampNeg))) 18 (2 * q0) (va_cpy ((k3 (k3 (k3 (k3 K 7 1 (2 * q0) (K 10 1 ((0 : Int32).toNatClampNeg))) 7 1 (2 * q0 + 1) ((k3 K 7 1 (2 * q0) (K 10 1 ((0 : Int32).toNatClampNeg))) 10 1 ((1 : Int32).toNatClampNeg))) 6 4 q0 ((k3 (k3 K 7 1 (2 * q0) (K 10 1 ((0 : Int32).toNatClampNeg))) 7 1 (2 * q0 + 1) ((k3 K 7 1 (2 * q0) (K 10 1 ((0 : Int32).toNatClampNeg))) 10 1 ((1 : Int32).toNatClampNeg))) 10 1 ((2 : Int32).toNatClampNeg))) 6 5 q0 ((k3 (k3 (k3 K 7 1 (2 * q0) (K 10 1 ((0 : Int32).toNatClampNeg))) 7 1 (2 * q0 + 1) ((k3 K 7 1 (2 * q0) (K 10 1 ((0 : Int32).toNatClampNeg))) 10 1 ((1 : Int32).toNatClampNeg))) 6 4 q0 ((k3 (k3 K 7 1 (2 * q0) (K 10 1 ((0 : Int32).toNatClampNeg))) 7 1 (2 * q0 + 1) ((k3 K 7 1 (2 * q0) (K 10 1 ((0 : Int32).toNatClampNeg))) 10 1 ((1 : Int32).toNatClampNeg))) 10 1 ((2 : Int32).toNatClampNeg))) 10 1 ((3 : Int32).toNatClampNeg))) 10 1) ((k3 (k3 (k3 (k3 K 7 1 (2 * q0) (K 10 1 ((0 : Int32).toNatClampNeg))) 7 1 (2 * q0 + 1) ((k3 K 7 1 (2 * q0) (K 10 1 ((0 : Int32).toNatClampNeg))) 10 1 ((1 : Int32).toNatClampNeg))) 6 4 q0 ((k3 (k3 K 7 1 (2 * q0) (K 10 1 ((0 : Int32).toNatClampNeg))) 7 1 (2 * q0 + 1) ((k3 K 7 1 (2 * q0) (K 10 1 ((0 : Int32).toNatClampNeg))) 10 1 ((1 : Int32).toNatClampNeg))) 10 1 ((2 : Int32).toNatClampNeg))) 6 5 q0 ((k3 (k3 (k3 K 7 1 (2 * q0) (K 10 1 ((0 : Int32).toNatClampNeg))) 7 1 (2 * q0 + 1) ((k3 K 7 1 (2 * q0) (K 10 1 ((0 : Int32).toNatClampNeg))) 10 1 ((1 : Int32).toNatClampNeg))) 6 4 q0 ((k3 (k3 K 7 1 (2 * q0) (K 10 1 ((0 : Int32).toNatClampNeg))) 7 1 (2 * q0 + 1) ((k3 K 7 1 (2 * q0) (K 10 1 ((0 : Int32).toNatClampNeg))) 10 1 ((1 : Int32).toNatClampNeg))) 10 1 ((2 : Int32).toNatClampNeg))) 10 1 ((3 : Int32).toNatClampNeg))) 18 (2 * q0)) ((4 : Int32).toNatClampNeg) ((0 : Int32).toNatClampNeg) ((8 : Int32).toNatClampNeg))) 10 1) ((kr (k3 (k3 (k3 (k3 K 7 1 (2 * q0) (K 10 1 ((0 : Int32).toNatClampNeg))) 7 1 (2 * q0 + 1) ((k3 K 7 1 (2 * q0) (K 10 1 ((0 : Int32).toNatClampNeg))) 10 1 ((1 : Int32).toNatClampNeg))) 6 4 q0 ((k3 (k3 K 7 1 (2 * q0) (K 10 1 ((0 : Int32).toNatClampNeg))) 7 1 (2 * q0 + 1) ((k3 K 7 1 (2 * q0) (K 10 1 ((0 : Int32).toNatClampNeg))) 10 1 ((1 : Int32).toNatClampNeg))) 10 1 ((2 : Int32).toNatClampNeg))) 6 5 q0 ((k3 (k3 (k3 K 7 1 (2 * q0) (K 10 1 ((0 : Int32).toNatClampNeg))) 7 1 (2 * q0 + 1) ((k3 K 7 1 (2 * q0) (K 10 1 ((0 : Int32).toNatClampNeg))) 10 1 ((1 : Int32).toNatClampNeg))) 6 4 q0 ((k3 (k3 K 7 1 (2 * q0) (K 10 1 ((0 : Int32).toNatClampNeg))) 7 1 (2 * q0 + 1) ((k3 K 7 1 (2 * q0) (K 10 1 ((0 : Int32).toNatClampNeg))) 10 1 ((1 : Int32).toNatClampNeg))) 10 1 ((2 : Int32).toNatClampNeg))) 10 1 ((3 : Int32).toNatClampNeg))) 18 (2 * q0) (va_cpy ((k3 (k3 (k3 (k3 K 7 1 (2 * q0) (K 10 1 ((0 : Int32).toNatClampNeg))) 7 1 (2 * q0 + 1) ((k3 K 7 1 (2 * q0) (K 10 1 ((0 : Int32).toNatClampNeg))) 10 1 ((1 : Int32).toNatClampNeg))) 6 4 q0 ((k3 (k3 K 7 1 (2 * q0) (K 10 1 ((0 : Int32).toNatClampNeg))) 7 1 (2 * q0 + 1) ((k3 K 7 1 (2 * q0) (K 10 1 ((0 : Int32).toNatClampNeg))) 10 1 ((1 : Int32).toNatClampNeg))) 10 1 ((2 : Int32).toNatClampNeg))) 6 5 q0 ((k3 (k3 (k3 K 7 1 (2 * q0) (K 10 1 ((0 : Int32).toNatClampNeg))) 7 1 (2 * q0 + 1) ((k3 K 7 1 (2 * q0) (K 10 1 ((0 : Int32).toNatClampNeg))) 10 1 ((1 : Int32).toNatClampNeg))) 6 4 q0 ((k3 (k3 K 7 1 (2 * q0) (K 10 1 ((0 : Int32).toNatClampNeg))) 7 1 (2 * q0 + 1) ((k3 K 7 1 (2 * q0) (K 10 1 ((0 : Int32).toNatClampNeg))) 10 1 ((1 : Int32).toNatClampNeg))) 10 1 ((2 : Int32).toNatClampNeg))) 10 1 ((3 : Int32).toNatClampNeg))) 10 1) ((k3 (k3 (k3 (k3 K 7 1 (2 * q0) (K 10 1 ((0 : Int32).toNatClampNeg))) 7 1 (2 * q0 + 1) ((k3 K 7 1 (2 * q0) (K 10 1 ((0 : Int32).toNatClampNeg))) 10 1 ((1 : Int32).toNatClampNeg))) 6 4 q0 ((k3 (k3 K 7 1 (2 * q0) (K 10 1 ((0 : Int32).toNatClampNeg))) 7 1 (2 * q0 + 1) ((k3 K 7 1 (2 * q0) (K 10 1 ((0 : Int32).toNatClampNeg))) 10 1 ((1 : Int32).toNatClampNeg))) 10 1 ((2 : Int32).toNatClampNeg))) 6 5 q0 ((k3 (k3 (k3 K 7 1 (2 * q0) (K 10 1 ((0 : Int32).toNatClampNeg))) 7 1 (2 * q0 + 1) ((k3 K 7 1 (2 * q0) (K 10 1 ((0 : Int32).toNatClampNeg))) 10 1 ((1 : Int32).toNatClampNeg))) 6 4 q0 ((k3 (k3 K 7 1 (2 * q0) (K 10 1 ((0 : Int32).toNatClampNeg))) 7 1 (2 * q0 + 1) ((k3 K 7 1 (2 * q0) (K 10 1 ((0 : Int32).toNatClampNeg))) 10 1 ((1 : Int32).toNatClampNeg))) 10 1 ((2 : Int32).toNatClampNeg))) 10 1 ((3 : Int32).toNatClampNeg))) 18 (2 * q0)) ((4 : Int32).toNatClampNeg) ((0 : Int32).toNatClampNeg) ((8 : Int32).toNatClampNeg))) 18 (2 * q0 + 1)) ((12 : Int32).toNatClampNeg) ((0 : Int32).toNatClampNeg) ((8 : Int32).toNatClampNeg))) 6 7 q0 ((kr (kr (k3 (k3 (k3 (k3 K 7 1 (2 * q0) (K 10 1 ((0 : Int32).toNatClampNeg))) 7 1 (2 * q0 + 1) ((k3 K 7 1 (2 * q0) (K 10 1 ((0 : Int32).toNatClampNeg))) 10 1 ((1 : Int32).toNatClampNeg))) 6 4 q0 ((k3 (k3 K 7 1 (2 * q0) (K 10 1 ((0 : Int32).toNatClampNeg))) 7 1 (2 * q0 + 1) ((k3 K 7 1 (2 * q0) (K 10 1 ((0 : Int32).toNatClampNeg))) 10 1 ((1 : Int32).toNatClampNeg))) 10 1 ((2 : Int32).toNatClampNeg))) 6 5 q0 ((k3 (k3 (k3 K 7 1 (2 * q0) (K 10 1 ((0 : Int32).toNatClampNeg))) 7 1 (2 * q0 + 1) ((k3 K 7 1 (2 * q0) (K 10 1 ((0 : Int32).toNatClampNeg))) 10 1 ((1 : Int32).toNatClampNeg))) 6 4 q0 ((k3 (k3 K 7 1 (2 * q0) (K 10 1 ((0 : Int32).toNatClampNeg))) 7 1 (2 * q0 + 1) ((k3 K 7 1 (2 * q0) (K 10 1 ((0 : Int32).toNatClampNeg))) 10 1 ((1 : Int32).toNatClampNeg))) 10 1 ((2 : Int32).toNatClampNeg))) 10 1 ((3 : Int32).toNatClampNeg))) 18 (2 * q0) (va_cpy ((k3 (k3 (k3 (k3 K 7 1 (2 * q0) (K 10 1 ((0 : Int32).toNatClampNeg))) 7 1 (2 * q0 + 1) ((k3 K 7 1 (2 * q0) (K 10 1 ((0 : Int32).toNatClampNeg))) 10 1 ((1 : Int32).toNatClampNeg))) 6 4 q0 ((k3 (k3 K 7 1 (2 * q0) (K 10 1 ((0 : Int32).toNatClampNeg))) 7 1 (2 * q0 + 1) ((k3 K 7 1 (2 * q0) (K 10 1 ((0 : Int32).toNatClampNeg))) 10 1 ((1 : Int32).toNatClampNeg))) 10 1 ((2 : Int32).toNatClampNeg))) 6 5 q0 ((k3 (k3 (k3 K 7 1 (2 * q0) (K 10 1 ((0 : Int32).toNatClampNeg))) 7 1 (2 * q0 + 1) ((k3 K 7 1 (2 * q0) (K 10 1 ((0 : Int32).toNatClampNeg))) 10 1 ((1 : Int32).toNatClampNeg))) 6 4 q0 ((k3 (k3 K 7 1 (2 * q0) (K 10 1 ((0 : Int32).toNatClampNeg))) 7 1 (2 * q0 + 1) ((k3 K 7 1 (2 * q0) (K 10 1 ((0 : Int32).toNatClampNeg))) 10 1 ((1 : Int32).toNatClampNeg))) 10 1 ((2 : Int32).toNatClampNeg))) 10 1 ((3 : Int32).toNatClampNeg))) 10 1) ((k3 (k3 (k3 (k3 K 7 1 (2 * q0) (K 10 1 ((0 : Int32).toNatClampNeg))) 7 1 (2 * q0 + 1) ((k3 K 7 1 (2 * q0) (K 10 1 ((0 : Int32).toNatClampNeg))) 10 1 ((1 : Int32).toNatClampNeg))) 6 4 q0 ((k3 (k3 K 7 1 (2 * q0) (K 10 1 ((0 : Int32).toNatClampNeg))) 7 1 (2 * q0 + 1) ((k3 K 7 1 (2 * q0) (K 10 1 ((0 : Int32).toNatClampNeg))) 10 1 ((1 : Int32).toNatClampNeg))) 10 1 ((2 : Int32).toNatClampNeg))) 6 5 q0 ((k3 (k3 (k3 K 7 1 (2 * q0) (K 10 1 ((0 : Int32).toNatClampNeg))) 7 1 (2 * q0 + 1) ((k3 K 7 1 (2 * q0) (K 10 1 ((0 : Int32).toNatClampNeg))) 10 1 ((1 : Int32).toNatClampNeg))) 6 4 q0 ((k3 (k3 K 7 1 (2 * q0) (K 10 1 ((0 : Int32).toNatClampNeg))) 7 1 (2 * q0 + 1) ((k3 K 7 1 (2 * q0) (K 10 1 ((0 : Int32).toNatClampNeg))) 10 1 ((1 : Int32).toNatClampNeg))) 10 1 ((2 : Int32).toNatClampNeg))) 10 1 ((3 : Int32).toNatClampNeg))) 18 (2 * q0)) ((4 : Int32).toNatClampNeg) ((0 : Int32).toNatClampNeg) ((8 : Int32).toNatClampNeg))) 18 (2 * q0 + 1) (va_cpy ((kr (k3 (k3 (k3 (k3 K 7 1 (2 * q0) (K 10 1 ((0 : Int32).toNatClampNeg))) 7 1 (2 * q0 + 1) ((k3 K 7 1 (2 * q0) (K 10 1 ((0 : Int32).toNatClampNeg))) 10 1 ((1 : Int32).toNatClampNeg))) 6 4 q0 ((k3 (k3 K 7 1 (2 * q0) (K 10 1 ((0 : Int32).toNatClampNeg))) 7 1 (2 * q0 + 1) ((k3 K 7 1 (2 * q0) (K 10 1 ((0 : Int32).toNatClampNeg))) 10 1 ((1 : Int32).toNatClampNeg))) 10 1 ((2 : Int32).toNatClampNeg))) 6 5 q0 ((k3 (k3 (k3 K 7 1 (2 * q0) (K 10 1 ((0 : Int32).toNatClampNeg))) 7 1 (2 * q0 + 1) ((k3 K 7 1 (2 * q0) (K 10 1 ((0 : Int32).toNatClampNeg))) 10 1 ((1 : Int32).toNatClampNeg))) 6 4 q0 ((k3 (k3 K 7 1 (2 * q0) (K 10 1 ((0 : Int32).toNatClampNeg))) 7 1 (2 * q0 + 1) ((k3 K 7 1 (2 * q0) (K 10 1 ((0 : Int32).toNatClampNeg))) 10 1 ((1 : Int32).toNatClampNeg))) 10 1 ((2 : Int32).toNatClampNeg))) 10 1 ((3 : Int32).toNatClampNeg))) 18 (2 * q0) (va_cpy ((k3 (k3 (k3 (k3 K 7 1 (2 * q0) (K 10 1 ((0 : Int32).toNatClampNeg))) 7 1 (2 * q0 + 1) ((k3 K 7 1 (2 * q0) (K 10 1 ((0 : Int32).toNatClampNeg))) 10 1 ((1 : Int32).toNatClampNeg))) 6 4 q0 ((k3 (k3 K 7 1 (2 * q0) (K 10 1 ((0 : Int32).toNatClampNeg))) 7 1 (2 * q0 + 1) ((k3 K 7 1 (2 * q0) (K 10 1 ((0 : Int32).toNatClampNeg))) 10 1 ((1 : Int32).toNatClampNeg))) 10 1 ((2 : Int32).toNatClampNeg))) 6 5 q0 ((k3 (k3 (k3 K 7 1 (2 * q0) (K 10 1 ((0 : Int32).toNatClampNeg))) 7 1 (2 * q0 + 1) ((k3 K 7 1 (2 * q0) (K 10 1 ((0 : Int32).toNatClampNeg))) 10 1 ((1 : Int32).toNatClampNeg))) 6 4 q0 ((k3 (k3 K 7 1 (2 * q0) (K 10 1 ((0 : Int32).toNatClampNeg))) 7 1 (2 * q0 + 1) ((k3 K 7 1 (2 * q0) (K 10 1 ((0 : Int32).toNatClampNeg))) 10 1 ((1 : Int32).toNatClampNeg))) 10 1 ((2 : Int32).toNatClampNeg))) 10 1 ((3 : Int32).toNatClampNeg))) 10 1) ((k3 (k3 (k3 (k3 K 7 1 (2 * q0) (K 10 1 ((0 : Int32).toNatClampNeg))) 7 1 (2 * q0 + 1) ((k3 K 7 1 (2 * q0) (K 10 1 ((0 : Int32).toNatClampNeg))) 10 1 ((1 : Int32).toNatClampNeg))) 6 4 q0 ((k3 (k3 K 7 1 (2 * q0) (K 10 1 ((0 : Int32).toNatClampNeg))) 7 1 (2 * q0 + 1) ((k3 K 7 1 (2 * q0) (K 10 1 ((0 : Int32).toNatClampNeg))) 10 1 ((1 : Int32).toNatClampNeg))) 10 1 ((2 : Int32).toNatClampNeg))) 6 5 q0 ((k3 (k3 (k3 K 7 1 (2 * q0) (K 10 1 ((0 : Int32).toNatClampNeg))) 7 1 (2 * q0 + 1) ((k3 K 7 1 (2 * q0) (K 10 1 ((0 : Int32).toNatClampNeg))) 10 1 ((1 : Int32).toNatClampNeg))) 6 4 q0 ((k3 (k3 K 7 1 (2 * q0) (K 10 1 ((0 : Int32).toNatClampNeg))) 7 1 (2 * q0 + 1) ((k3 K 7 1 (2 * q0) (K 10 1 ((0 : Int32).toNatClampNeg))) 10 1 ((1 : Int32).toNatClampNeg))) 10 1 ((2 : Int32).toNatClampNeg))) 10 1 ((3 : Int32).toNatClampNeg))) 18 (2 * q0)) ((4 : Int32).toNatClampNeg) ((0 : Int32).toNatClampNeg) ((8 : Int32).toNatClampNeg))) 10 1) ((kr (k3 (k3 (k3 (k3 K 7 1 (2 * q0) (K 10 1 ((0 : Int32).toNatClampNeg))) 7 1 (2 * q0 + 1) ((k3 K 7 1 (2 * q0) (K 10 1 ((0 : Int32).toNatClampNeg))) 10 1 ((1 : Int32).toNatClampNeg))) 6 4 q0 ((k3 (k3 K 7 1 (2 * q0) (K 10 1 ((0 : Int32).toNatClampNeg))) 7 1 (2 * q0 + 1) ((k3 K 7 1 (2 * q0) (K 10 1 ((0 : Int32).toNatClampNeg))) 10 1 ((1 : Int32).toNatClampNeg))) 10 1 ((2 : Int32).toNatClampNeg))) 6 5 q0 ((k3 (k3 (k3 K 7 1 (2 * q0) (K 10 1 ((0 : Int32).toNatClampNeg))) 7 1 (2 * q0 + 1) ((k3 K 7 1 (2 * q0) (K 10 1 ((0 : Int32).toNatClampNeg))) 10 1 ((1 : Int32).toNatClampNeg))) 6 4 q0 ((k3 (k3 K 7 1 (2 * q0) (K 10 1 ((0 : Int32).toNatClampNeg))) 7 1 (2 * q0 + 1) ((k3 K 7 1 (2 * q0) (K 10 1 ((0 : Int32).toNatClampNeg))) 10 1 ((1 : Int32).toNatClampNeg))) 10 1 ((2 : Int32).toNatClampNeg))) 10 1 ((3 : Int32).toNatClampNeg))) 18 (2 * q0) (va_cpy ((k3 (k3 (k3 (k3 K 7 1 (2 * q0) (K 10 1 ((0 : Int32).toNatClampNeg))) 7 1 (2 * q0 + 1) ((k3 K 7 1 (2 * q0) (K 10 1 ((0 : Int32).toNatClampNeg))) 10 1 ((1 : Int32).toNatClampNeg))) 6 4 q0 ((k3 (k3 K 7 1 (2 * q0) (K 10 1 ((0 : Int32).toNatClampNeg))) 7 1 (2 * q0 + 1) ((k3 K 7 1 (2 * q0) (K 10 1 ((0 : Int32).toNatClampNeg))) 10 1 ((1 : Int32).toNatClampNeg))) 10 1 ((2 : Int32).toNatClampNeg))) 6 5 q0 ((k3 (k3 (k3 K 7 1 (2 * q0) (K 10 1 ((0 : Int32).toNatClampNeg))) 7 1 (2 * q0 + 1) ((k3 K 7 1 (2 * q0) (K 10 1 ((0 : Int32).toNatClampNeg))) 10 1 ((1 : Int32).toNatClampNeg))) 6 4 q0 ((k3 (k3 K 7 1 (2 * q0) (K 10 1 ((0 : Int32).toNatClampNeg))) 7 1 (2 * q0 + 1) ((k3 K 7 1 (2 * q0) (K 10 1 ((0 : Int32).toNatClampNeg))) 10 1 ((1 : Int32).toNatClampNeg))) 10 1 ((2 : Int32).toNatClampNeg))) 10 1 ((3 : Int32).toNatClampNeg))) 10 1) ((k3 (k3 (k3 (k3 K 7 1 (2 * q0) (K 10 1 ((0 : Int32).toNatClampNeg))) 7 1 (2 * q0 + 1) ((k3 K 7 1 (2 * q0) (K 10 1 ((0 : Int32).toNatClampNeg))) 10 1 ((1 : Int32).toNatClampNeg))) 6 4 q0 ((k3 (k3 K 7 1 (2 * q0) (K 10 1 ((0 : Int32).toNatClampNeg))) 7 1 (2 * q0 + 1) ((k3 K 7 1 (2 * q0) (K 10 1 ((0 : Int32).toNatClampNeg))) 10 1 ((1 : Int32).toNatClampNeg))) 10 1 ((2 : Int32).toNatClampNeg))) 6 5 q0 ((k3 (k3 (k3 K 7 1 (2 * q0) (K 10 1 ((0 : Int32).toNatClampNeg))) 7 1 (2 * q0 + 1) ((k3 K 7 1 (2 * q0) (K 10 1 ((0 : Int32).toNatClampNeg))) 10 1 ((1 : Int32).toNatClampNeg))) 6 4 q0 ((k3 (k3 K 7 1 (2 * q0) (K 10 1 ((0 : Int32).toNatClampNeg))) 7 1 (2 * q0 + 1) ((k3 K 7 1 (2 * q0) (K 10 1 ((0 : Int32).toNatClampNeg))) 10 1 ((1 : Int32).toNatClampNeg))) 10 1 ((2 : Int32).toNatClampNeg))) 10 1 ((3 : Int32).toNatClampNeg))) 18 (2 * q0)) ((4 : Int32).toNatClampNeg) ((0 : Int32).toNatClampNeg) ((8 : Int32).toNatClampNeg))) 18 (2 * q0 + 1)) ((12 : Int32).toNatClampNeg) ((0 : Int32).toNatClampNeg) ((8 : Int32).toNatClampNeg))) 10 1 ((20 : Int32).toNatClampNeg))) 17 q0) ((0 : Int32).toNatClampNeg) ((0 : Int32).toNatClampNeg) ((8 : Int32).toNatClampNeg))) 6 2 q0 103) 6 3 q0 (-1)))))))))))))) ∧ (¬ 24 ≤ (nI 24) → (post () K)))))))))
theorem hdX2_resume : yX2_resume.cls ≠ "java/lang/invoke/MethodHandle" ∧ yX2_resume.cls ≠ "java/lang/invoke/VarHandle" ∧ (parseMethodDescriptor yX2_resume.desc).map (fun d => d.parameters.length) = some 2 := by decide +kernel
set_option maxHeartbeats 4000000 in
set_option maxRecDepth 100000 in
theorem mtX2_resume {l : Launch} {D : va_G} {cI : Nat → ClassId} {e0 : Nat} {A : Nat → Prop} {ad : Nat → Nat → Nat} {K M : KS} {ap o : Int64} {od : UInt64} {mc ms : Nat} {q0 : Nat} {p1 : Int32} {post : Unit → KS → Prop} (h : wpX2_resume post K q0 p1) : CM l D cI e0 A yX2_resume cX2_resume 3 none 1 40 mc ms [.ref (ad 6 q0), .int p1, .ref (ad 10 1)] (HT D cI e0 A ad K M ap o od) (qK D cI e0 A ad M ap o od rV post) xN := by
  refine CM.of (by decide) (Nat.le_of_ble_eq_true rfl) (fun p e s m below meth c ls FX hw hS hl => ?_)
  obtain ⟨S, hg, hr, hlk, hnm, hout⟩ := FX
  have hl : lv_has ls 3 [(0, .ref (ad 6 q0)), (1, .int p1), (2, .ref (ad 10 1))] := hl
  unfold wpX2_resume at h
  refine lv_iload_n S.1 S.2.1 dX2_resume_0 rfl (lv_at hl 1 rfl) ?_
  refine lv_if_lt (tgt := 17) S.1 S.2.1 dX2_resume_1 (by decide) (fun c1 => ?_) (fun c1 => ?_)
  · have h := h.1 c1
    exact r_vret (y := yX2_resume) S hr hlk hS (by omega) (by omega) dX2_resume_17 ⟨(), _, rfl, h, hw⟩
  · have h := h.2 c1
    refine lv_iload_n S.1 S.2.1 dX2_resume_4 rfl (lv_at hl 1 rfl) ?_
    refine lv_bipush (v := 6) S.1 S.2.1 dX2_resume_5 (by decide) ?_
    refine lv_icmp_ge (tgt := 17) S.1 S.2.1 dX2_resume_7 (by decide) (fun c2 => ?_) (fun c2 => ?_)
    · have h := h.1 c2
      exact r_vret (y := yX2_resume) S hr hlk hS (by omega) (by omega) dX2_resume_17 ⟨(), _, rfl, h, hw⟩
    · have h := h.2 c2
      refine lv_aload_n S.1 S.2.1 dX2_resume_10 rfl (lv_at hl 2 rfl) ?_
      refine n10 S hg hw (Nat.le_of_ble_eq_true rfl) dX2_resume_11 ?_
      refine lv_bipush (v := 24) S.1 S.2.1 dX2_resume_12 (by decide) ?_
      refine lv_icmp_ge (tgt := 18) S.1 S.2.1 dX2_resume_14 (by decide) (fun c3 => ?_) (fun c3 => ?_)
      · have h := h.1 c3
        refine lv_aload_n S.1 S.2.1 dX2_resume_18 rfl (lv_at hl 0 rfl) ?_
        obtain ⟨g4, h⟩ := h
        refine g6_0 S hg hw g4 u573 dX2_resume_19 ?_
        refine lv_aload_n S.1 S.2.1 dX2_resume_22 rfl (lv_at hl 2 rfl) ?_
        refine lv_iconst (v := 0) S.1 S.2.1 dX2_resume_23 (by decide) ?_
        obtain ⟨g5, h⟩ := h
        refine a10 S hg hw (Nat.le_of_ble_eq_true rfl) g5 dX2_resume_24 ?_
        refine p7_1 S hg hS hw (lt2 g4) u557 dX2_resume_25 (fun H locs hw hS => ?_)
        refine lv_aload_n S.1 S.2.1 dX2_resume_28 rfl (lv_at hl 0 rfl) ?_
        refine g6_1 S hg hw g4 u575 dX2_resume_29 ?_
        refine lv_aload_n S.1 S.2.1 dX2_resume_32 rfl (lv_at hl 2 rfl) ?_
        refine lv_iconst (v := 1) S.1 S.2.1 dX2_resume_33 (by decide) ?_
        obtain ⟨g6, h⟩ := h
        refine a10 S hg hw (Nat.le_of_ble_eq_true rfl) g6 dX2_resume_34 ?_
        refine p7_1 S hg hS hw (lt2s g4) u557 dX2_resume_35 (fun H locs hw hS => ?_)
        refine lv_aload_n S.1 S.2.1 dX2_resume_38 rfl (lv_at hl 0 rfl) ?_
        refine lv_aload_n S.1 S.2.1 dX2_resume_39 rfl (lv_at hl 2 rfl) ?_
        refine lv_iconst (v := 2) S.1 S.2.1 dX2_resume_40 (by decide) ?_
        obtain ⟨g7, h⟩ := h
        refine a10 S hg hw (Nat.le_of_ble_eq_true rfl) g7 dX2_resume_41 ?_
        refine p6_4 S hg hS hw g4 u581 dX2_resume_42 (fun H locs hw hS => ?_)
        refine lv_aload_n S.1 S.2.1 dX2_resume_45 rfl (lv_at hl 0 rfl) ?_
        refine lv_aload_n S.1 S.2.1 dX2_resume_46 rfl (lv_at hl 2 rfl) ?_
        refine lv_iconst (v := 3) S.1 S.2.1 dX2_resume_47 (by decide) ?_
        obtain ⟨g8, h⟩ := h
        refine a10 S hg hw (Nat.le_of_ble_eq_true rfl) g8 dX2_resume_48 ?_
        refine p6_5 S hg hS hw g4 u583 dX2_resume_49 (fun H locs hw hS => ?_)
        refine lv_aload_n S.1 S.2.1 dX2_resume_52 rfl (lv_at hl 2 rfl) ?_
        refine lv_iconst (v := 4) S.1 S.2.1 dX2_resume_53 (by decide) ?_
        refine lv_aload_n S.1 S.2.1 dX2_resume_54 rfl (lv_at hl 0 rfl) ?_
        refine g6_0 S hg hw g4 u573 dX2_resume_55 ?_
        refine g7_3 S hg hw (lt2 g4) u563 dX2_resume_58 ?_
        refine lv_iconst (v := 0) S.1 S.2.1 dX2_resume_61 (by decide) ?_
        refine lv_bipush (v := 8) S.1 S.2.1 dX2_resume_62 (by decide) ?_
        obtain ⟨g9, h⟩ := h
        obtain ⟨g10, h⟩ := h
        refine cp_10_18 S hg hS hw (Nat.le_of_ble_eq_true rfl) g9 g10 hl.1 (Nat.le_of_ble_eq_true rfl) (Nat.le_of_ble_eq_true rfl) u807 dX2_resume_64 (fun H locs hw hS => ?_)
        refine lv_aload_n S.1 S.2.1 dX2_resume_67 rfl (lv_at hl 2 rfl) ?_
        refine lv_bipush (v := 12) S.1 S.2.1 dX2_resume_68 (by decide) ?_
        refine lv_aload_n S.1 S.2.1 dX2_resume_70 rfl (lv_at hl 0 rfl) ?_
        refine g6_1 S hg hw g4 u575 dX2_resume_71 ?_
        refine g7_3 S hg hw (lt2s g4) u563 dX2_resume_74 ?_
        refine lv_iconst (v := 0) S.1 S.2.1 dX2_resume_77 (by decide) ?_
        refine lv_bipush (v := 8) S.1 S.2.1 dX2_resume_78 (by decide) ?_
        obtain ⟨g11, h⟩ := h
        obtain ⟨g12, h⟩ := h
        refine cp_10_18 S hg hS hw (Nat.le_of_ble_eq_true rfl) g11 g12 hl.1 (Nat.le_of_ble_eq_true rfl) (Nat.le_of_ble_eq_true rfl) u807 dX2_resume_80 (fun H locs hw hS => ?_)
        refine lv_aload_n S.1 S.2.1 dX2_resume_83 rfl (lv_at hl 0 rfl) ?_
        refine lv_aload_n S.1 S.2.1 dX2_resume_84 rfl (lv_at hl 2 rfl) ?_
        refine lv_bipush (v := 20) S.1 S.2.1 dX2_resume_85 (by decide) ?_
        obtain ⟨g13, h⟩ := h
        refine a10 S hg hw (Nat.le_of_ble_eq_true rfl) g13 dX2_resume_87 ?_
        refine p6_7 S hg hS hw g4 u585 dX2_resume_88 (fun H locs hw hS => ?_)
        refine lv_aload_n S.1 S.2.1 dX2_resume_91 rfl (lv_at hl 0 rfl) ?_
        refine g6_10 S hg hw g4 u590 dX2_resume_92 ?_
        refine lv_iload_n S.1 S.2.1 dX2_resume_95 rfl (lv_at hl 1 rfl) ?_
        obtain ⟨g14, h⟩ := h
        refine a21 S hg hw g4 g14 dX2_resume_96 ?_
        refine lv_iconst (v := 0) S.1 S.2.1 dX2_resume_97 (by decide) ?_
        refine lv_aload_n S.1 S.2.1 dX2_resume_98 rfl (lv_at hl 0 rfl) ?_
        refine g6_6 S hg hw g4 u584 dX2_resume_99 ?_
        refine lv_iconst (v := 0) S.1 S.2.1 dX2_resume_102 (by decide) ?_
        refine lv_bipush (v := 8) S.1 S.2.1 dX2_resume_103 (by decide) ?_
        obtain ⟨g15, h⟩ := h
        refine cp_20_17 S hg hS hw (lt6 g4 g14) g4 g15 hl.1 (Nat.le_of_ble_eq_true rfl) (Nat.le_of_ble_eq_true rfl) u807 dX2_resume_105 (fun H locs hw hS => ?_)
        refine lv_aload_n S.1 S.2.1 dX2_resume_108 rfl (lv_at hl 0 rfl) ?_
        refine lv_bipush (v := 103) S.1 S.2.1 dX2_resume_109 (by decide) ?_
        refine p6_2 S hg hS hw g4 rfl rfl u577 dX2_resume_111 (fun H locs hw hS => ?_)
        refine lv_aload_n S.1 S.2.1 dX2_resume_114 rfl (lv_at hl 0 rfl) ?_
        refine lv_iconst (v := (-1)) S.1 S.2.1 dX2_resume_115 (by decide) ?_
        refine p6_3 S hg hS hw g4 u579 dX2_resume_116 (fun H locs hw hS => ?_)
        exact r_vret (y := yX2_resume) S hr hlk hS (by omega) (by omega) dX2_resume_119 ⟨(), _, rfl, h, hw⟩
      · have h := h.2 c3
        exact r_vret (y := yX2_resume) S hr hlk hS (by omega) (by omega) dX2_resume_17 ⟨(), _, rfl, h, hw⟩

-- X0.isAs
theorem dX0_isAs_0 : decode cX0_isAs 0 = .ok (.iconst 0, 1) := by decide +kernel
theorem dX0_isAs_1 : decode cX0_isAs 1 = .ok (.istore 4, 2) := by decide +kernel
theorem dX0_isAs_3 : decode cX0_isAs 3 = .ok (.iload 4, 2) := by decide +kernel
theorem dX0_isAs_5 : decode cX0_isAs 5 = .ok (.iconst 4, 1) := by decide +kernel
theorem dX0_isAs_6 : decode cX0_isAs 6 = .ok (.if_icmp .ge 31, 3) := by decide +kernel
theorem dX0_isAs_9 : decode cX0_isAs 9 = .ok (.aload_n 0, 1) := by decide +kernel
theorem dX0_isAs_10 : decode cX0_isAs 10 = .ok (.getfield 11, 3) := by decide +kernel
theorem dX0_isAs_13 : decode cX0_isAs 13 = .ok (.iload_n 1, 1) := by decide +kernel
theorem dX0_isAs_14 : decode cX0_isAs 14 = .ok (.iconst 4, 1) := by decide +kernel
theorem dX0_isAs_15 : decode cX0_isAs 15 = .ok (.imul, 1) := by decide +kernel
theorem dX0_isAs_16 : decode cX0_isAs 16 = .ok (.iload 4, 2) := by decide +kernel
theorem dX0_isAs_18 : decode cX0_isAs 18 = .ok (.iadd, 1) := by decide +kernel
theorem dX0_isAs_19 : decode cX0_isAs 19 = .ok (.iaload, 1) := by decide +kernel
theorem dX0_isAs_20 : decode cX0_isAs 20 = .ok (.aload_n 2, 1) := by decide +kernel
theorem dX0_isAs_21 : decode cX0_isAs 21 = .ok (.iload_n 3, 1) := by decide +kernel
theorem dX0_isAs_22 : decode cX0_isAs 22 = .ok (.iload 4, 2) := by decide +kernel
theorem dX0_isAs_24 : decode cX0_isAs 24 = .ok (.iadd, 1) := by decide +kernel
theorem dX0_isAs_25 : decode cX0_isAs 25 = .ok (.iaload, 1) := by decide +kernel
theorem dX0_isAs_26 : decode cX0_isAs 26 = .ok (.if_icmp .eq 5, 3) := by decide +kernel
theorem dX0_isAs_29 : decode cX0_isAs 29 = .ok (.iconst 0, 1) := by decide +kernel
theorem dX0_isAs_30 : decode cX0_isAs 30 = .ok (.ireturn, 1) := by decide +kernel
theorem dX0_isAs_31 : decode cX0_isAs 31 = .ok (.iinc 4 1, 3) := by decide +kernel
theorem dX0_isAs_34 : decode cX0_isAs 34 = .ok (.goto (-31), 3) := by decide +kernel
theorem dX0_isAs_37 : decode cX0_isAs 37 = .ok (.iconst 1, 1) := by decide +kernel
theorem dX0_isAs_38 : decode cX0_isAs 38 = .ok (.ireturn, 1) := by decide +kernel
def wX0_isAs_3 (post : Int32 → Prop) : Nat → Int32 → Int32 → Int32 → KS → Prop
  | 0 => fun _ _ _ _ => False
  | n + 1 => fun l1 l3 l4 K => ((4 ≤ l4 → (post 1)) ∧ (¬ 4 ≤ l4 → ((vp_in ((l1 * 4) + l4) 1152) ∧ ((vp_in (l3 + l4) 24) ∧ ((((K 10 2 (((l1 * 4) + l4).toNatClampNeg)) = (K 10 1 ((l3 + l4).toNatClampNeg)) → (wX0_isAs_3 post n l1 l3 (l4 + 1) K)) ∧ (¬ (K 10 2 (((l1 * 4) + l4).toNatClampNeg)) = (K 10 1 ((l3 + l4).toNatClampNeg)) → (post 0))))))))
set_option maxHeartbeats 4000000 in
set_option maxRecDepth 100000 in
theorem bX0_isAs_3 {p : Program} {l : Launch} {e : Env} {s : State} {m : MethodId} {args : Array Value} {below : List Frame} {meth : Method} {c : Code} {D : va_G} {cI : Nat → ClassId} {e0 : Nat} {A : Nat → Prop} {ad : Nat → Nat → Nat} {M : KS} {ap : Int64} {o : Int64} {od : UInt64} {mc ms : Nat} {K : KS} {post : Int32 → Prop} (S : CallFix p m c cX0_isAs 5 s args WU RX0) (hg : GI D cI e0 A s s.heap) (hr : meth.sig.returnType = (some FieldType.boolean)) (hlk : meth.locks = false) (hout : ∀ x ∈ c.exceptionTable.toList, False) : ∀ n : Nat, ∀ {H : Heap} {locs : List Loc} {ls : Array Slot} {l1 : Int32} {l3 : Int32} {l4 : Int32}, va_S A s.heap H locs → HT D cI e0 A ad K M ap o od H → lv_has ls 5 [(0, .ref (ad 2 0)), (1, .int l1), (2, .ref (ad 10 1)), (3, .int l3), (4, .int l4)] → wX0_isAs_3 post n l1 l3 l4 K → W p l e ({ frames := 0, cells := mc, slots := ms, locals := 0 } : Room) s m args below meth c H locs 0 0 (MQQ below (qP D cI e0 A ad K M ap o od rI post) xN args s mc ms A) (F0 m 3 ls []) := by
  intro n
  induction n with
  | zero => intros; exact False.elim (by assumption)
  | succ n ih =>
    intro H locs ls l1 l3 l4 hS hw hl h
    unfold wX0_isAs_3 at h
    refine lv_iload S.1 S.2.1 dX0_isAs_3 (lv_at hl 4 rfl) ?_
    refine lv_iconst (v := 4) S.1 S.2.1 dX0_isAs_5 (by decide) ?_
    refine lv_icmp_ge (tgt := 37) S.1 S.2.1 dX0_isAs_6 (by decide) (fun c1 => ?_) (fun c1 => ?_)
    · have h := h.1 c1
      refine lv_iconst (v := 1) S.1 S.2.1 dX0_isAs_37 (by decide) ?_
      exact r_iret (y := yX0_isAs) S hr rfl hlk hS (by omega) (by omega) dX0_isAs_38 ⟨1, rfl, h, hw⟩
    · have h := h.2 c1
      refine lv_aload_n S.1 S.2.1 dX0_isAs_9 rfl (lv_at hl 0 rfl) ?_
      refine g2_0 S hg hw u109 dX0_isAs_10 ?_
      refine lv_iload_n S.1 S.2.1 dX0_isAs_13 rfl (lv_at hl 1 rfl) ?_
      refine lv_iconst (v := 4) S.1 S.2.1 dX0_isAs_14 (by decide) ?_
      refine lv_imul S.1 S.2.1 dX0_isAs_15 ?_
      refine lv_iload S.1 S.2.1 dX0_isAs_16 (lv_at hl 4 rfl) ?_
      refine lv_iadd S.1 S.2.1 dX0_isAs_18 ?_
      obtain ⟨g2, h⟩ := h
      refine a10 S hg hw (Nat.le_of_ble_eq_true rfl) g2 dX0_isAs_19 ?_
      refine lv_aload_n S.1 S.2.1 dX0_isAs_20 rfl (lv_at hl 2 rfl) ?_
      refine lv_iload_n S.1 S.2.1 dX0_isAs_21 rfl (lv_at hl 3 rfl) ?_
      refine lv_iload S.1 S.2.1 dX0_isAs_22 (lv_at hl 4 rfl) ?_
      refine lv_iadd S.1 S.2.1 dX0_isAs_24 ?_
      obtain ⟨g3, h⟩ := h
      refine a10 S hg hw (Nat.le_of_ble_eq_true rfl) g3 dX0_isAs_25 ?_
      refine lv_icmp_eq (tgt := 31) S.1 S.2.1 dX0_isAs_26 (by decide) (fun c4 => ?_) (fun c4 => ?_)
      · have h := h.1 c4
        refine lv_iinc (v := l4 + 1) (lv' := [(4, .int (l4 + 1)), (0, .ref (ad 2 0)), (1, .int l1), (2, .ref (ad 10 1)), (3, .int l3)]) S.1 S.2.1 dX0_isAs_31 hl (k := 4) rfl rfl (by decide) rfl (fun ls hl => ?_)
        refine lv_goto (tgt := 3) S.1 S.2.1 dX0_isAs_34 (by decide) ?_
        have hl := lv_sub hl (l' := [(0, .ref (ad 2 0)), (1, .int l1), (2, .ref (ad 10 1)), (3, .int l3), (4, .int (l4 + 1))]) [1, 2, 3, 4, 0] rfl
        exact ih hS hw hl h
      · have h := h.2 c4
        refine lv_iconst (v := 0) S.1 S.2.1 dX0_isAs_29 (by decide) ?_
        exact r_iret (y := yX0_isAs) S hr rfl hlk hS (by omega) (by omega) dX0_isAs_30 ⟨0, rfl, h, hw⟩
def wpX0_isAs (post : Int32 → Prop) (K : KS) (p1 : Int32) (p3 : Int32) : Prop := ∃ n1 : Nat, wX0_isAs_3 post n1 p1 p3 0 K
theorem hdX0_isAs : yX0_isAs.cls ≠ "java/lang/invoke/MethodHandle" ∧ yX0_isAs.cls ≠ "java/lang/invoke/VarHandle" ∧ (parseMethodDescriptor yX0_isAs.desc).map (fun d => d.parameters.length) = some 3 := by decide +kernel
set_option maxHeartbeats 4000000 in
set_option maxRecDepth 100000 in
theorem mtX0_isAs {l : Launch} {D : va_G} {cI : Nat → ClassId} {e0 : Nat} {A : Nat → Prop} {ad : Nat → Nat → Nat} {K M : KS} {ap o : Int64} {od : UInt64} {mc ms : Nat} {p1 : Int32} {p3 : Int32} {post : Int32 → Prop} (h : wpX0_isAs post K p1 p3) : CM l D cI e0 A yX0_isAs cX0_isAs 5 (some FieldType.boolean) 0 0 mc ms [.ref (ad 2 0), .int p1, .ref (ad 10 1), .int p3] (HT D cI e0 A ad K M ap o od) (qP D cI e0 A ad K M ap o od rI post) xN := by
  refine CM.of (by decide) (Nat.le_of_ble_eq_true rfl) (fun p e s m below meth c ls FX hw hS hl => ?_)
  obtain ⟨S, hg, hr, hlk, hnm, hout⟩ := FX
  have hl : lv_has ls 5 [(0, .ref (ad 2 0)), (1, .int p1), (2, .ref (ad 10 1)), (3, .int p3)] := hl
  unfold wpX0_isAs at h
  refine lv_iconst (v := 0) S.1 S.2.1 dX0_isAs_0 (by decide) ?_
  refine lv_istore (lv' := [(4, .int 0), (0, .ref (ad 2 0)), (1, .int p1), (2, .ref (ad 10 1)), (3, .int p3)]) S.1 S.2.1 dX0_isAs_1 hl (by decide) rfl (fun ls hl => ?_)
  have hl := lv_sub hl (l' := [(0, .ref (ad 2 0)), (1, .int p1), (2, .ref (ad 10 1)), (3, .int p3), (4, .int 0)]) [1, 2, 3, 4, 0] rfl
  obtain ⟨n1, h⟩ := h
  exact bX0_isAs_3 S hg hr hlk hout n1 hS hw hl h

-- X0.keepBlock
theorem dX0_keepBlock_0 : decode cX0_keepBlock 0 = .ok (.iload_n 2, 1) := by decide +kernel
theorem dX0_keepBlock_1 : decode cX0_keepBlock 1 = .ok (.ifCond .lt 11, 3) := by decide +kernel
theorem dX0_keepBlock_4 : decode cX0_keepBlock 4 = .ok (.iload_n 2, 1) := by decide +kernel
theorem dX0_keepBlock_5 : decode cX0_keepBlock 5 = .ok (.iconst 4, 1) := by decide +kernel
theorem dX0_keepBlock_6 : decode cX0_keepBlock 6 = .ok (.iadd, 1) := by decide +kernel
theorem dX0_keepBlock_7 : decode cX0_keepBlock 7 = .ok (.aload_n 1, 1) := by decide +kernel
theorem dX0_keepBlock_8 : decode cX0_keepBlock 8 = .ok (.arraylength, 1) := by decide +kernel
theorem dX0_keepBlock_9 : decode cX0_keepBlock 9 = .ok (.if_icmp .le 5, 3) := by decide +kernel
theorem dX0_keepBlock_12 : decode cX0_keepBlock 12 = .ok (.iconst 0, 1) := by decide +kernel
theorem dX0_keepBlock_13 : decode cX0_keepBlock 13 = .ok (.ireturn, 1) := by decide +kernel
theorem dX0_keepBlock_14 : decode cX0_keepBlock 14 = .ok (.iconst 0, 1) := by decide +kernel
theorem dX0_keepBlock_15 : decode cX0_keepBlock 15 = .ok (.istore_n 3, 1) := by decide +kernel
theorem dX0_keepBlock_16 : decode cX0_keepBlock 16 = .ok (.iconst 0, 1) := by decide +kernel
theorem dX0_keepBlock_17 : decode cX0_keepBlock 17 = .ok (.istore 4, 2) := by decide +kernel
theorem dX0_keepBlock_19 : decode cX0_keepBlock 19 = .ok (.iload 4, 2) := by decide +kernel
theorem dX0_keepBlock_21 : decode cX0_keepBlock 21 = .ok (.sipush 288, 3) := by decide +kernel
theorem dX0_keepBlock_24 : decode cX0_keepBlock 24 = .ok (.if_icmp .ge 50, 3) := by decide +kernel
theorem dX0_keepBlock_27 : decode cX0_keepBlock 27 = .ok (.aload_n 0, 1) := by decide +kernel
theorem dX0_keepBlock_28 : decode cX0_keepBlock 28 = .ok (.getfield 15, 3) := by decide +kernel
theorem dX0_keepBlock_31 : decode cX0_keepBlock 31 = .ok (.iload 4, 2) := by decide +kernel
theorem dX0_keepBlock_33 : decode cX0_keepBlock 33 = .ok (.iaload, 1) := by decide +kernel
theorem dX0_keepBlock_34 : decode cX0_keepBlock 34 = .ok (.ifCond .ne 9, 3) := by decide +kernel
theorem dX0_keepBlock_37 : decode cX0_keepBlock 37 = .ok (.iload 4, 2) := by decide +kernel
theorem dX0_keepBlock_39 : decode cX0_keepBlock 39 = .ok (.istore_n 3, 1) := by decide +kernel
theorem dX0_keepBlock_40 : decode cX0_keepBlock 40 = .ok (.goto 28, 3) := by decide +kernel
theorem dX0_keepBlock_43 : decode cX0_keepBlock 43 = .ok (.aload_n 0, 1) := by decide +kernel
theorem dX0_keepBlock_44 : decode cX0_keepBlock 44 = .ok (.iload 4, 2) := by decide +kernel
theorem dX0_keepBlock_46 : decode cX0_keepBlock 46 = .ok (.aload_n 1, 1) := by decide +kernel
theorem dX0_keepBlock_47 : decode cX0_keepBlock 47 = .ok (.iload_n 2, 1) := by decide +kernel
theorem dX0_keepBlock_48 : decode cX0_keepBlock 48 = .ok (.invokevirtual 18, 3) := by decide +kernel
theorem dX0_keepBlock_51 : decode cX0_keepBlock 51 = .ok (.ifCond .eq 17, 3) := by decide +kernel
theorem dX0_keepBlock_54 : decode cX0_keepBlock 54 = .ok (.aload_n 0, 1) := by decide +kernel
theorem dX0_keepBlock_55 : decode cX0_keepBlock 55 = .ok (.getfield 15, 3) := by decide +kernel
theorem dX0_keepBlock_58 : decode cX0_keepBlock 58 = .ok (.iload 4, 2) := by decide +kernel
theorem dX0_keepBlock_60 : decode cX0_keepBlock 60 = .ok (.dup2, 1) := by decide +kernel
theorem dX0_keepBlock_61 : decode cX0_keepBlock 61 = .ok (.iaload, 1) := by decide +kernel
theorem dX0_keepBlock_62 : decode cX0_keepBlock 62 = .ok (.iconst 1, 1) := by decide +kernel
theorem dX0_keepBlock_63 : decode cX0_keepBlock 63 = .ok (.iadd, 1) := by decide +kernel
theorem dX0_keepBlock_64 : decode cX0_keepBlock 64 = .ok (.iastore, 1) := by decide +kernel
theorem dX0_keepBlock_65 : decode cX0_keepBlock 65 = .ok (.iload 4, 2) := by decide +kernel
theorem dX0_keepBlock_67 : decode cX0_keepBlock 67 = .ok (.ireturn, 1) := by decide +kernel
theorem dX0_keepBlock_68 : decode cX0_keepBlock 68 = .ok (.iinc 4 1, 3) := by decide +kernel
theorem dX0_keepBlock_71 : decode cX0_keepBlock 71 = .ok (.goto (-52), 3) := by decide +kernel
theorem dX0_keepBlock_74 : decode cX0_keepBlock 74 = .ok (.aload_n 1, 1) := by decide +kernel
theorem dX0_keepBlock_75 : decode cX0_keepBlock 75 = .ok (.iload_n 2, 1) := by decide +kernel
theorem dX0_keepBlock_76 : decode cX0_keepBlock 76 = .ok (.aload_n 0, 1) := by decide +kernel
theorem dX0_keepBlock_77 : decode cX0_keepBlock 77 = .ok (.getfield 11, 3) := by decide +kernel
theorem dX0_keepBlock_80 : decode cX0_keepBlock 80 = .ok (.iload_n 3, 1) := by decide +kernel
theorem dX0_keepBlock_81 : decode cX0_keepBlock 81 = .ok (.iconst 4, 1) := by decide +kernel
theorem dX0_keepBlock_82 : decode cX0_keepBlock 82 = .ok (.imul, 1) := by decide +kernel
theorem dX0_keepBlock_83 : decode cX0_keepBlock 83 = .ok (.iconst 4, 1) := by decide +kernel
theorem dX0_keepBlock_84 : decode cX0_keepBlock 84 = .ok (.invokestatic 22, 3) := by decide +kernel
theorem dX0_keepBlock_87 : decode cX0_keepBlock 87 = .ok (.aload_n 0, 1) := by decide +kernel
theorem dX0_keepBlock_88 : decode cX0_keepBlock 88 = .ok (.getfield 15, 3) := by decide +kernel
theorem dX0_keepBlock_91 : decode cX0_keepBlock 91 = .ok (.iload_n 3, 1) := by decide +kernel
theorem dX0_keepBlock_92 : decode cX0_keepBlock 92 = .ok (.iconst 1, 1) := by decide +kernel
theorem dX0_keepBlock_93 : decode cX0_keepBlock 93 = .ok (.iastore, 1) := by decide +kernel
theorem dX0_keepBlock_94 : decode cX0_keepBlock 94 = .ok (.iload_n 3, 1) := by decide +kernel
theorem dX0_keepBlock_95 : decode cX0_keepBlock 95 = .ok (.ireturn, 1) := by decide +kernel
def wX0_keepBlock_68 (post : Int32 → KS → Prop) (bk19 : Int32 → Int32 → Int32 → KS → Prop) (l2 : Int32) (l3 : Int32) (l4 : Int32) (K : KS) : Prop := bk19 l2 l3 (l4 + 1) K
set_option maxHeartbeats 4000000 in
set_option maxRecDepth 100000 in
theorem bX0_keepBlock_68 {p : Program} {l : Launch} {e : Env} {s : State} {m : MethodId} {args : Array Value} {below : List Frame} {meth : Method} {c : Code} {D : va_G} {cI : Nat → ClassId} {e0 : Nat} {A : Nat → Prop} {ad : Nat → Nat → Nat} {M : KS} {ap : Int64} {o : Int64} {od : UInt64} {mc ms : Nat} {post : Int32 → KS → Prop} {bk19 : Int32 → Int32 → Int32 → KS → Prop} (S : CallFix p m c cX0_keepBlock 5 s args WU RX0) (hg : GI D cI e0 A s s.heap) (hr : meth.sig.returnType = (some FieldType.int)) (hlk : meth.locks = false) (hout : ∀ x ∈ c.exceptionTable.toList, False) (hbk19 : ∀ {H : Heap} {locs : List Loc} {ls : Array Slot} {l2 : Int32} {l3 : Int32} {l4 : Int32} {K : KS}, va_S A s.heap H locs → HT D cI e0 A ad K M ap o od H → lv_has ls 5 [(0, .ref (ad 2 0)), (1, .ref (ad 10 1)), (2, .int l2), (3, .int l3), (4, .int l4)] → bk19 l2 l3 l4 K → W p l e ({ frames := 1, cells := mc, slots := ms, locals := 40 } : Room) s m args below meth c H locs 0 0 (MQQ below (qK D cI e0 A ad M ap o od rI post) xN args s mc ms A) (F0 m 19 ls [])) {H : Heap} {locs : List Loc} {ls : Array Slot} {l2 : Int32} {l3 : Int32} {l4 : Int32} {K : KS} (hS : va_S A s.heap H locs) (hw : HT D cI e0 A ad K M ap o od H) (hl : lv_has ls 5 [(0, .ref (ad 2 0)), (1, .ref (ad 10 1)), (2, .int l2), (3, .int l3), (4, .int l4)]) (h : wX0_keepBlock_68 post bk19 l2 l3 l4 K) : W p l e ({ frames := 1, cells := mc, slots := ms, locals := 40 } : Room) s m args below meth c H locs 0 0 (MQQ below (qK D cI e0 A ad M ap o od rI post) xN args s mc ms A) (F0 m 68 ls []) := by
  unfold wX0_keepBlock_68 at h
  refine lv_iinc (v := l4 + 1) (lv' := [(4, .int (l4 + 1)), (0, .ref (ad 2 0)), (1, .ref (ad 10 1)), (2, .int l2), (3, .int l3)]) S.1 S.2.1 dX0_keepBlock_68 hl (k := 4) rfl rfl (by decide) rfl (fun ls hl => ?_)
  refine lv_goto (tgt := 19) S.1 S.2.1 dX0_keepBlock_71 (by decide) ?_
  have hl := lv_sub hl (l' := [(0, .ref (ad 2 0)), (1, .ref (ad 10 1)), (2, .int l2), (3, .int l3), (4, .int (l4 + 1))]) [1, 2, 3, 4, 0] rfl
  exact hbk19 hS hw hl h
def wX0_keepBlock_19 (post : Int32 → KS → Prop) : Nat → Int32 → Int32 → Int32 → KS → Prop
  | 0 => fun _ _ _ _ => False
  | n + 1 => fun l2 l3 l4 K => ((288 ≤ l4 → ((okCpy l2 (l3 * 4) 4 24 1152) ∧ ((vp_in l3 288) ∧ (post l3 (k3 (kr K 10 2 (va_cpy (K 10 1) (K 10 2) l2.toNatClampNeg ((l3 * 4).toNatClampNeg) ((4 : Int32).toNatClampNeg))) 10 3 l3.toNatClampNeg 1))))) ∧ (¬ 288 ≤ l4 → ((vp_in l4 288) ∧ (((¬ (K 10 3 l4.toNatClampNeg) = 0 → ((wpX0_isAs (fun r8 => ((r8 = 0 → (wX0_keepBlock_68 post (wX0_keepBlock_19 post n) l2 l3 l4 K)) ∧ (¬ r8 = 0 → (post l4 (k3 K 10 3 l4.toNatClampNeg ((K 10 3 l4.toNatClampNeg) + 1)))))) K l4 l2))) ∧ ((K 10 3 l4.toNatClampNeg) = 0 → (wX0_keepBlock_68 post (wX0_keepBlock_19 post n) l2 l4 l4 K)))))))
set_option maxHeartbeats 4000000 in
set_option maxRecDepth 100000 in
theorem bX0_keepBlock_19 {p : Program} {l : Launch} {e : Env} {s : State} {m : MethodId} {args : Array Value} {below : List Frame} {meth : Method} {c : Code} {D : va_G} {cI : Nat → ClassId} {e0 : Nat} {A : Nat → Prop} {ad : Nat → Nat → Nat} {M : KS} {ap : Int64} {o : Int64} {od : UInt64} {mc ms : Nat} {post : Int32 → KS → Prop} (S : CallFix p m c cX0_keepBlock 5 s args WU RX0) (hg : GI D cI e0 A s s.heap) (hr : meth.sig.returnType = (some FieldType.int)) (hlk : meth.locks = false) (hout : ∀ x ∈ c.exceptionTable.toList, False) : ∀ n : Nat, ∀ {H : Heap} {locs : List Loc} {ls : Array Slot} {l2 : Int32} {l3 : Int32} {l4 : Int32} {K : KS}, va_S A s.heap H locs → HT D cI e0 A ad K M ap o od H → lv_has ls 5 [(0, .ref (ad 2 0)), (1, .ref (ad 10 1)), (2, .int l2), (3, .int l3), (4, .int l4)] → wX0_keepBlock_19 post n l2 l3 l4 K → W p l e ({ frames := 1, cells := mc, slots := ms, locals := 40 } : Room) s m args below meth c H locs 0 0 (MQQ below (qK D cI e0 A ad M ap o od rI post) xN args s mc ms A) (F0 m 19 ls []) := by
  intro n
  induction n with
  | zero => intros; exact False.elim (by assumption)
  | succ n ih =>
    intro H locs ls l2 l3 l4 K hS hw hl h
    unfold wX0_keepBlock_19 at h
    refine lv_iload S.1 S.2.1 dX0_keepBlock_19 (lv_at hl 4 rfl) ?_
    refine lv_sipush (v := 288) S.1 S.2.1 dX0_keepBlock_21 (by decide) ?_
    refine lv_icmp_ge (tgt := 74) S.1 S.2.1 dX0_keepBlock_24 (by decide) (fun c3 => ?_) (fun c3 => ?_)
    · have h := h.1 c3
      refine lv_aload_n S.1 S.2.1 dX0_keepBlock_74 rfl (lv_at hl 1 rfl) ?_
      refine lv_iload_n S.1 S.2.1 dX0_keepBlock_75 rfl (lv_at hl 2 rfl) ?_
      refine lv_aload_n S.1 S.2.1 dX0_keepBlock_76 rfl (lv_at hl 0 rfl) ?_
      refine g2_0 S hg hw u109 dX0_keepBlock_77 ?_
      refine lv_iload_n S.1 S.2.1 dX0_keepBlock_80 rfl (lv_at hl 3 rfl) ?_
      refine lv_iconst (v := 4) S.1 S.2.1 dX0_keepBlock_81 (by decide) ?_
      refine lv_imul S.1 S.2.1 dX0_keepBlock_82 ?_
      refine lv_iconst (v := 4) S.1 S.2.1 dX0_keepBlock_83 (by decide) ?_
      obtain ⟨g4, h⟩ := h
      refine cp_10_10 S hg hS hw (Nat.le_of_ble_eq_true rfl) (Nat.le_of_ble_eq_true rfl) g4 hl.1 (Nat.le_of_ble_eq_true rfl) (Nat.le_of_ble_eq_true rfl) u820 dX0_keepBlock_84 (fun H locs hw hS => ?_)
      refine lv_aload_n S.1 S.2.1 dX0_keepBlock_87 rfl (lv_at hl 0 rfl) ?_
      refine g2_1 S hg hw u110 dX0_keepBlock_88 ?_
      refine lv_iload_n S.1 S.2.1 dX0_keepBlock_91 rfl (lv_at hl 3 rfl) ?_
      refine lv_iconst (v := 1) S.1 S.2.1 dX0_keepBlock_92 (by decide) ?_
      obtain ⟨g5, h⟩ := h
      refine s10 S hg hS hw (Nat.le_of_ble_eq_true rfl) g5 dX0_keepBlock_93 (fun H locs hw hS => ?_)
      refine lv_iload_n S.1 S.2.1 dX0_keepBlock_94 rfl (lv_at hl 3 rfl) ?_
      exact r_iret (y := yX0_keepBlock) S hr rfl hlk hS (by omega) (by omega) dX0_keepBlock_95 ⟨l3, _, rfl, h, hw⟩
    · have h := h.2 c3
      refine lv_aload_n S.1 S.2.1 dX0_keepBlock_27 rfl (lv_at hl 0 rfl) ?_
      refine g2_1 S hg hw u110 dX0_keepBlock_28 ?_
      refine lv_iload S.1 S.2.1 dX0_keepBlock_31 (lv_at hl 4 rfl) ?_
      obtain ⟨g6, h⟩ := h
      refine a10 S hg hw (Nat.le_of_ble_eq_true rfl) g6 dX0_keepBlock_33 ?_
      refine lv_if_ne (tgt := 43) S.1 S.2.1 dX0_keepBlock_34 (by decide) (fun c7 => ?_) (fun c7 => ?_)
      · have h := h.1 c7
        refine lv_aload_n S.1 S.2.1 dX0_keepBlock_43 rfl (lv_at hl 0 rfl) ?_
        refine lv_iload S.1 S.2.1 dX0_keepBlock_44 (lv_at hl 4 rfl) ?_
        refine lv_aload_n S.1 S.2.1 dX0_keepBlock_46 rfl (lv_at hl 1 rfl) ?_
        refine lv_iload_n S.1 S.2.1 dX0_keepBlock_47 rfl (lv_at hl 2 rfl) ?_
        refine r_call (rest := []) S hg hS (mtX0_isAs (mc := 0) (ms := 0) h) u816 u818 u20 u32 u819 hdX0_isAs (rv2 hg hw) hw ⟨Nat.le_of_ble_eq_true rfl, Nat.le_of_ble_eq_true rfl⟩ ⟨by show 0 + 0 ≤ mc; omega, by show 0 + 0 ≤ ms; omega⟩ hl.1 (Nat.le_of_ble_eq_true rfl) rfl dX0_keepBlock_48 (fun E ce q H1 locs1 hx hS1 hc1 hc2 hc3 => hx.elim) (fun rv H locs hq hS => ?_)
        obtain ⟨r8, rfl, h, hw⟩ := hq
        show W p l e _ s m _ below meth c H locs _ _ _ (F0 m 51 ls [.int r8])
        show W p l e _ s m _ below meth c H locs 0 0 _ _
        refine lv_if_eq (tgt := 68) S.1 S.2.1 dX0_keepBlock_51 (by decide) (fun c9 => ?_) (fun c9 => ?_)
        · have h := h.1 c9
          have hl := lv_sub hl (l' := [(0, .ref (ad 2 0)), (1, .ref (ad 10 1)), (2, .int l2), (3, .int l3), (4, .int l4)]) [0, 1, 2, 3, 4] rfl
          exact bX0_keepBlock_68 S hg hr hlk hout ih hS hw hl h
        · have h := h.2 c9
          refine lv_aload_n S.1 S.2.1 dX0_keepBlock_54 rfl (lv_at hl 0 rfl) ?_
          refine g2_1 S hg hw u110 dX0_keepBlock_55 ?_
          refine lv_iload S.1 S.2.1 dX0_keepBlock_58 (lv_at hl 4 rfl) ?_
          refine lv_dup2_11 S.1 S.2.1 dX0_keepBlock_60 rfl rfl ?_
          refine a10 S hg hw (Nat.le_of_ble_eq_true rfl) g6 dX0_keepBlock_61 ?_
          refine lv_iconst (v := 1) S.1 S.2.1 dX0_keepBlock_62 (by decide) ?_
          refine lv_iadd S.1 S.2.1 dX0_keepBlock_63 ?_
          refine s10 S hg hS hw (Nat.le_of_ble_eq_true rfl) g6 dX0_keepBlock_64 (fun H locs hw hS => ?_)
          refine lv_iload S.1 S.2.1 dX0_keepBlock_65 (lv_at hl 4 rfl) ?_
          exact r_iret (y := yX0_keepBlock) S hr rfl hlk hS (by omega) (by omega) dX0_keepBlock_67 ⟨l4, _, rfl, h, hw⟩
      · have h := h.2 c7
        refine lv_iload S.1 S.2.1 dX0_keepBlock_37 (lv_at hl 4 rfl) ?_
        refine lv_istore_n (lv' := [(3, .int l4), (0, .ref (ad 2 0)), (1, .ref (ad 10 1)), (2, .int l2), (4, .int l4)]) S.1 S.2.1 dX0_keepBlock_39 rfl hl (by decide) rfl (fun ls hl => ?_)
        refine lv_goto (tgt := 68) S.1 S.2.1 dX0_keepBlock_40 (by decide) ?_
        have hl := lv_sub hl (l' := [(0, .ref (ad 2 0)), (1, .ref (ad 10 1)), (2, .int l2), (3, .int l4), (4, .int l4)]) [1, 2, 3, 0, 4] rfl
        exact bX0_keepBlock_68 S hg hr hlk hout ih hS hw hl h
def wpX0_keepBlock (post : Int32 → KS → Prop) (K : KS) (p2 : Int32) : Prop := ((p2 < 0 → (post 0 K)) ∧ (¬ p2 < 0 → ((((p2 + 4) ≤ (nI 24) → (∃ n1 : Nat, wX0_keepBlock_19 post n1 p2 0 0 K)) ∧ (¬ (p2 + 4) ≤ (nI 24) → (post 0 K))))))
theorem hdX0_keepBlock : yX0_keepBlock.cls ≠ "java/lang/invoke/MethodHandle" ∧ yX0_keepBlock.cls ≠ "java/lang/invoke/VarHandle" ∧ (parseMethodDescriptor yX0_keepBlock.desc).map (fun d => d.parameters.length) = some 2 := by decide +kernel
set_option maxHeartbeats 4000000 in
set_option maxRecDepth 100000 in
theorem mtX0_keepBlock {l : Launch} {D : va_G} {cI : Nat → ClassId} {e0 : Nat} {A : Nat → Prop} {ad : Nat → Nat → Nat} {K M : KS} {ap o : Int64} {od : UInt64} {mc ms : Nat} {p2 : Int32} {post : Int32 → KS → Prop} (h : wpX0_keepBlock post K p2) : CM l D cI e0 A yX0_keepBlock cX0_keepBlock 5 (some FieldType.int) 1 40 mc ms [.ref (ad 2 0), .ref (ad 10 1), .int p2] (HT D cI e0 A ad K M ap o od) (qK D cI e0 A ad M ap o od rI post) xN := by
  refine CM.of (by decide) (Nat.le_of_ble_eq_true rfl) (fun p e s m below meth c ls FX hw hS hl => ?_)
  obtain ⟨S, hg, hr, hlk, hnm, hout⟩ := FX
  have hl : lv_has ls 5 [(0, .ref (ad 2 0)), (1, .ref (ad 10 1)), (2, .int p2)] := hl
  unfold wpX0_keepBlock at h
  refine lv_iload_n S.1 S.2.1 dX0_keepBlock_0 rfl (lv_at hl 2 rfl) ?_
  refine lv_if_lt (tgt := 12) S.1 S.2.1 dX0_keepBlock_1 (by decide) (fun c1 => ?_) (fun c1 => ?_)
  · have h := h.1 c1
    refine lv_iconst (v := 0) S.1 S.2.1 dX0_keepBlock_12 (by decide) ?_
    exact r_iret (y := yX0_keepBlock) S hr rfl hlk hS (by omega) (by omega) dX0_keepBlock_13 ⟨0, _, rfl, h, hw⟩
  · have h := h.2 c1
    refine lv_iload_n S.1 S.2.1 dX0_keepBlock_4 rfl (lv_at hl 2 rfl) ?_
    refine lv_iconst (v := 4) S.1 S.2.1 dX0_keepBlock_5 (by decide) ?_
    refine lv_iadd S.1 S.2.1 dX0_keepBlock_6 ?_
    refine lv_aload_n S.1 S.2.1 dX0_keepBlock_7 rfl (lv_at hl 1 rfl) ?_
    refine n10 S hg hw (Nat.le_of_ble_eq_true rfl) dX0_keepBlock_8 ?_
    refine lv_icmp_le (tgt := 14) S.1 S.2.1 dX0_keepBlock_9 (by decide) (fun c2 => ?_) (fun c2 => ?_)
    · have h := h.1 c2
      refine lv_iconst (v := 0) S.1 S.2.1 dX0_keepBlock_14 (by decide) ?_
      refine lv_istore_n (lv' := [(3, .int 0), (0, .ref (ad 2 0)), (1, .ref (ad 10 1)), (2, .int p2)]) S.1 S.2.1 dX0_keepBlock_15 rfl hl (by decide) rfl (fun ls hl => ?_)
      refine lv_iconst (v := 0) S.1 S.2.1 dX0_keepBlock_16 (by decide) ?_
      refine lv_istore (lv' := [(4, .int 0), (3, .int 0), (0, .ref (ad 2 0)), (1, .ref (ad 10 1)), (2, .int p2)]) S.1 S.2.1 dX0_keepBlock_17 hl (by decide) rfl (fun ls hl => ?_)
      have hl := lv_sub hl (l' := [(0, .ref (ad 2 0)), (1, .ref (ad 10 1)), (2, .int p2), (3, .int 0), (4, .int 0)]) [2, 3, 4, 1, 0] rfl
      obtain ⟨n1, h⟩ := h
      exact bX0_keepBlock_19 S hg hr hlk hout n1 hS hw hl h
    · have h := h.2 c2
      refine lv_iconst (v := 0) S.1 S.2.1 dX0_keepBlock_12 (by decide) ?_
      exact r_iret (y := yX0_keepBlock) S hr rfl hlk hS (by omega) (by omega) dX0_keepBlock_13 ⟨0, _, rfl, h, hw⟩

-- X0.dropBlock
theorem dX0_dropBlock_0 : decode cX0_dropBlock 0 = .ok (.iload_n 1, 1) := by decide +kernel
theorem dX0_dropBlock_1 : decode cX0_dropBlock 1 = .ok (.ifCond .lt 29, 3) := by decide +kernel
theorem dX0_dropBlock_4 : decode cX0_dropBlock 4 = .ok (.iload_n 1, 1) := by decide +kernel
theorem dX0_dropBlock_5 : decode cX0_dropBlock 5 = .ok (.sipush 288, 3) := by decide +kernel
theorem dX0_dropBlock_8 : decode cX0_dropBlock 8 = .ok (.if_icmp .ge 22, 3) := by decide +kernel
theorem dX0_dropBlock_11 : decode cX0_dropBlock 11 = .ok (.aload_n 0, 1) := by decide +kernel
theorem dX0_dropBlock_12 : decode cX0_dropBlock 12 = .ok (.getfield 15, 3) := by decide +kernel
theorem dX0_dropBlock_15 : decode cX0_dropBlock 15 = .ok (.iload_n 1, 1) := by decide +kernel
theorem dX0_dropBlock_16 : decode cX0_dropBlock 16 = .ok (.iaload, 1) := by decide +kernel
theorem dX0_dropBlock_17 : decode cX0_dropBlock 17 = .ok (.ifCond .le 13, 3) := by decide +kernel
theorem dX0_dropBlock_20 : decode cX0_dropBlock 20 = .ok (.aload_n 0, 1) := by decide +kernel
theorem dX0_dropBlock_21 : decode cX0_dropBlock 21 = .ok (.getfield 15, 3) := by decide +kernel
theorem dX0_dropBlock_24 : decode cX0_dropBlock 24 = .ok (.iload_n 1, 1) := by decide +kernel
theorem dX0_dropBlock_25 : decode cX0_dropBlock 25 = .ok (.dup2, 1) := by decide +kernel
theorem dX0_dropBlock_26 : decode cX0_dropBlock 26 = .ok (.iaload, 1) := by decide +kernel
theorem dX0_dropBlock_27 : decode cX0_dropBlock 27 = .ok (.iconst 1, 1) := by decide +kernel
theorem dX0_dropBlock_28 : decode cX0_dropBlock 28 = .ok (.isub, 1) := by decide +kernel
theorem dX0_dropBlock_29 : decode cX0_dropBlock 29 = .ok (.iastore, 1) := by decide +kernel
theorem dX0_dropBlock_30 : decode cX0_dropBlock 30 = .ok (.return_, 1) := by decide +kernel
def wpX0_dropBlock (post : Unit → KS → Prop) (K : KS) (p1 : Int32) : Prop := ((p1 < 0 → (post () K)) ∧ (¬ p1 < 0 → (((288 ≤ p1 → (post () K)) ∧ (¬ 288 ≤ p1 → ((vp_in p1 288) ∧ ((((K 10 3 p1.toNatClampNeg) ≤ 0 → (post () K)) ∧ (¬ (K 10 3 p1.toNatClampNeg) ≤ 0 → (post () (k3 K 10 3 p1.toNatClampNeg ((K 10 3 p1.toNatClampNeg) - 1))))))))))))
theorem hdX0_dropBlock : yX0_dropBlock.cls ≠ "java/lang/invoke/MethodHandle" ∧ yX0_dropBlock.cls ≠ "java/lang/invoke/VarHandle" ∧ (parseMethodDescriptor yX0_dropBlock.desc).map (fun d => d.parameters.length) = some 1 := by decide +kernel
set_option maxHeartbeats 4000000 in
set_option maxRecDepth 100000 in
theorem mtX0_dropBlock {l : Launch} {D : va_G} {cI : Nat → ClassId} {e0 : Nat} {A : Nat → Prop} {ad : Nat → Nat → Nat} {K M : KS} {ap o : Int64} {od : UInt64} {mc ms : Nat} {p1 : Int32} {post : Unit → KS → Prop} (h : wpX0_dropBlock post K p1) : CM l D cI e0 A yX0_dropBlock cX0_dropBlock 2 none 0 0 mc ms [.ref (ad 2 0), .int p1] (HT D cI e0 A ad K M ap o od) (qK D cI e0 A ad M ap o od rV post) xN := by
  refine CM.of (by decide) (Nat.le_of_ble_eq_true rfl) (fun p e s m below meth c ls FX hw hS hl => ?_)
  obtain ⟨S, hg, hr, hlk, hnm, hout⟩ := FX
  have hl : lv_has ls 2 [(0, .ref (ad 2 0)), (1, .int p1)] := hl
  unfold wpX0_dropBlock at h
  refine lv_iload_n S.1 S.2.1 dX0_dropBlock_0 rfl (lv_at hl 1 rfl) ?_
  refine lv_if_lt (tgt := 30) S.1 S.2.1 dX0_dropBlock_1 (by decide) (fun c1 => ?_) (fun c1 => ?_)
  · have h := h.1 c1
    exact r_vret (y := yX0_dropBlock) S hr hlk hS (by omega) (by omega) dX0_dropBlock_30 ⟨(), _, rfl, h, hw⟩
  · have h := h.2 c1
    refine lv_iload_n S.1 S.2.1 dX0_dropBlock_4 rfl (lv_at hl 1 rfl) ?_
    refine lv_sipush (v := 288) S.1 S.2.1 dX0_dropBlock_5 (by decide) ?_
    refine lv_icmp_ge (tgt := 30) S.1 S.2.1 dX0_dropBlock_8 (by decide) (fun c2 => ?_) (fun c2 => ?_)
    · have h := h.1 c2
      exact r_vret (y := yX0_dropBlock) S hr hlk hS (by omega) (by omega) dX0_dropBlock_30 ⟨(), _, rfl, h, hw⟩
    · have h := h.2 c2
      refine lv_aload_n S.1 S.2.1 dX0_dropBlock_11 rfl (lv_at hl 0 rfl) ?_
      refine g2_1 S hg hw u110 dX0_dropBlock_12 ?_
      refine lv_iload_n S.1 S.2.1 dX0_dropBlock_15 rfl (lv_at hl 1 rfl) ?_
      obtain ⟨g3, h⟩ := h
      refine a10 S hg hw (Nat.le_of_ble_eq_true rfl) g3 dX0_dropBlock_16 ?_
      refine lv_if_le (tgt := 30) S.1 S.2.1 dX0_dropBlock_17 (by decide) (fun c4 => ?_) (fun c4 => ?_)
      · have h := h.1 c4
        exact r_vret (y := yX0_dropBlock) S hr hlk hS (by omega) (by omega) dX0_dropBlock_30 ⟨(), _, rfl, h, hw⟩
      · have h := h.2 c4
        refine lv_aload_n S.1 S.2.1 dX0_dropBlock_20 rfl (lv_at hl 0 rfl) ?_
        refine g2_1 S hg hw u110 dX0_dropBlock_21 ?_
        refine lv_iload_n S.1 S.2.1 dX0_dropBlock_24 rfl (lv_at hl 1 rfl) ?_
        refine lv_dup2_11 S.1 S.2.1 dX0_dropBlock_25 rfl rfl ?_
        refine a10 S hg hw (Nat.le_of_ble_eq_true rfl) g3 dX0_dropBlock_26 ?_
        refine lv_iconst (v := 1) S.1 S.2.1 dX0_dropBlock_27 (by decide) ?_
        refine lv_isub S.1 S.2.1 dX0_dropBlock_28 ?_
        refine s10 S hg hS hw (Nat.le_of_ble_eq_true rfl) g3 dX0_dropBlock_29 (fun H locs hw hS => ?_)
        exact r_vret (y := yX0_dropBlock) S hr hlk hS (by omega) (by omega) dX0_dropBlock_30 ⟨(), _, rfl, h, hw⟩

-- X0.numberIn
theorem dX0_numberIn_0 : decode cX0_numberIn 0 = .ok (.iload_n 1, 1) := by decide +kernel
theorem dX0_numberIn_1 : decode cX0_numberIn 1 = .ok (.iconst 4, 1) := by decide +kernel
theorem dX0_numberIn_2 : decode cX0_numberIn 2 = .ok (.imul, 1) := by decide +kernel
theorem dX0_numberIn_3 : decode cX0_numberIn 3 = .ok (.iload_n 2, 1) := by decide +kernel
theorem dX0_numberIn_4 : decode cX0_numberIn 4 = .ok (.iadd, 1) := by decide +kernel
theorem dX0_numberIn_5 : decode cX0_numberIn 5 = .ok (.istore_n 3, 1) := by decide +kernel
theorem dX0_numberIn_6 : decode cX0_numberIn 6 = .ok (.iload_n 3, 1) := by decide +kernel
theorem dX0_numberIn_7 : decode cX0_numberIn 7 = .ok (.ifCond .lt 21, 3) := by decide +kernel
theorem dX0_numberIn_10 : decode cX0_numberIn 10 = .ok (.iload_n 3, 1) := by decide +kernel
theorem dX0_numberIn_11 : decode cX0_numberIn 11 = .ok (.aload_n 0, 1) := by decide +kernel
theorem dX0_numberIn_12 : decode cX0_numberIn 12 = .ok (.getfield 11, 3) := by decide +kernel
theorem dX0_numberIn_15 : decode cX0_numberIn 15 = .ok (.arraylength, 1) := by decide +kernel
theorem dX0_numberIn_16 : decode cX0_numberIn 16 = .ok (.if_icmp .ge 12, 3) := by decide +kernel
theorem dX0_numberIn_19 : decode cX0_numberIn 19 = .ok (.aload_n 0, 1) := by decide +kernel
theorem dX0_numberIn_20 : decode cX0_numberIn 20 = .ok (.getfield 11, 3) := by decide +kernel
theorem dX0_numberIn_23 : decode cX0_numberIn 23 = .ok (.iload_n 3, 1) := by decide +kernel
theorem dX0_numberIn_24 : decode cX0_numberIn 24 = .ok (.iaload, 1) := by decide +kernel
theorem dX0_numberIn_25 : decode cX0_numberIn 25 = .ok (.goto 4, 3) := by decide +kernel
theorem dX0_numberIn_28 : decode cX0_numberIn 28 = .ok (.iconst 0, 1) := by decide +kernel
theorem dX0_numberIn_29 : decode cX0_numberIn 29 = .ok (.ireturn, 1) := by decide +kernel
def wpX0_numberIn (post : Int32 → Prop) (K : KS) (p1 : Int32) (p2 : Int32) : Prop := ((((p1 * 4) + p2) < 0 → (post 0)) ∧ (¬ ((p1 * 4) + p2) < 0 → ((((nI 1152) ≤ ((p1 * 4) + p2) → (post 0)) ∧ (¬ (nI 1152) ≤ ((p1 * 4) + p2) → ((vp_in ((p1 * 4) + p2) 1152) ∧ (post (K 10 2 (((p1 * 4) + p2).toNatClampNeg)))))))))
theorem hdX0_numberIn : yX0_numberIn.cls ≠ "java/lang/invoke/MethodHandle" ∧ yX0_numberIn.cls ≠ "java/lang/invoke/VarHandle" ∧ (parseMethodDescriptor yX0_numberIn.desc).map (fun d => d.parameters.length) = some 2 := by decide +kernel
set_option maxHeartbeats 4000000 in
set_option maxRecDepth 100000 in
theorem mtX0_numberIn {l : Launch} {D : va_G} {cI : Nat → ClassId} {e0 : Nat} {A : Nat → Prop} {ad : Nat → Nat → Nat} {K M : KS} {ap o : Int64} {od : UInt64} {mc ms : Nat} {p1 : Int32} {p2 : Int32} {post : Int32 → Prop} (h : wpX0_numberIn post K p1 p2) : CM l D cI e0 A yX0_numberIn cX0_numberIn 4 (some FieldType.int) 0 0 mc ms [.ref (ad 2 0), .int p1, .int p2] (HT D cI e0 A ad K M ap o od) (qP D cI e0 A ad K M ap o od rI post) xN := by
  refine CM.of (by decide) (Nat.le_of_ble_eq_true rfl) (fun p e s m below meth c ls FX hw hS hl => ?_)
  obtain ⟨S, hg, hr, hlk, hnm, hout⟩ := FX
  have hl : lv_has ls 4 [(0, .ref (ad 2 0)), (1, .int p1), (2, .int p2)] := hl
  unfold wpX0_numberIn at h
  refine lv_iload_n S.1 S.2.1 dX0_numberIn_0 rfl (lv_at hl 1 rfl) ?_
  refine lv_iconst (v := 4) S.1 S.2.1 dX0_numberIn_1 (by decide) ?_
  refine lv_imul S.1 S.2.1 dX0_numberIn_2 ?_
  refine lv_iload_n S.1 S.2.1 dX0_numberIn_3 rfl (lv_at hl 2 rfl) ?_
  refine lv_iadd S.1 S.2.1 dX0_numberIn_4 ?_
  refine lv_istore_n (lv' := [(3, .int ((p1 * 4) + p2)), (0, .ref (ad 2 0)), (1, .int p1), (2, .int p2)]) S.1 S.2.1 dX0_numberIn_5 rfl hl (by decide) rfl (fun ls hl => ?_)
  refine lv_iload_n S.1 S.2.1 dX0_numberIn_6 rfl (lv_at hl 0 rfl) ?_
  refine lv_if_lt (tgt := 28) S.1 S.2.1 dX0_numberIn_7 (by decide) (fun c1 => ?_) (fun c1 => ?_)
  · have h := h.1 c1
    refine lv_iconst (v := 0) S.1 S.2.1 dX0_numberIn_28 (by decide) ?_
    exact r_iret (y := yX0_numberIn) S hr rfl hlk hS (by omega) (by omega) dX0_numberIn_29 ⟨0, rfl, h, hw⟩
  · have h := h.2 c1
    refine lv_iload_n S.1 S.2.1 dX0_numberIn_10 rfl (lv_at hl 0 rfl) ?_
    refine lv_aload_n S.1 S.2.1 dX0_numberIn_11 rfl (lv_at hl 1 rfl) ?_
    refine g2_0 S hg hw u109 dX0_numberIn_12 ?_
    refine n10 S hg hw (Nat.le_of_ble_eq_true rfl) dX0_numberIn_15 ?_
    refine lv_icmp_ge (tgt := 28) S.1 S.2.1 dX0_numberIn_16 (by decide) (fun c2 => ?_) (fun c2 => ?_)
    · have h := h.1 c2
      refine lv_iconst (v := 0) S.1 S.2.1 dX0_numberIn_28 (by decide) ?_
      exact r_iret (y := yX0_numberIn) S hr rfl hlk hS (by omega) (by omega) dX0_numberIn_29 ⟨0, rfl, h, hw⟩
    · have h := h.2 c2
      refine lv_aload_n S.1 S.2.1 dX0_numberIn_19 rfl (lv_at hl 1 rfl) ?_
      refine g2_0 S hg hw u109 dX0_numberIn_20 ?_
      refine lv_iload_n S.1 S.2.1 dX0_numberIn_23 rfl (lv_at hl 0 rfl) ?_
      obtain ⟨g3, h⟩ := h
      refine a10 S hg hw (Nat.le_of_ble_eq_true rfl) g3 dX0_numberIn_24 ?_
      refine lv_goto (tgt := 29) S.1 S.2.1 dX0_numberIn_25 (by decide) ?_
      exact r_iret (y := yX0_numberIn) S hr rfl hlk hS (by omega) (by omega) dX0_numberIn_29 ⟨(K 10 2 (((p1 * 4) + p2).toNatClampNeg)), rfl, h, hw⟩

-- X0.countKept
theorem dX0_countKept_0 : decode cX0_countKept 0 = .ok (.iconst 0, 1) := by decide +kernel
theorem dX0_countKept_1 : decode cX0_countKept 1 = .ok (.istore_n 1, 1) := by decide +kernel
theorem dX0_countKept_2 : decode cX0_countKept 2 = .ok (.iconst 0, 1) := by decide +kernel
theorem dX0_countKept_3 : decode cX0_countKept 3 = .ok (.istore_n 2, 1) := by decide +kernel
theorem dX0_countKept_4 : decode cX0_countKept 4 = .ok (.iload_n 2, 1) := by decide +kernel
theorem dX0_countKept_5 : decode cX0_countKept 5 = .ok (.sipush 288, 3) := by decide +kernel
theorem dX0_countKept_8 : decode cX0_countKept 8 = .ok (.if_icmp .ge 21, 3) := by decide +kernel
theorem dX0_countKept_11 : decode cX0_countKept 11 = .ok (.aload_n 0, 1) := by decide +kernel
theorem dX0_countKept_12 : decode cX0_countKept 12 = .ok (.getfield 15, 3) := by decide +kernel
theorem dX0_countKept_15 : decode cX0_countKept 15 = .ok (.iload_n 2, 1) := by decide +kernel
theorem dX0_countKept_16 : decode cX0_countKept 16 = .ok (.iaload, 1) := by decide +kernel
theorem dX0_countKept_17 : decode cX0_countKept 17 = .ok (.ifCond .le 6, 3) := by decide +kernel
theorem dX0_countKept_20 : decode cX0_countKept 20 = .ok (.iinc 1 1, 3) := by decide +kernel
theorem dX0_countKept_23 : decode cX0_countKept 23 = .ok (.iinc 2 1, 3) := by decide +kernel
theorem dX0_countKept_26 : decode cX0_countKept 26 = .ok (.goto (-22), 3) := by decide +kernel
theorem dX0_countKept_29 : decode cX0_countKept 29 = .ok (.iload_n 1, 1) := by decide +kernel
theorem dX0_countKept_30 : decode cX0_countKept 30 = .ok (.ireturn, 1) := by decide +kernel
def wX0_countKept_23 (post : Int32 → Prop) (bk4 : Int32 → Int32 → KS → Prop) (l1 : Int32) (l2 : Int32) (K : KS) : Prop := bk4 l1 (l2 + 1) K
set_option maxHeartbeats 4000000 in
set_option maxRecDepth 100000 in
theorem bX0_countKept_23 {p : Program} {l : Launch} {e : Env} {s : State} {m : MethodId} {args : Array Value} {below : List Frame} {meth : Method} {c : Code} {D : va_G} {cI : Nat → ClassId} {e0 : Nat} {A : Nat → Prop} {ad : Nat → Nat → Nat} {M : KS} {ap : Int64} {o : Int64} {od : UInt64} {mc ms : Nat} {K : KS} {post : Int32 → Prop} {bk4 : Int32 → Int32 → KS → Prop} (S : CallFix p m c cX0_countKept 3 s args WU RX0) (hg : GI D cI e0 A s s.heap) (hr : meth.sig.returnType = (some FieldType.int)) (hlk : meth.locks = false) (hout : ∀ x ∈ c.exceptionTable.toList, False) (hbk4 : ∀ {H : Heap} {locs : List Loc} {ls : Array Slot} {l1 : Int32} {l2 : Int32}, va_S A s.heap H locs → HT D cI e0 A ad K M ap o od H → lv_has ls 3 [(0, .ref (ad 2 0)), (1, .int l1), (2, .int l2)] → bk4 l1 l2 K → W p l e ({ frames := 0, cells := mc, slots := ms, locals := 0 } : Room) s m args below meth c H locs 0 0 (MQQ below (qP D cI e0 A ad K M ap o od rI post) xN args s mc ms A) (F0 m 4 ls [])) {H : Heap} {locs : List Loc} {ls : Array Slot} {l1 : Int32} {l2 : Int32} (hS : va_S A s.heap H locs) (hw : HT D cI e0 A ad K M ap o od H) (hl : lv_has ls 3 [(0, .ref (ad 2 0)), (1, .int l1), (2, .int l2)]) (h : wX0_countKept_23 post bk4 l1 l2 K) : W p l e ({ frames := 0, cells := mc, slots := ms, locals := 0 } : Room) s m args below meth c H locs 0 0 (MQQ below (qP D cI e0 A ad K M ap o od rI post) xN args s mc ms A) (F0 m 23 ls []) := by
  unfold wX0_countKept_23 at h
  refine lv_iinc (v := l2 + 1) (lv' := [(2, .int (l2 + 1)), (0, .ref (ad 2 0)), (1, .int l1)]) S.1 S.2.1 dX0_countKept_23 hl (k := 2) rfl rfl (by decide) rfl (fun ls hl => ?_)
  refine lv_goto (tgt := 4) S.1 S.2.1 dX0_countKept_26 (by decide) ?_
  have hl := lv_sub hl (l' := [(0, .ref (ad 2 0)), (1, .int l1), (2, .int (l2 + 1))]) [1, 2, 0] rfl
  exact hbk4 hS hw hl h
def wX0_countKept_4 (post : Int32 → Prop) : Nat → Int32 → Int32 → KS → Prop
  | 0 => fun _ _ _ => False
  | n + 1 => fun l1 l2 K => ((288 ≤ l2 → (post l1)) ∧ (¬ 288 ≤ l2 → ((vp_in l2 288) ∧ ((((K 10 3 l2.toNatClampNeg) ≤ 0 → (wX0_countKept_23 post (wX0_countKept_4 post n) l1 l2 K)) ∧ (¬ (K 10 3 l2.toNatClampNeg) ≤ 0 → (wX0_countKept_23 post (wX0_countKept_4 post n) (l1 + 1) l2 K)))))))
set_option maxHeartbeats 4000000 in
set_option maxRecDepth 100000 in
theorem bX0_countKept_4 {p : Program} {l : Launch} {e : Env} {s : State} {m : MethodId} {args : Array Value} {below : List Frame} {meth : Method} {c : Code} {D : va_G} {cI : Nat → ClassId} {e0 : Nat} {A : Nat → Prop} {ad : Nat → Nat → Nat} {M : KS} {ap : Int64} {o : Int64} {od : UInt64} {mc ms : Nat} {K : KS} {post : Int32 → Prop} (S : CallFix p m c cX0_countKept 3 s args WU RX0) (hg : GI D cI e0 A s s.heap) (hr : meth.sig.returnType = (some FieldType.int)) (hlk : meth.locks = false) (hout : ∀ x ∈ c.exceptionTable.toList, False) : ∀ n : Nat, ∀ {H : Heap} {locs : List Loc} {ls : Array Slot} {l1 : Int32} {l2 : Int32}, va_S A s.heap H locs → HT D cI e0 A ad K M ap o od H → lv_has ls 3 [(0, .ref (ad 2 0)), (1, .int l1), (2, .int l2)] → wX0_countKept_4 post n l1 l2 K → W p l e ({ frames := 0, cells := mc, slots := ms, locals := 0 } : Room) s m args below meth c H locs 0 0 (MQQ below (qP D cI e0 A ad K M ap o od rI post) xN args s mc ms A) (F0 m 4 ls []) := by
  intro n
  induction n with
  | zero => intros; exact False.elim (by assumption)
  | succ n ih =>
    intro H locs ls l1 l2 hS hw hl h
    unfold wX0_countKept_4 at h
    refine lv_iload_n S.1 S.2.1 dX0_countKept_4 rfl (lv_at hl 2 rfl) ?_
    refine lv_sipush (v := 288) S.1 S.2.1 dX0_countKept_5 (by decide) ?_
    refine lv_icmp_ge (tgt := 29) S.1 S.2.1 dX0_countKept_8 (by decide) (fun c1 => ?_) (fun c1 => ?_)
    · have h := h.1 c1
      refine lv_iload_n S.1 S.2.1 dX0_countKept_29 rfl (lv_at hl 1 rfl) ?_
      exact r_iret (y := yX0_countKept) S hr rfl hlk hS (by omega) (by omega) dX0_countKept_30 ⟨l1, rfl, h, hw⟩
    · have h := h.2 c1
      refine lv_aload_n S.1 S.2.1 dX0_countKept_11 rfl (lv_at hl 0 rfl) ?_
      refine g2_1 S hg hw u110 dX0_countKept_12 ?_
      refine lv_iload_n S.1 S.2.1 dX0_countKept_15 rfl (lv_at hl 2 rfl) ?_
      obtain ⟨g2, h⟩ := h
      refine a10 S hg hw (Nat.le_of_ble_eq_true rfl) g2 dX0_countKept_16 ?_
      refine lv_if_le (tgt := 23) S.1 S.2.1 dX0_countKept_17 (by decide) (fun c3 => ?_) (fun c3 => ?_)
      · have h := h.1 c3
        have hl := lv_sub hl (l' := [(0, .ref (ad 2 0)), (1, .int l1), (2, .int l2)]) [0, 1, 2] rfl
        exact bX0_countKept_23 S hg hr hlk hout ih hS hw hl h
      · have h := h.2 c3
        refine lv_iinc (v := l1 + 1) (lv' := [(1, .int (l1 + 1)), (0, .ref (ad 2 0)), (2, .int l2)]) S.1 S.2.1 dX0_countKept_20 hl (k := 1) rfl rfl (by decide) rfl (fun ls hl => ?_)
        have hl := lv_sub hl (l' := [(0, .ref (ad 2 0)), (1, .int (l1 + 1)), (2, .int l2)]) [1, 0, 2] rfl
        exact bX0_countKept_23 S hg hr hlk hout ih hS hw hl h
def wpX0_countKept (post : Int32 → Prop) (K : KS) : Prop := ∃ n1 : Nat, wX0_countKept_4 post n1 0 0 K
theorem hdX0_countKept : yX0_countKept.cls ≠ "java/lang/invoke/MethodHandle" ∧ yX0_countKept.cls ≠ "java/lang/invoke/VarHandle" ∧ (parseMethodDescriptor yX0_countKept.desc).map (fun d => d.parameters.length) = some 0 := by decide +kernel
set_option maxHeartbeats 4000000 in
set_option maxRecDepth 100000 in
theorem mtX0_countKept {l : Launch} {D : va_G} {cI : Nat → ClassId} {e0 : Nat} {A : Nat → Prop} {ad : Nat → Nat → Nat} {K M : KS} {ap o : Int64} {od : UInt64} {mc ms : Nat} {post : Int32 → Prop} (h : wpX0_countKept post K) : CM l D cI e0 A yX0_countKept cX0_countKept 3 (some FieldType.int) 0 0 mc ms [.ref (ad 2 0)] (HT D cI e0 A ad K M ap o od) (qP D cI e0 A ad K M ap o od rI post) xN := by
  refine CM.of (by decide) (Nat.le_of_ble_eq_true rfl) (fun p e s m below meth c ls FX hw hS hl => ?_)
  obtain ⟨S, hg, hr, hlk, hnm, hout⟩ := FX
  have hl : lv_has ls 3 [(0, .ref (ad 2 0))] := hl
  unfold wpX0_countKept at h
  refine lv_iconst (v := 0) S.1 S.2.1 dX0_countKept_0 (by decide) ?_
  refine lv_istore_n (lv' := [(1, .int 0), (0, .ref (ad 2 0))]) S.1 S.2.1 dX0_countKept_1 rfl hl (by decide) rfl (fun ls hl => ?_)
  refine lv_iconst (v := 0) S.1 S.2.1 dX0_countKept_2 (by decide) ?_
  refine lv_istore_n (lv' := [(2, .int 0), (1, .int 0), (0, .ref (ad 2 0))]) S.1 S.2.1 dX0_countKept_3 rfl hl (by decide) rfl (fun ls hl => ?_)
  have hl := lv_sub hl (l' := [(0, .ref (ad 2 0)), (1, .int 0), (2, .int 0)]) [2, 1, 0] rfl
  obtain ⟨n1, h⟩ := h
  exact bX0_countKept_4 S hg hr hlk hout n1 hS hw hl h

-- X2.keep
theorem dX2_keep_0 : decode cX2_keep 0 = .ok (.aload_n 0, 1) := by decide +kernel
theorem dX2_keep_1 : decode cX2_keep 1 = .ok (.getfield 121, 3) := by decide +kernel
theorem dX2_keep_4 : decode cX2_keep 4 = .ok (.bipush 6, 2) := by decide +kernel
theorem dX2_keep_6 : decode cX2_keep 6 = .ok (.if_icmp .ge 10, 3) := by decide +kernel
theorem dX2_keep_9 : decode cX2_keep 9 = .ok (.aload_n 1, 1) := by decide +kernel
theorem dX2_keep_10 : decode cX2_keep 10 = .ok (.arraylength, 1) := by decide +kernel
theorem dX2_keep_11 : decode cX2_keep 11 = .ok (.bipush 24, 2) := by decide +kernel
theorem dX2_keep_13 : decode cX2_keep 13 = .ok (.if_icmp .ge 4, 3) := by decide +kernel
theorem dX2_keep_16 : decode cX2_keep 16 = .ok (.return_, 1) := by decide +kernel
theorem dX2_keep_17 : decode cX2_keep 17 = .ok (.iconst 0, 1) := by decide +kernel
theorem dX2_keep_18 : decode cX2_keep 18 = .ok (.istore_n 3, 1) := by decide +kernel
theorem dX2_keep_19 : decode cX2_keep 19 = .ok (.iload_n 3, 1) := by decide +kernel
theorem dX2_keep_20 : decode cX2_keep 20 = .ok (.bipush 6, 2) := by decide +kernel
theorem dX2_keep_22 : decode cX2_keep 22 = .ok (.if_icmp .ge 28, 3) := by decide +kernel
theorem dX2_keep_25 : decode cX2_keep 25 = .ok (.aload_n 0, 1) := by decide +kernel
theorem dX2_keep_26 : decode cX2_keep 26 = .ok (.getfield 25, 3) := by decide +kernel
theorem dX2_keep_29 : decode cX2_keep 29 = .ok (.aload_n 0, 1) := by decide +kernel
theorem dX2_keep_30 : decode cX2_keep 30 = .ok (.getfield 121, 3) := by decide +kernel
theorem dX2_keep_33 : decode cX2_keep 33 = .ok (.aaload, 1) := by decide +kernel
theorem dX2_keep_34 : decode cX2_keep 34 = .ok (.iload_n 3, 1) := by decide +kernel
theorem dX2_keep_35 : decode cX2_keep 35 = .ok (.aload_n 2, 1) := by decide +kernel
theorem dX2_keep_36 : decode cX2_keep 36 = .ok (.aload_n 1, 1) := by decide +kernel
theorem dX2_keep_37 : decode cX2_keep 37 = .ok (.iload_n 3, 1) := by decide +kernel
theorem dX2_keep_38 : decode cX2_keep 38 = .ok (.iconst 4, 1) := by decide +kernel
theorem dX2_keep_39 : decode cX2_keep 39 = .ok (.imul, 1) := by decide +kernel
theorem dX2_keep_40 : decode cX2_keep 40 = .ok (.invokevirtual 124, 3) := by decide +kernel
theorem dX2_keep_43 : decode cX2_keep 43 = .ok (.iastore, 1) := by decide +kernel
theorem dX2_keep_44 : decode cX2_keep 44 = .ok (.iinc 3 1, 3) := by decide +kernel
theorem dX2_keep_47 : decode cX2_keep 47 = .ok (.goto (-28), 3) := by decide +kernel
theorem dX2_keep_50 : decode cX2_keep 50 = .ok (.aload_n 0, 1) := by decide +kernel
theorem dX2_keep_51 : decode cX2_keep 51 = .ok (.getfield 19, 3) := by decide +kernel
theorem dX2_keep_54 : decode cX2_keep 54 = .ok (.iconst 0, 1) := by decide +kernel
theorem dX2_keep_55 : decode cX2_keep 55 = .ok (.aload_n 0, 1) := by decide +kernel
theorem dX2_keep_56 : decode cX2_keep 56 = .ok (.getfield 28, 3) := by decide +kernel
theorem dX2_keep_59 : decode cX2_keep 59 = .ok (.aload_n 0, 1) := by decide +kernel
theorem dX2_keep_60 : decode cX2_keep 60 = .ok (.getfield 121, 3) := by decide +kernel
theorem dX2_keep_63 : decode cX2_keep 63 = .ok (.aaload, 1) := by decide +kernel
theorem dX2_keep_64 : decode cX2_keep 64 = .ok (.iconst 0, 1) := by decide +kernel
theorem dX2_keep_65 : decode cX2_keep 65 = .ok (.bipush 8, 2) := by decide +kernel
theorem dX2_keep_67 : decode cX2_keep 67 = .ok (.invokestatic 115, 3) := by decide +kernel
theorem dX2_keep_70 : decode cX2_keep 70 = .ok (.aload_n 0, 1) := by decide +kernel
theorem dX2_keep_71 : decode cX2_keep 71 = .ok (.dup, 1) := by decide +kernel
theorem dX2_keep_72 : decode cX2_keep 72 = .ok (.getfield 121, 3) := by decide +kernel
theorem dX2_keep_75 : decode cX2_keep 75 = .ok (.iconst 1, 1) := by decide +kernel
theorem dX2_keep_76 : decode cX2_keep 76 = .ok (.iadd, 1) := by decide +kernel
theorem dX2_keep_77 : decode cX2_keep 77 = .ok (.putfield 121, 3) := by decide +kernel
theorem dX2_keep_80 : decode cX2_keep 80 = .ok (.return_, 1) := by decide +kernel
def wX2_keep_19 (post : Unit → KS → Prop) : Nat → Nat → Int32 → KS → Prop
  | 0 => fun _ _ _ => False
  | n + 1 => fun l0 l3 K => ((6 ≤ l3 → ((l0 < nD K) ∧ ((vp_in (K 6 8 l0) 6) ∧ ((okCpy 0 0 8 8 8) ∧ (post () (k3 (kr K 20 (6 * l0 + (K 6 8 l0).toNatClampNeg) (va_cpy (K 17 l0) (K 20 (6 * l0 + (K 6 8 l0).toNatClampNeg)) ((0 : Int32).toNatClampNeg) ((0 : Int32).toNatClampNeg) ((8 : Int32).toNatClampNeg))) 6 8 l0 (((kr K 20 (6 * l0 + (K 6 8 l0).toNatClampNeg) (va_cpy (K 17 l0) (K 20 (6 * l0 + (K 6 8 l0).toNatClampNeg)) ((0 : Int32).toNatClampNeg) ((0 : Int32).toNatClampNeg) ((8 : Int32).toNatClampNeg))) 6 8 l0) + 1))))))) ∧ (¬ 6 ≤ l3 → ((l0 < nD K) ∧ ((vp_in (K 6 8 l0) 6) ∧ ((wpX0_keepBlock (fun r10 K11 => (6 * l0 + (K 6 8 l0).toNatClampNeg < 6 * nD K11) ∧ (vp_in l3 6) ∧ (wX2_keep_19 post n l0 (l3 + 1) (k3 K11 19 (6 * l0 + (K 6 8 l0).toNatClampNeg) l3.toNatClampNeg r10))) K (l3 * 4)))))))
set_option maxHeartbeats 4000000 in
set_option maxRecDepth 100000 in
theorem bX2_keep_19 {p : Program} {l : Launch} {e : Env} {s : State} {m : MethodId} {args : Array Value} {below : List Frame} {meth : Method} {c : Code} {D : va_G} {cI : Nat → ClassId} {e0 : Nat} {A : Nat → Prop} {ad : Nat → Nat → Nat} {M : KS} {ap : Int64} {o : Int64} {od : UInt64} {mc ms : Nat} {post : Unit → KS → Prop} (S : CallFix p m c cX2_keep 4 s args WU RX2) (hg : GI D cI e0 A s s.heap) (hr : meth.sig.returnType = none) (hlk : meth.locks = false) (hout : ∀ x ∈ c.exceptionTable.toList, False) : ∀ n : Nat, ∀ {H : Heap} {locs : List Loc} {ls : Array Slot} {l0 : Nat} {l3 : Int32} {K : KS}, va_S A s.heap H locs → HT D cI e0 A ad K M ap o od H → lv_has ls 4 [(0, .ref (ad 6 l0)), (1, .ref (ad 10 1)), (2, .ref (ad 2 0)), (3, .int l3)] → wX2_keep_19 post n l0 l3 K → W p l e ({ frames := 2, cells := mc, slots := ms, locals := 64 } : Room) s m args below meth c H locs 0 0 (MQQ below (qK D cI e0 A ad M ap o od rV post) xN args s mc ms A) (F0 m 19 ls []) := by
  intro n
  induction n with
  | zero => intros; exact False.elim (by assumption)
  | succ n ih =>
    intro H locs ls l0 l3 K hS hw hl h
    unfold wX2_keep_19 at h
    refine lv_iload_n S.1 S.2.1 dX2_keep_19 rfl (lv_at hl 3 rfl) ?_
    refine lv_bipush (v := 6) S.1 S.2.1 dX2_keep_20 (by decide) ?_
    refine lv_icmp_ge (tgt := 50) S.1 S.2.1 dX2_keep_22 (by decide) (fun c4 => ?_) (fun c4 => ?_)
    · have h := h.1 c4
      refine lv_aload_n S.1 S.2.1 dX2_keep_50 rfl (lv_at hl 0 rfl) ?_
      obtain ⟨g5, h⟩ := h
      refine g6_6 S hg hw g5 u584 dX2_keep_51 ?_
      refine lv_iconst (v := 0) S.1 S.2.1 dX2_keep_54 (by decide) ?_
      refine lv_aload_n S.1 S.2.1 dX2_keep_55 rfl (lv_at hl 0 rfl) ?_
      refine g6_10 S hg hw g5 u590 dX2_keep_56 ?_
      refine lv_aload_n S.1 S.2.1 dX2_keep_59 rfl (lv_at hl 0 rfl) ?_
      refine g6_8 S hg hw g5 u587 dX2_keep_60 ?_
      obtain ⟨g6, h⟩ := h
      refine a21 S hg hw g5 g6 dX2_keep_63 ?_
      refine lv_iconst (v := 0) S.1 S.2.1 dX2_keep_64 (by decide) ?_
      refine lv_bipush (v := 8) S.1 S.2.1 dX2_keep_65 (by decide) ?_
      obtain ⟨g7, h⟩ := h
      refine cp_17_20 S hg hS hw g5 (lt6 g5 g6) g7 hl.1 (Nat.le_of_ble_eq_true rfl) (Nat.le_of_ble_eq_true rfl) u807 dX2_keep_67 (fun H locs hw hS => ?_)
      refine lv_aload_n S.1 S.2.1 dX2_keep_70 rfl (lv_at hl 0 rfl) ?_
      refine lv_dup S.1 S.2.1 dX2_keep_71 rfl ?_
      refine g6_8 S hg hw g5 u587 dX2_keep_72 ?_
      refine lv_iconst (v := 1) S.1 S.2.1 dX2_keep_75 (by decide) ?_
      refine lv_iadd S.1 S.2.1 dX2_keep_76 ?_
      refine p6_8 S hg hS hw g5 u587 dX2_keep_77 (fun H locs hw hS => ?_)
      exact r_vret (y := yX2_keep) S hr hlk hS (by omega) (by omega) dX2_keep_80 ⟨(), _, rfl, h, hw⟩
    · have h := h.2 c4
      refine lv_aload_n S.1 S.2.1 dX2_keep_25 rfl (lv_at hl 0 rfl) ?_
      obtain ⟨g8, h⟩ := h
      refine g6_9 S hg hw g8 u589 dX2_keep_26 ?_
      refine lv_aload_n S.1 S.2.1 dX2_keep_29 rfl (lv_at hl 0 rfl) ?_
      refine g6_8 S hg hw g8 u587 dX2_keep_30 ?_
      obtain ⟨g9, h⟩ := h
      refine a12 S hg hw g8 g9 dX2_keep_33 ?_
      refine lv_iload_n S.1 S.2.1 dX2_keep_34 rfl (lv_at hl 3 rfl) ?_
      refine lv_aload_n S.1 S.2.1 dX2_keep_35 rfl (lv_at hl 2 rfl) ?_
      refine lv_aload_n S.1 S.2.1 dX2_keep_36 rfl (lv_at hl 1 rfl) ?_
      refine lv_iload_n S.1 S.2.1 dX2_keep_37 rfl (lv_at hl 3 rfl) ?_
      refine lv_iconst (v := 4) S.1 S.2.1 dX2_keep_38 (by decide) ?_
      refine lv_imul S.1 S.2.1 dX2_keep_39 ?_
      refine r_call (rest := [.int l3, .ref (ad 19 (6 * l0 + (K 6 8 l0).toNatClampNeg))]) S hg hS (mtX0_keepBlock (mc := 0) (ms := 0) h) u812 u813 u814 u32 u815 hdX0_keepBlock (rv2 hg hw) hw ⟨Nat.le_of_ble_eq_true rfl, Nat.le_of_ble_eq_true rfl⟩ ⟨by show 0 + 0 ≤ mc; omega, by show 0 + 0 ≤ ms; omega⟩ hl.1 (Nat.le_of_ble_eq_true rfl) rfl dX2_keep_40 (fun E ce q H1 locs1 hx hS1 hc1 hc2 hc3 => hx.elim) (fun rv H locs hq hS => ?_)
      obtain ⟨r10, K11, rfl, h, hw⟩ := hq
      show W p l e _ s m _ below meth c H locs _ _ _ (F0 m 43 ls [.int r10, .int l3, .ref (ad 19 (6 * l0 + (K 6 8 l0).toNatClampNeg))])
      show W p l e _ s m _ below meth c H locs 0 0 _ _
      obtain ⟨g12, h⟩ := h
      obtain ⟨g13, h⟩ := h
      refine s19 S hg hS hw g12 g13 dX2_keep_43 (fun H locs hw hS => ?_)
      refine lv_iinc (v := l3 + 1) (lv' := [(3, .int (l3 + 1)), (0, .ref (ad 6 l0)), (1, .ref (ad 10 1)), (2, .ref (ad 2 0))]) S.1 S.2.1 dX2_keep_44 hl (k := 3) rfl rfl (by decide) rfl (fun ls hl => ?_)
      refine lv_goto (tgt := 19) S.1 S.2.1 dX2_keep_47 (by decide) ?_
      have hl := lv_sub hl (l' := [(0, .ref (ad 6 l0)), (1, .ref (ad 10 1)), (2, .ref (ad 2 0)), (3, .int (l3 + 1))]) [1, 2, 3, 0] rfl
      exact ih hS hw hl h
def wpX2_keep (post : Unit → KS → Prop) (K : KS) (q0 : Nat) : Prop := (q0 < nD K) ∧ (((6 ≤ (K 6 8 q0) → (post () K)) ∧ (¬ 6 ≤ (K 6 8 q0) → (((24 ≤ (nI 24) → (∃ n1 : Nat, wX2_keep_19 post n1 q0 0 K)) ∧ (¬ 24 ≤ (nI 24) → (post () K)))))))
theorem hdX2_keep : yX2_keep.cls ≠ "java/lang/invoke/MethodHandle" ∧ yX2_keep.cls ≠ "java/lang/invoke/VarHandle" ∧ (parseMethodDescriptor yX2_keep.desc).map (fun d => d.parameters.length) = some 2 := by decide +kernel
set_option maxHeartbeats 4000000 in
set_option maxRecDepth 100000 in
theorem mtX2_keep {l : Launch} {D : va_G} {cI : Nat → ClassId} {e0 : Nat} {A : Nat → Prop} {ad : Nat → Nat → Nat} {K M : KS} {ap o : Int64} {od : UInt64} {mc ms : Nat} {q0 : Nat} {post : Unit → KS → Prop} (h : wpX2_keep post K q0) : CM l D cI e0 A yX2_keep cX2_keep 4 none 2 64 mc ms [.ref (ad 6 q0), .ref (ad 10 1), .ref (ad 2 0)] (HT D cI e0 A ad K M ap o od) (qK D cI e0 A ad M ap o od rV post) xN := by
  refine CM.of (by decide) (Nat.le_of_ble_eq_true rfl) (fun p e s m below meth c ls FX hw hS hl => ?_)
  obtain ⟨S, hg, hr, hlk, hnm, hout⟩ := FX
  have hl : lv_has ls 4 [(0, .ref (ad 6 q0)), (1, .ref (ad 10 1)), (2, .ref (ad 2 0))] := hl
  unfold wpX2_keep at h
  refine lv_aload_n S.1 S.2.1 dX2_keep_0 rfl (lv_at hl 0 rfl) ?_
  obtain ⟨g1, h⟩ := h
  refine g6_8 S hg hw g1 u587 dX2_keep_1 ?_
  refine lv_bipush (v := 6) S.1 S.2.1 dX2_keep_4 (by decide) ?_
  refine lv_icmp_ge (tgt := 16) S.1 S.2.1 dX2_keep_6 (by decide) (fun c2 => ?_) (fun c2 => ?_)
  · have h := h.1 c2
    exact r_vret (y := yX2_keep) S hr hlk hS (by omega) (by omega) dX2_keep_16 ⟨(), _, rfl, h, hw⟩
  · have h := h.2 c2
    refine lv_aload_n S.1 S.2.1 dX2_keep_9 rfl (lv_at hl 1 rfl) ?_
    refine n10 S hg hw (Nat.le_of_ble_eq_true rfl) dX2_keep_10 ?_
    refine lv_bipush (v := 24) S.1 S.2.1 dX2_keep_11 (by decide) ?_
    refine lv_icmp_ge (tgt := 17) S.1 S.2.1 dX2_keep_13 (by decide) (fun c3 => ?_) (fun c3 => ?_)
    · have h := h.1 c3
      refine lv_iconst (v := 0) S.1 S.2.1 dX2_keep_17 (by decide) ?_
      refine lv_istore_n (lv' := [(3, .int 0), (0, .ref (ad 6 q0)), (1, .ref (ad 10 1)), (2, .ref (ad 2 0))]) S.1 S.2.1 dX2_keep_18 rfl hl (by decide) rfl (fun ls hl => ?_)
      have hl := lv_sub hl (l' := [(0, .ref (ad 6 q0)), (1, .ref (ad 10 1)), (2, .ref (ad 2 0)), (3, .int 0)]) [1, 2, 3, 0] rfl
      obtain ⟨n1, h⟩ := h
      exact bX2_keep_19 S hg hr hlk hout n1 hS hw hl h
    · have h := h.2 c3
      exact r_vret (y := yX2_keep) S hr hlk hS (by omega) (by omega) dX2_keep_16 ⟨(), _, rfl, h, hw⟩

-- X2.keptNumber
theorem dX2_keptNumber_0 : decode cX2_keptNumber 0 = .ok (.iload_n 1, 1) := by decide +kernel
theorem dX2_keptNumber_1 : decode cX2_keptNumber 1 = .ok (.ifCond .lt 19, 3) := by decide +kernel
theorem dX2_keptNumber_4 : decode cX2_keptNumber 4 = .ok (.iload_n 1, 1) := by decide +kernel
theorem dX2_keptNumber_5 : decode cX2_keptNumber 5 = .ok (.bipush 6, 2) := by decide +kernel
theorem dX2_keptNumber_7 : decode cX2_keptNumber 7 = .ok (.if_icmp .ge 13, 3) := by decide +kernel
theorem dX2_keptNumber_10 : decode cX2_keptNumber 10 = .ok (.iload_n 2, 1) := by decide +kernel
theorem dX2_keptNumber_11 : decode cX2_keptNumber 11 = .ok (.ifCond .lt 9, 3) := by decide +kernel
theorem dX2_keptNumber_14 : decode cX2_keptNumber 14 = .ok (.iload_n 2, 1) := by decide +kernel
theorem dX2_keptNumber_15 : decode cX2_keptNumber 15 = .ok (.bipush 24, 2) := by decide +kernel
theorem dX2_keptNumber_17 : decode cX2_keptNumber 17 = .ok (.if_icmp .lt 5, 3) := by decide +kernel
theorem dX2_keptNumber_20 : decode cX2_keptNumber 20 = .ok (.iconst 0, 1) := by decide +kernel
theorem dX2_keptNumber_21 : decode cX2_keptNumber 21 = .ok (.ireturn, 1) := by decide +kernel
theorem dX2_keptNumber_22 : decode cX2_keptNumber 22 = .ok (.aload_n 0, 1) := by decide +kernel
theorem dX2_keptNumber_23 : decode cX2_keptNumber 23 = .ok (.getfield 25, 3) := by decide +kernel
theorem dX2_keptNumber_26 : decode cX2_keptNumber 26 = .ok (.iload_n 1, 1) := by decide +kernel
theorem dX2_keptNumber_27 : decode cX2_keptNumber 27 = .ok (.aaload, 1) := by decide +kernel
theorem dX2_keptNumber_28 : decode cX2_keptNumber 28 = .ok (.iload_n 2, 1) := by decide +kernel
theorem dX2_keptNumber_29 : decode cX2_keptNumber 29 = .ok (.iconst 4, 1) := by decide +kernel
theorem dX2_keptNumber_30 : decode cX2_keptNumber 30 = .ok (.idiv, 1) := by decide +kernel
theorem dX2_keptNumber_31 : decode cX2_keptNumber 31 = .ok (.iaload, 1) := by decide +kernel
theorem dX2_keptNumber_32 : decode cX2_keptNumber 32 = .ok (.istore 4, 2) := by decide +kernel
theorem dX2_keptNumber_34 : decode cX2_keptNumber 34 = .ok (.aload_n 3, 1) := by decide +kernel
theorem dX2_keptNumber_35 : decode cX2_keptNumber 35 = .ok (.iload 4, 2) := by decide +kernel
theorem dX2_keptNumber_37 : decode cX2_keptNumber 37 = .ok (.iload_n 2, 1) := by decide +kernel
theorem dX2_keptNumber_38 : decode cX2_keptNumber 38 = .ok (.iconst 4, 1) := by decide +kernel
theorem dX2_keptNumber_39 : decode cX2_keptNumber 39 = .ok (.irem, 1) := by decide +kernel
theorem dX2_keptNumber_40 : decode cX2_keptNumber 40 = .ok (.invokevirtual 130, 3) := by decide +kernel
theorem dX2_keptNumber_43 : decode cX2_keptNumber 43 = .ok (.ireturn, 1) := by decide +kernel
def wpX2_keptNumber (post : Int32 → Prop) (K : KS) (q0 : Nat) (p1 : Int32) (p2 : Int32) : Prop := ((p1 < 0 → (post 0)) ∧ (¬ p1 < 0 → (((6 ≤ p1 → (post 0)) ∧ (¬ 6 ≤ p1 → (((p2 < 0 → (post 0)) ∧ (¬ p2 < 0 → (((p2 < 24 → ((q0 < nD K) ∧ ((vp_in p1 6) ∧ ((vp_in (p2 / 4) 6) ∧ (∀ x8 : Int32, x8 = K 19 (6 * q0 + p1.toNatClampNeg) ((p2 / 4).toNatClampNeg) → ((wpX0_numberIn (fun r9 => post r9) K x8 (p2 - p2 / 4 * 4)))))))) ∧ (¬ p2 < 24 → (post 0))))))))))))
theorem hdX2_keptNumber : yX2_keptNumber.cls ≠ "java/lang/invoke/MethodHandle" ∧ yX2_keptNumber.cls ≠ "java/lang/invoke/VarHandle" ∧ (parseMethodDescriptor yX2_keptNumber.desc).map (fun d => d.parameters.length) = some 3 := by decide +kernel
set_option maxHeartbeats 4000000 in
set_option maxRecDepth 100000 in
theorem mtX2_keptNumber {l : Launch} {D : va_G} {cI : Nat → ClassId} {e0 : Nat} {A : Nat → Prop} {ad : Nat → Nat → Nat} {K M : KS} {ap o : Int64} {od : UInt64} {mc ms : Nat} {q0 : Nat} {p1 : Int32} {p2 : Int32} {post : Int32 → Prop} (h : wpX2_keptNumber post K q0 p1 p2) : CM l D cI e0 A yX2_keptNumber cX2_keptNumber 5 (some FieldType.int) 1 23 mc ms [.ref (ad 6 q0), .int p1, .int p2, .ref (ad 2 0)] (HT D cI e0 A ad K M ap o od) (qP D cI e0 A ad K M ap o od rI post) xN := by
  refine CM.of (by decide) (Nat.le_of_ble_eq_true rfl) (fun p e s m below meth c ls FX hw hS hl => ?_)
  obtain ⟨S, hg, hr, hlk, hnm, hout⟩ := FX
  have hl : lv_has ls 5 [(0, .ref (ad 6 q0)), (1, .int p1), (2, .int p2), (3, .ref (ad 2 0))] := hl
  unfold wpX2_keptNumber at h
  refine lv_iload_n S.1 S.2.1 dX2_keptNumber_0 rfl (lv_at hl 1 rfl) ?_
  refine lv_if_lt (tgt := 20) S.1 S.2.1 dX2_keptNumber_1 (by decide) (fun c1 => ?_) (fun c1 => ?_)
  · have h := h.1 c1
    refine lv_iconst (v := 0) S.1 S.2.1 dX2_keptNumber_20 (by decide) ?_
    exact r_iret (y := yX2_keptNumber) S hr rfl hlk hS (by omega) (by omega) dX2_keptNumber_21 ⟨0, rfl, h, hw⟩
  · have h := h.2 c1
    refine lv_iload_n S.1 S.2.1 dX2_keptNumber_4 rfl (lv_at hl 1 rfl) ?_
    refine lv_bipush (v := 6) S.1 S.2.1 dX2_keptNumber_5 (by decide) ?_
    refine lv_icmp_ge (tgt := 20) S.1 S.2.1 dX2_keptNumber_7 (by decide) (fun c2 => ?_) (fun c2 => ?_)
    · have h := h.1 c2
      refine lv_iconst (v := 0) S.1 S.2.1 dX2_keptNumber_20 (by decide) ?_
      exact r_iret (y := yX2_keptNumber) S hr rfl hlk hS (by omega) (by omega) dX2_keptNumber_21 ⟨0, rfl, h, hw⟩
    · have h := h.2 c2
      refine lv_iload_n S.1 S.2.1 dX2_keptNumber_10 rfl (lv_at hl 2 rfl) ?_
      refine lv_if_lt (tgt := 20) S.1 S.2.1 dX2_keptNumber_11 (by decide) (fun c3 => ?_) (fun c3 => ?_)
      · have h := h.1 c3
        refine lv_iconst (v := 0) S.1 S.2.1 dX2_keptNumber_20 (by decide) ?_
        exact r_iret (y := yX2_keptNumber) S hr rfl hlk hS (by omega) (by omega) dX2_keptNumber_21 ⟨0, rfl, h, hw⟩
      · have h := h.2 c3
        refine lv_iload_n S.1 S.2.1 dX2_keptNumber_14 rfl (lv_at hl 2 rfl) ?_
        refine lv_bipush (v := 24) S.1 S.2.1 dX2_keptNumber_15 (by decide) ?_
        refine lv_icmp_lt (tgt := 22) S.1 S.2.1 dX2_keptNumber_17 (by decide) (fun c4 => ?_) (fun c4 => ?_)
        · have h := h.1 c4
          refine lv_aload_n S.1 S.2.1 dX2_keptNumber_22 rfl (lv_at hl 0 rfl) ?_
          obtain ⟨g5, h⟩ := h
          refine g6_9 S hg hw g5 u589 dX2_keptNumber_23 ?_
          refine lv_iload_n S.1 S.2.1 dX2_keptNumber_26 rfl (lv_at hl 1 rfl) ?_
          obtain ⟨g6, h⟩ := h
          refine a12 S hg hw g5 g6 dX2_keptNumber_27 ?_
          refine lv_iload_n S.1 S.2.1 dX2_keptNumber_28 rfl (lv_at hl 2 rfl) ?_
          refine lv_iconst (v := 4) S.1 S.2.1 dX2_keptNumber_29 (by decide) ?_
          refine lv_idiv S.1 S.2.1 dX2_keptNumber_30 (by decide) ?_
          obtain ⟨g7, h⟩ := h
          refine a19 S hg hw (lt6 g5 g6) g7 dX2_keptNumber_31 ?_
          refine lv_topi (fun x8 ex8 => ?_)
          have h := h x8 ex8
          refine lv_istore (lv' := [(4, .int x8), (0, .ref (ad 6 q0)), (1, .int p1), (2, .int p2), (3, .ref (ad 2 0))]) S.1 S.2.1 dX2_keptNumber_32 hl (by decide) rfl (fun ls hl => ?_)
          refine lv_aload_n S.1 S.2.1 dX2_keptNumber_34 rfl (lv_at hl 4 rfl) ?_
          refine lv_iload S.1 S.2.1 dX2_keptNumber_35 (lv_at hl 0 rfl) ?_
          refine lv_iload_n S.1 S.2.1 dX2_keptNumber_37 rfl (lv_at hl 3 rfl) ?_
          refine lv_iconst (v := 4) S.1 S.2.1 dX2_keptNumber_38 (by decide) ?_
          refine lv_irem S.1 S.2.1 dX2_keptNumber_39 (by decide) ?_
          refine r_call (rest := []) S hg hS (mtX0_numberIn (mc := 0) (ms := 0) h) u830 u831 u832 u32 u833 hdX0_numberIn (rv2 hg hw) hw ⟨Nat.le_of_ble_eq_true rfl, Nat.le_of_ble_eq_true rfl⟩ ⟨by show 0 + 0 ≤ mc; omega, by show 0 + 0 ≤ ms; omega⟩ hl.1 (Nat.le_of_ble_eq_true rfl) rfl dX2_keptNumber_40 (fun E ce q H1 locs1 hx hS1 hc1 hc2 hc3 => hx.elim) (fun rv H locs hq hS => ?_)
          obtain ⟨r9, rfl, h, hw⟩ := hq
          show W p l e _ s m _ below meth c H locs _ _ _ (F0 m 43 ls [.int r9])
          show W p l e _ s m _ below meth c H locs 0 0 _ _
          exact r_iret (y := yX2_keptNumber) S hr rfl hlk hS (by omega) (by omega) dX2_keptNumber_43 ⟨r9, rfl, h, hw⟩
        · have h := h.2 c4
          refine lv_iconst (v := 0) S.1 S.2.1 dX2_keptNumber_20 (by decide) ?_
          exact r_iret (y := yX2_keptNumber) S hr rfl hlk hS (by omega) (by omega) dX2_keptNumber_21 ⟨0, rfl, h, hw⟩

-- X2.forgetLaterThan
theorem dX2_forgetLaterThan_0 : decode cX2_forgetLaterThan 0 = .ok (.iload_n 1, 1) := by decide +kernel
theorem dX2_forgetLaterThan_1 : decode cX2_forgetLaterThan 1 = .ok (.ifCond .lt 11, 3) := by decide +kernel
theorem dX2_forgetLaterThan_4 : decode cX2_forgetLaterThan 4 = .ok (.iload_n 1, 1) := by decide +kernel
theorem dX2_forgetLaterThan_5 : decode cX2_forgetLaterThan 5 = .ok (.aload_n 0, 1) := by decide +kernel
theorem dX2_forgetLaterThan_6 : decode cX2_forgetLaterThan 6 = .ok (.getfield 121, 3) := by decide +kernel
theorem dX2_forgetLaterThan_9 : decode cX2_forgetLaterThan 9 = .ok (.if_icmp .lt 4, 3) := by decide +kernel
theorem dX2_forgetLaterThan_12 : decode cX2_forgetLaterThan 12 = .ok (.return_, 1) := by decide +kernel
theorem dX2_forgetLaterThan_13 : decode cX2_forgetLaterThan 13 = .ok (.iload_n 1, 1) := by decide +kernel
theorem dX2_forgetLaterThan_14 : decode cX2_forgetLaterThan 14 = .ok (.iconst 1, 1) := by decide +kernel
theorem dX2_forgetLaterThan_15 : decode cX2_forgetLaterThan 15 = .ok (.iadd, 1) := by decide +kernel
theorem dX2_forgetLaterThan_16 : decode cX2_forgetLaterThan 16 = .ok (.istore_n 3, 1) := by decide +kernel
theorem dX2_forgetLaterThan_17 : decode cX2_forgetLaterThan 17 = .ok (.iload_n 3, 1) := by decide +kernel
theorem dX2_forgetLaterThan_18 : decode cX2_forgetLaterThan 18 = .ok (.aload_n 0, 1) := by decide +kernel
theorem dX2_forgetLaterThan_19 : decode cX2_forgetLaterThan 19 = .ok (.getfield 121, 3) := by decide +kernel
theorem dX2_forgetLaterThan_22 : decode cX2_forgetLaterThan 22 = .ok (.if_icmp .ge 38, 3) := by decide +kernel
theorem dX2_forgetLaterThan_25 : decode cX2_forgetLaterThan 25 = .ok (.iconst 0, 1) := by decide +kernel
theorem dX2_forgetLaterThan_26 : decode cX2_forgetLaterThan 26 = .ok (.istore 4, 2) := by decide +kernel
theorem dX2_forgetLaterThan_28 : decode cX2_forgetLaterThan 28 = .ok (.iload 4, 2) := by decide +kernel
theorem dX2_forgetLaterThan_30 : decode cX2_forgetLaterThan 30 = .ok (.bipush 6, 2) := by decide +kernel
theorem dX2_forgetLaterThan_32 : decode cX2_forgetLaterThan 32 = .ok (.if_icmp .ge 22, 3) := by decide +kernel
theorem dX2_forgetLaterThan_35 : decode cX2_forgetLaterThan 35 = .ok (.aload_n 2, 1) := by decide +kernel
theorem dX2_forgetLaterThan_36 : decode cX2_forgetLaterThan 36 = .ok (.aload_n 0, 1) := by decide +kernel
theorem dX2_forgetLaterThan_37 : decode cX2_forgetLaterThan 37 = .ok (.getfield 25, 3) := by decide +kernel
theorem dX2_forgetLaterThan_40 : decode cX2_forgetLaterThan 40 = .ok (.iload_n 3, 1) := by decide +kernel
theorem dX2_forgetLaterThan_41 : decode cX2_forgetLaterThan 41 = .ok (.aaload, 1) := by decide +kernel
theorem dX2_forgetLaterThan_42 : decode cX2_forgetLaterThan 42 = .ok (.iload 4, 2) := by decide +kernel
theorem dX2_forgetLaterThan_44 : decode cX2_forgetLaterThan 44 = .ok (.iaload, 1) := by decide +kernel
theorem dX2_forgetLaterThan_45 : decode cX2_forgetLaterThan 45 = .ok (.invokevirtual 133, 3) := by decide +kernel
theorem dX2_forgetLaterThan_48 : decode cX2_forgetLaterThan 48 = .ok (.iinc 4 1, 3) := by decide +kernel
theorem dX2_forgetLaterThan_51 : decode cX2_forgetLaterThan 51 = .ok (.goto (-23), 3) := by decide +kernel
theorem dX2_forgetLaterThan_54 : decode cX2_forgetLaterThan 54 = .ok (.iinc 3 1, 3) := by decide +kernel
theorem dX2_forgetLaterThan_57 : decode cX2_forgetLaterThan 57 = .ok (.goto (-40), 3) := by decide +kernel
theorem dX2_forgetLaterThan_60 : decode cX2_forgetLaterThan 60 = .ok (.aload_n 0, 1) := by decide +kernel
theorem dX2_forgetLaterThan_61 : decode cX2_forgetLaterThan 61 = .ok (.iload_n 1, 1) := by decide +kernel
theorem dX2_forgetLaterThan_62 : decode cX2_forgetLaterThan 62 = .ok (.iconst 1, 1) := by decide +kernel
theorem dX2_forgetLaterThan_63 : decode cX2_forgetLaterThan 63 = .ok (.iadd, 1) := by decide +kernel
theorem dX2_forgetLaterThan_64 : decode cX2_forgetLaterThan 64 = .ok (.putfield 121, 3) := by decide +kernel
theorem dX2_forgetLaterThan_67 : decode cX2_forgetLaterThan 67 = .ok (.return_, 1) := by decide +kernel
def wX2_forgetLaterThan_28 (post : Unit → KS → Prop) (bk17 : Nat → Int32 → Int32 → KS → Prop) : Nat → Nat → Int32 → Int32 → Int32 → KS → Prop
  | 0 => fun _ _ _ _ _ => False
  | n + 1 => fun l0 l1 l3 l4 K => ((6 ≤ l4 → (bk17 l0 l1 (l3 + 1) K)) ∧ (¬ 6 ≤ l4 → ((l0 < nD K) ∧ ((vp_in l3 6) ∧ ((vp_in l4 6) ∧ ((wpX0_dropBlock (fun _ K10 => wX2_forgetLaterThan_28 post bk17 n l0 l1 l3 (l4 + 1) K10) K (K 19 (6 * l0 + l3.toNatClampNeg) l4.toNatClampNeg))))))))
set_option maxHeartbeats 4000000 in
set_option maxRecDepth 100000 in
theorem bX2_forgetLaterThan_28 {p : Program} {l : Launch} {e : Env} {s : State} {m : MethodId} {args : Array Value} {below : List Frame} {meth : Method} {c : Code} {D : va_G} {cI : Nat → ClassId} {e0 : Nat} {A : Nat → Prop} {ad : Nat → Nat → Nat} {M : KS} {ap : Int64} {o : Int64} {od : UInt64} {mc ms : Nat} {post : Unit → KS → Prop} {bk17 : Nat → Int32 → Int32 → KS → Prop} (S : CallFix p m c cX2_forgetLaterThan 5 s args WU RX2) (hg : GI D cI e0 A s s.heap) (hr : meth.sig.returnType = none) (hlk : meth.locks = false) (hout : ∀ x ∈ c.exceptionTable.toList, False) (hbk17 : ∀ {H : Heap} {locs : List Loc} {ls : Array Slot} {l0 : Nat} {l1 : Int32} {l3 : Int32} {K : KS}, va_S A s.heap H locs → HT D cI e0 A ad K M ap o od H → lv_has ls 5 [(0, .ref (ad 6 l0)), (1, .int l1), (2, .ref (ad 2 0)), (3, .int l3)] → bk17 l0 l1 l3 K → W p l e ({ frames := 1, cells := mc, slots := ms, locals := 21 } : Room) s m args below meth c H locs 0 0 (MQQ below (qK D cI e0 A ad M ap o od rV post) xN args s mc ms A) (F0 m 17 ls [])) : ∀ n : Nat, ∀ {H : Heap} {locs : List Loc} {ls : Array Slot} {l0 : Nat} {l1 : Int32} {l3 : Int32} {l4 : Int32} {K : KS}, va_S A s.heap H locs → HT D cI e0 A ad K M ap o od H → lv_has ls 5 [(0, .ref (ad 6 l0)), (1, .int l1), (2, .ref (ad 2 0)), (3, .int l3), (4, .int l4)] → wX2_forgetLaterThan_28 post bk17 n l0 l1 l3 l4 K → W p l e ({ frames := 1, cells := mc, slots := ms, locals := 21 } : Room) s m args below meth c H locs 0 0 (MQQ below (qK D cI e0 A ad M ap o od rV post) xN args s mc ms A) (F0 m 28 ls []) := by
  intro n
  induction n with
  | zero => intros; exact False.elim (by assumption)
  | succ n ih =>
    intro H locs ls l0 l1 l3 l4 K hS hw hl h
    unfold wX2_forgetLaterThan_28 at h
    refine lv_iload S.1 S.2.1 dX2_forgetLaterThan_28 (lv_at hl 4 rfl) ?_
    refine lv_bipush (v := 6) S.1 S.2.1 dX2_forgetLaterThan_30 (by decide) ?_
    refine lv_icmp_ge (tgt := 54) S.1 S.2.1 dX2_forgetLaterThan_32 (by decide) (fun c6 => ?_) (fun c6 => ?_)
    · have h := h.1 c6
      refine lv_iinc (v := l3 + 1) (lv' := [(3, .int (l3 + 1)), (0, .ref (ad 6 l0)), (1, .int l1), (2, .ref (ad 2 0)), (4, .int l4)]) S.1 S.2.1 dX2_forgetLaterThan_54 hl (k := 3) rfl rfl (by decide) rfl (fun ls hl => ?_)
      refine lv_goto (tgt := 17) S.1 S.2.1 dX2_forgetLaterThan_57 (by decide) ?_
      have hl := lv_sub hl (l' := [(0, .ref (ad 6 l0)), (1, .int l1), (2, .ref (ad 2 0)), (3, .int (l3 + 1))]) [1, 2, 3, 0] rfl
      exact hbk17 hS hw hl h
    · have h := h.2 c6
      refine lv_aload_n S.1 S.2.1 dX2_forgetLaterThan_35 rfl (lv_at hl 2 rfl) ?_
      refine lv_aload_n S.1 S.2.1 dX2_forgetLaterThan_36 rfl (lv_at hl 0 rfl) ?_
      obtain ⟨g7, h⟩ := h
      refine g6_9 S hg hw g7 u589 dX2_forgetLaterThan_37 ?_
      refine lv_iload_n S.1 S.2.1 dX2_forgetLaterThan_40 rfl (lv_at hl 3 rfl) ?_
      obtain ⟨g8, h⟩ := h
      refine a12 S hg hw g7 g8 dX2_forgetLaterThan_41 ?_
      refine lv_iload S.1 S.2.1 dX2_forgetLaterThan_42 (lv_at hl 4 rfl) ?_
      obtain ⟨g9, h⟩ := h
      refine a19 S hg hw (lt6 g7 g8) g9 dX2_forgetLaterThan_44 ?_
      refine r_call (rest := []) S hg hS (mtX0_dropBlock (mc := 0) (ms := 0) h) u857 u858 u859 u32 u860 hdX0_dropBlock (rv2 hg hw) hw ⟨Nat.le_of_ble_eq_true rfl, Nat.le_of_ble_eq_true rfl⟩ ⟨by show 0 + 0 ≤ mc; omega, by show 0 + 0 ≤ ms; omega⟩ hl.1 (Nat.le_of_ble_eq_true rfl) rfl dX2_forgetLaterThan_45 (fun E ce q H1 locs1 hx hS1 hc1 hc2 hc3 => hx.elim) (fun rv H locs hq hS => ?_)
      obtain ⟨_, K10, rfl, h, hw⟩ := hq
      show W p l e _ s m _ below meth c H locs _ _ _ (F0 m 48 ls [])
      show W p l e _ s m _ below meth c H locs 0 0 _ _
      refine lv_iinc (v := l4 + 1) (lv' := [(4, .int (l4 + 1)), (0, .ref (ad 6 l0)), (1, .int l1), (2, .ref (ad 2 0)), (3, .int l3)]) S.1 S.2.1 dX2_forgetLaterThan_48 hl (k := 4) rfl rfl (by decide) rfl (fun ls hl => ?_)
      refine lv_goto (tgt := 28) S.1 S.2.1 dX2_forgetLaterThan_51 (by decide) ?_
      have hl := lv_sub hl (l' := [(0, .ref (ad 6 l0)), (1, .int l1), (2, .ref (ad 2 0)), (3, .int l3), (4, .int (l4 + 1))]) [1, 2, 3, 4, 0] rfl
      exact ih hS hw hl h
def wX2_forgetLaterThan_17 (post : Unit → KS → Prop) : Nat → Nat → Int32 → Int32 → KS → Prop
  | 0 => fun _ _ _ _ => False
  | n + 1 => fun l0 l1 l3 K => (l0 < nD K) ∧ ((((K 6 8 l0) ≤ l3 → (post () (k3 K 6 8 l0 (l1 + 1)))) ∧ (¬ (K 6 8 l0) ≤ l3 → (∃ n1 : Nat, wX2_forgetLaterThan_28 post (wX2_forgetLaterThan_17 post n) n1 l0 l1 l3 0 K))))
set_option maxHeartbeats 4000000 in
set_option maxRecDepth 100000 in
theorem bX2_forgetLaterThan_17 {p : Program} {l : Launch} {e : Env} {s : State} {m : MethodId} {args : Array Value} {below : List Frame} {meth : Method} {c : Code} {D : va_G} {cI : Nat → ClassId} {e0 : Nat} {A : Nat → Prop} {ad : Nat → Nat → Nat} {M : KS} {ap : Int64} {o : Int64} {od : UInt64} {mc ms : Nat} {post : Unit → KS → Prop} (S : CallFix p m c cX2_forgetLaterThan 5 s args WU RX2) (hg : GI D cI e0 A s s.heap) (hr : meth.sig.returnType = none) (hlk : meth.locks = false) (hout : ∀ x ∈ c.exceptionTable.toList, False) : ∀ n : Nat, ∀ {H : Heap} {locs : List Loc} {ls : Array Slot} {l0 : Nat} {l1 : Int32} {l3 : Int32} {K : KS}, va_S A s.heap H locs → HT D cI e0 A ad K M ap o od H → lv_has ls 5 [(0, .ref (ad 6 l0)), (1, .int l1), (2, .ref (ad 2 0)), (3, .int l3)] → wX2_forgetLaterThan_17 post n l0 l1 l3 K → W p l e ({ frames := 1, cells := mc, slots := ms, locals := 21 } : Room) s m args below meth c H locs 0 0 (MQQ below (qK D cI e0 A ad M ap o od rV post) xN args s mc ms A) (F0 m 17 ls []) := by
  intro n
  induction n with
  | zero => intros; exact False.elim (by assumption)
  | succ n ih =>
    intro H locs ls l0 l1 l3 K hS hw hl h
    unfold wX2_forgetLaterThan_17 at h
    refine lv_iload_n S.1 S.2.1 dX2_forgetLaterThan_17 rfl (lv_at hl 3 rfl) ?_
    refine lv_aload_n S.1 S.2.1 dX2_forgetLaterThan_18 rfl (lv_at hl 0 rfl) ?_
    obtain ⟨g4, h⟩ := h
    refine g6_8 S hg hw g4 u587 dX2_forgetLaterThan_19 ?_
    refine lv_icmp_ge (tgt := 60) S.1 S.2.1 dX2_forgetLaterThan_22 (by decide) (fun c5 => ?_) (fun c5 => ?_)
    · have h := h.1 c5
      refine lv_aload_n S.1 S.2.1 dX2_forgetLaterThan_60 rfl (lv_at hl 0 rfl) ?_
      refine lv_iload_n S.1 S.2.1 dX2_forgetLaterThan_61 rfl (lv_at hl 1 rfl) ?_
      refine lv_iconst (v := 1) S.1 S.2.1 dX2_forgetLaterThan_62 (by decide) ?_
      refine lv_iadd S.1 S.2.1 dX2_forgetLaterThan_63 ?_
      refine p6_8 S hg hS hw g4 u587 dX2_forgetLaterThan_64 (fun H locs hw hS => ?_)
      exact r_vret (y := yX2_forgetLaterThan) S hr hlk hS (by omega) (by omega) dX2_forgetLaterThan_67 ⟨(), _, rfl, h, hw⟩
    · have h := h.2 c5
      refine lv_iconst (v := 0) S.1 S.2.1 dX2_forgetLaterThan_25 (by decide) ?_
      refine lv_istore (lv' := [(4, .int 0), (0, .ref (ad 6 l0)), (1, .int l1), (2, .ref (ad 2 0)), (3, .int l3)]) S.1 S.2.1 dX2_forgetLaterThan_26 hl (by decide) rfl (fun ls hl => ?_)
      have hl := lv_sub hl (l' := [(0, .ref (ad 6 l0)), (1, .int l1), (2, .ref (ad 2 0)), (3, .int l3), (4, .int 0)]) [1, 2, 3, 4, 0] rfl
      obtain ⟨n1, h⟩ := h
      exact bX2_forgetLaterThan_28 S hg hr hlk hout ih n1 hS hw hl h
def wpX2_forgetLaterThan (post : Unit → KS → Prop) (K : KS) (q0 : Nat) (p1 : Int32) : Prop := ((p1 < 0 → (post () K)) ∧ (¬ p1 < 0 → ((q0 < nD K) ∧ (((p1 < (K 6 8 q0) → (∃ n1 : Nat, wX2_forgetLaterThan_17 post n1 q0 p1 (p1 + 1) K)) ∧ (¬ p1 < (K 6 8 q0) → (post () K)))))))
theorem hdX2_forgetLaterThan : yX2_forgetLaterThan.cls ≠ "java/lang/invoke/MethodHandle" ∧ yX2_forgetLaterThan.cls ≠ "java/lang/invoke/VarHandle" ∧ (parseMethodDescriptor yX2_forgetLaterThan.desc).map (fun d => d.parameters.length) = some 2 := by decide +kernel
set_option maxHeartbeats 4000000 in
set_option maxRecDepth 100000 in
theorem mtX2_forgetLaterThan {l : Launch} {D : va_G} {cI : Nat → ClassId} {e0 : Nat} {A : Nat → Prop} {ad : Nat → Nat → Nat} {K M : KS} {ap o : Int64} {od : UInt64} {mc ms : Nat} {q0 : Nat} {p1 : Int32} {post : Unit → KS → Prop} (h : wpX2_forgetLaterThan post K q0 p1) : CM l D cI e0 A yX2_forgetLaterThan cX2_forgetLaterThan 5 none 1 21 mc ms [.ref (ad 6 q0), .int p1, .ref (ad 2 0)] (HT D cI e0 A ad K M ap o od) (qK D cI e0 A ad M ap o od rV post) xN := by
  refine CM.of (by decide) (Nat.le_of_ble_eq_true rfl) (fun p e s m below meth c ls FX hw hS hl => ?_)
  obtain ⟨S, hg, hr, hlk, hnm, hout⟩ := FX
  have hl : lv_has ls 5 [(0, .ref (ad 6 q0)), (1, .int p1), (2, .ref (ad 2 0))] := hl
  unfold wpX2_forgetLaterThan at h
  refine lv_iload_n S.1 S.2.1 dX2_forgetLaterThan_0 rfl (lv_at hl 1 rfl) ?_
  refine lv_if_lt (tgt := 12) S.1 S.2.1 dX2_forgetLaterThan_1 (by decide) (fun c1 => ?_) (fun c1 => ?_)
  · have h := h.1 c1
    exact r_vret (y := yX2_forgetLaterThan) S hr hlk hS (by omega) (by omega) dX2_forgetLaterThan_12 ⟨(), _, rfl, h, hw⟩
  · have h := h.2 c1
    refine lv_iload_n S.1 S.2.1 dX2_forgetLaterThan_4 rfl (lv_at hl 1 rfl) ?_
    refine lv_aload_n S.1 S.2.1 dX2_forgetLaterThan_5 rfl (lv_at hl 0 rfl) ?_
    obtain ⟨g2, h⟩ := h
    refine g6_8 S hg hw g2 u587 dX2_forgetLaterThan_6 ?_
    refine lv_icmp_lt (tgt := 13) S.1 S.2.1 dX2_forgetLaterThan_9 (by decide) (fun c3 => ?_) (fun c3 => ?_)
    · have h := h.1 c3
      refine lv_iload_n S.1 S.2.1 dX2_forgetLaterThan_13 rfl (lv_at hl 1 rfl) ?_
      refine lv_iconst (v := 1) S.1 S.2.1 dX2_forgetLaterThan_14 (by decide) ?_
      refine lv_iadd S.1 S.2.1 dX2_forgetLaterThan_15 ?_
      refine lv_istore_n (lv' := [(3, .int (p1 + 1)), (0, .ref (ad 6 q0)), (1, .int p1), (2, .ref (ad 2 0))]) S.1 S.2.1 dX2_forgetLaterThan_16 rfl hl (by decide) rfl (fun ls hl => ?_)
      have hl := lv_sub hl (l' := [(0, .ref (ad 6 q0)), (1, .int p1), (2, .ref (ad 2 0)), (3, .int (p1 + 1))]) [1, 2, 3, 0] rfl
      obtain ⟨n1, h⟩ := h
      exact bX2_forgetLaterThan_17 S hg hr hlk hout n1 hS hw hl h
    · have h := h.2 c3
      exact r_vret (y := yX2_forgetLaterThan) S hr hlk hS (by omega) (by omega) dX2_forgetLaterThan_12 ⟨(), _, rfl, h, hw⟩

-- X3.numberAt
theorem dX3_numberAt_0 : decode cX3_numberAt 0 = .ok (.iload_n 1, 1) := by decide +kernel
theorem dX3_numberAt_1 : decode cX3_numberAt 1 = .ok (.ifCond .lt 21, 3) := by decide +kernel
theorem dX3_numberAt_4 : decode cX3_numberAt 4 = .ok (.iload_n 1, 1) := by decide +kernel
theorem dX3_numberAt_5 : decode cX3_numberAt 5 = .ok (.aload_n 0, 1) := by decide +kernel
theorem dX3_numberAt_6 : decode cX3_numberAt 6 = .ok (.getfield 9, 3) := by decide +kernel
theorem dX3_numberAt_9 : decode cX3_numberAt 9 = .ok (.arraylength, 1) := by decide +kernel
theorem dX3_numberAt_10 : decode cX3_numberAt 10 = .ok (.if_icmp .ge 12, 3) := by decide +kernel
theorem dX3_numberAt_13 : decode cX3_numberAt 13 = .ok (.aload_n 0, 1) := by decide +kernel
theorem dX3_numberAt_14 : decode cX3_numberAt 14 = .ok (.getfield 9, 3) := by decide +kernel
theorem dX3_numberAt_17 : decode cX3_numberAt 17 = .ok (.iload_n 1, 1) := by decide +kernel
theorem dX3_numberAt_18 : decode cX3_numberAt 18 = .ok (.iaload, 1) := by decide +kernel
theorem dX3_numberAt_19 : decode cX3_numberAt 19 = .ok (.goto 4, 3) := by decide +kernel
theorem dX3_numberAt_22 : decode cX3_numberAt 22 = .ok (.iconst (-1), 1) := by decide +kernel
theorem dX3_numberAt_23 : decode cX3_numberAt 23 = .ok (.ireturn, 1) := by decide +kernel
def wpX3_numberAt (post : Int32 → Prop) (K : KS) (p1 : Int32) : Prop := ((p1 < 0 → (post (-1))) ∧ (¬ p1 < 0 → ((((nI (K 1 5 0).toNatClampNeg) ≤ p1 → (post (-1))) ∧ (¬ (nI (K 1 5 0).toNatClampNeg) ≤ p1 → ((vp_in p1 (K 1 5 0).toNatClampNeg) ∧ (post (K 11 0 p1.toNatClampNeg))))))))
theorem hdX3_numberAt : yX3_numberAt.cls ≠ "java/lang/invoke/MethodHandle" ∧ yX3_numberAt.cls ≠ "java/lang/invoke/VarHandle" ∧ (parseMethodDescriptor yX3_numberAt.desc).map (fun d => d.parameters.length) = some 1 := by decide +kernel
set_option maxHeartbeats 4000000 in
set_option maxRecDepth 100000 in
theorem mtX3_numberAt {l : Launch} {D : va_G} {cI : Nat → ClassId} {e0 : Nat} {A : Nat → Prop} {ad : Nat → Nat → Nat} {K M : KS} {ap o : Int64} {od : UInt64} {mc ms : Nat} {p1 : Int32} {post : Int32 → Prop} (h : wpX3_numberAt post K p1) : CM l D cI e0 A yX3_numberAt cX3_numberAt 2 (some FieldType.int) 0 0 mc ms [.ref (ad 1 0), .int p1] (HT D cI e0 A ad K M ap o od) (qP D cI e0 A ad K M ap o od rI post) xN := by
  refine CM.of (by decide) (Nat.le_of_ble_eq_true rfl) (fun p e s m below meth c ls FX hw hS hl => ?_)
  obtain ⟨S, hg, hr, hlk, hnm, hout⟩ := FX
  have hl : lv_has ls 2 [(0, .ref (ad 1 0)), (1, .int p1)] := hl
  unfold wpX3_numberAt at h
  refine lv_iload_n S.1 S.2.1 dX3_numberAt_0 rfl (lv_at hl 1 rfl) ?_
  refine lv_if_lt (tgt := 22) S.1 S.2.1 dX3_numberAt_1 (by decide) (fun c1 => ?_) (fun c1 => ?_)
  · have h := h.1 c1
    refine lv_iconst (v := (-1)) S.1 S.2.1 dX3_numberAt_22 (by decide) ?_
    exact r_iret (y := yX3_numberAt) S hr rfl hlk hS (by omega) (by omega) dX3_numberAt_23 ⟨(-1), rfl, h, hw⟩
  · have h := h.2 c1
    refine lv_iload_n S.1 S.2.1 dX3_numberAt_4 rfl (lv_at hl 1 rfl) ?_
    refine lv_aload_n S.1 S.2.1 dX3_numberAt_5 rfl (lv_at hl 0 rfl) ?_
    refine g1_0 S hg hw u95 dX3_numberAt_6 (fun a2 ha2 => ?_)
    refine n11 S hg ha2 dX3_numberAt_9 ?_
    refine lv_icmp_ge (tgt := 22) S.1 S.2.1 dX3_numberAt_10 (by decide) (fun c3 => ?_) (fun c3 => ?_)
    · have h := h.1 c3
      refine lv_iconst (v := (-1)) S.1 S.2.1 dX3_numberAt_22 (by decide) ?_
      exact r_iret (y := yX3_numberAt) S hr rfl hlk hS (by omega) (by omega) dX3_numberAt_23 ⟨(-1), rfl, h, hw⟩
    · have h := h.2 c3
      refine lv_aload_n S.1 S.2.1 dX3_numberAt_13 rfl (lv_at hl 0 rfl) ?_
      refine g1_0 S hg hw u95 dX3_numberAt_14 (fun a4 ha4 => ?_)
      refine lv_iload_n S.1 S.2.1 dX3_numberAt_17 rfl (lv_at hl 1 rfl) ?_
      obtain ⟨g5, h⟩ := h
      refine a11 S hg ha4 g5 dX3_numberAt_18 ?_
      refine lv_goto (tgt := 23) S.1 S.2.1 dX3_numberAt_19 (by decide) ?_
      exact r_iret (y := yX3_numberAt) S hr rfl hlk hS (by omega) (by omega) dX3_numberAt_23 ⟨(K 11 0 p1.toNatClampNeg), rfl, h, hw⟩

-- X3.cardIn
theorem dX3_cardIn_0 : decode cX3_cardIn 0 = .ok (.aload_n 0, 1) := by decide +kernel
theorem dX3_cardIn_1 : decode cX3_cardIn 1 = .ok (.iconst 3, 1) := by decide +kernel
theorem dX3_cardIn_2 : decode cX3_cardIn 2 = .ok (.iload_n 1, 1) := by decide +kernel
theorem dX3_cardIn_3 : decode cX3_cardIn 3 = .ok (.imul, 1) := by decide +kernel
theorem dX3_cardIn_4 : decode cX3_cardIn 4 = .ok (.invokevirtual 25, 3) := by decide +kernel
theorem dX3_cardIn_7 : decode cX3_cardIn 7 = .ok (.ireturn, 1) := by decide +kernel
def wpX3_cardIn (post : Int32 → Prop) (K : KS) (p1 : Int32) : Prop := (wpX3_numberAt (fun r1 => post r1) K (3 * p1))
theorem hdX3_cardIn : yX3_cardIn.cls ≠ "java/lang/invoke/MethodHandle" ∧ yX3_cardIn.cls ≠ "java/lang/invoke/VarHandle" ∧ (parseMethodDescriptor yX3_cardIn.desc).map (fun d => d.parameters.length) = some 1 := by decide +kernel
set_option maxHeartbeats 4000000 in
set_option maxRecDepth 100000 in
theorem mtX3_cardIn {l : Launch} {D : va_G} {cI : Nat → ClassId} {e0 : Nat} {A : Nat → Prop} {ad : Nat → Nat → Nat} {K M : KS} {ap o : Int64} {od : UInt64} {mc ms : Nat} {p1 : Int32} {post : Int32 → Prop} (h : wpX3_cardIn post K p1) : CM l D cI e0 A yX3_cardIn cX3_cardIn 2 (some FieldType.int) 1 21 mc ms [.ref (ad 1 0), .int p1] (HT D cI e0 A ad K M ap o od) (qP D cI e0 A ad K M ap o od rI post) xN := by
  refine CM.of (by decide) (Nat.le_of_ble_eq_true rfl) (fun p e s m below meth c ls FX hw hS hl => ?_)
  obtain ⟨S, hg, hr, hlk, hnm, hout⟩ := FX
  have hl : lv_has ls 2 [(0, .ref (ad 1 0)), (1, .int p1)] := hl
  unfold wpX3_cardIn at h
  refine lv_aload_n S.1 S.2.1 dX3_cardIn_0 rfl (lv_at hl 0 rfl) ?_
  refine lv_iconst (v := 3) S.1 S.2.1 dX3_cardIn_1 (by decide) ?_
  refine lv_iload_n S.1 S.2.1 dX3_cardIn_2 rfl (lv_at hl 1 rfl) ?_
  refine lv_imul S.1 S.2.1 dX3_cardIn_3 ?_
  refine r_call (rest := []) S hg hS (mtX3_numberAt (mc := 0) (ms := 0) h) u200 u202 u0 u31 u203 hdX3_numberAt (rv1 hg hw) hw ⟨Nat.le_of_ble_eq_true rfl, Nat.le_of_ble_eq_true rfl⟩ ⟨by show 0 + 0 ≤ mc; omega, by show 0 + 0 ≤ ms; omega⟩ hl.1 (Nat.le_of_ble_eq_true rfl) rfl dX3_cardIn_4 (fun E ce q H1 locs1 hx hS1 hc1 hc2 hc3 => hx.elim) (fun rv H locs hq hS => ?_)
  obtain ⟨r1, rfl, h, hw⟩ := hq
  show W p l e _ s m _ below meth c H locs _ _ _ (F0 m 7 ls [.int r1])
  show W p l e _ s m _ below meth c H locs 0 0 _ _
  exact r_iret (y := yX3_cardIn) S hr rfl hlk hS (by omega) (by omega) dX3_cardIn_7 ⟨r1, rfl, h, hw⟩

-- X3.giverIn
theorem dX3_giverIn_0 : decode cX3_giverIn 0 = .ok (.aload_n 0, 1) := by decide +kernel
theorem dX3_giverIn_1 : decode cX3_giverIn 1 = .ok (.iconst 3, 1) := by decide +kernel
theorem dX3_giverIn_2 : decode cX3_giverIn 2 = .ok (.iload_n 1, 1) := by decide +kernel
theorem dX3_giverIn_3 : decode cX3_giverIn 3 = .ok (.imul, 1) := by decide +kernel
theorem dX3_giverIn_4 : decode cX3_giverIn 4 = .ok (.iconst 1, 1) := by decide +kernel
theorem dX3_giverIn_5 : decode cX3_giverIn 5 = .ok (.iadd, 1) := by decide +kernel
theorem dX3_giverIn_6 : decode cX3_giverIn 6 = .ok (.invokevirtual 25, 3) := by decide +kernel
theorem dX3_giverIn_9 : decode cX3_giverIn 9 = .ok (.ireturn, 1) := by decide +kernel
def wpX3_giverIn (post : Int32 → Prop) (K : KS) (p1 : Int32) : Prop := (wpX3_numberAt (fun r1 => post r1) K ((3 * p1) + 1))
theorem hdX3_giverIn : yX3_giverIn.cls ≠ "java/lang/invoke/MethodHandle" ∧ yX3_giverIn.cls ≠ "java/lang/invoke/VarHandle" ∧ (parseMethodDescriptor yX3_giverIn.desc).map (fun d => d.parameters.length) = some 1 := by decide +kernel
set_option maxHeartbeats 4000000 in
set_option maxRecDepth 100000 in
theorem mtX3_giverIn {l : Launch} {D : va_G} {cI : Nat → ClassId} {e0 : Nat} {A : Nat → Prop} {ad : Nat → Nat → Nat} {K M : KS} {ap o : Int64} {od : UInt64} {mc ms : Nat} {p1 : Int32} {post : Int32 → Prop} (h : wpX3_giverIn post K p1) : CM l D cI e0 A yX3_giverIn cX3_giverIn 2 (some FieldType.int) 1 21 mc ms [.ref (ad 1 0), .int p1] (HT D cI e0 A ad K M ap o od) (qP D cI e0 A ad K M ap o od rI post) xN := by
  refine CM.of (by decide) (Nat.le_of_ble_eq_true rfl) (fun p e s m below meth c ls FX hw hS hl => ?_)
  obtain ⟨S, hg, hr, hlk, hnm, hout⟩ := FX
  have hl : lv_has ls 2 [(0, .ref (ad 1 0)), (1, .int p1)] := hl
  unfold wpX3_giverIn at h
  refine lv_aload_n S.1 S.2.1 dX3_giverIn_0 rfl (lv_at hl 0 rfl) ?_
  refine lv_iconst (v := 3) S.1 S.2.1 dX3_giverIn_1 (by decide) ?_
  refine lv_iload_n S.1 S.2.1 dX3_giverIn_2 rfl (lv_at hl 1 rfl) ?_
  refine lv_imul S.1 S.2.1 dX3_giverIn_3 ?_
  refine lv_iconst (v := 1) S.1 S.2.1 dX3_giverIn_4 (by decide) ?_
  refine lv_iadd S.1 S.2.1 dX3_giverIn_5 ?_
  refine r_call (rest := []) S hg hS (mtX3_numberAt (mc := 0) (ms := 0) h) u200 u202 u0 u31 u203 hdX3_numberAt (rv1 hg hw) hw ⟨Nat.le_of_ble_eq_true rfl, Nat.le_of_ble_eq_true rfl⟩ ⟨by show 0 + 0 ≤ mc; omega, by show 0 + 0 ≤ ms; omega⟩ hl.1 (Nat.le_of_ble_eq_true rfl) rfl dX3_giverIn_6 (fun E ce q H1 locs1 hx hS1 hc1 hc2 hc3 => hx.elim) (fun rv H locs hq hS => ?_)
  obtain ⟨r1, rfl, h, hw⟩ := hq
  show W p l e _ s m _ below meth c H locs _ _ _ (F0 m 9 ls [.int r1])
  show W p l e _ s m _ below meth c H locs 0 0 _ _
  exact r_iret (y := yX3_giverIn) S hr rfl hlk hS (by omega) (by omega) dX3_giverIn_9 ⟨r1, rfl, h, hw⟩

-- X3.takerIn
theorem dX3_takerIn_0 : decode cX3_takerIn 0 = .ok (.aload_n 0, 1) := by decide +kernel
theorem dX3_takerIn_1 : decode cX3_takerIn 1 = .ok (.iconst 3, 1) := by decide +kernel
theorem dX3_takerIn_2 : decode cX3_takerIn 2 = .ok (.iload_n 1, 1) := by decide +kernel
theorem dX3_takerIn_3 : decode cX3_takerIn 3 = .ok (.imul, 1) := by decide +kernel
theorem dX3_takerIn_4 : decode cX3_takerIn 4 = .ok (.iconst 2, 1) := by decide +kernel
theorem dX3_takerIn_5 : decode cX3_takerIn 5 = .ok (.iadd, 1) := by decide +kernel
theorem dX3_takerIn_6 : decode cX3_takerIn 6 = .ok (.invokevirtual 25, 3) := by decide +kernel
theorem dX3_takerIn_9 : decode cX3_takerIn 9 = .ok (.ireturn, 1) := by decide +kernel
def wpX3_takerIn (post : Int32 → Prop) (K : KS) (p1 : Int32) : Prop := (wpX3_numberAt (fun r1 => post r1) K ((3 * p1) + 2))
theorem hdX3_takerIn : yX3_takerIn.cls ≠ "java/lang/invoke/MethodHandle" ∧ yX3_takerIn.cls ≠ "java/lang/invoke/VarHandle" ∧ (parseMethodDescriptor yX3_takerIn.desc).map (fun d => d.parameters.length) = some 1 := by decide +kernel
set_option maxHeartbeats 4000000 in
set_option maxRecDepth 100000 in
theorem mtX3_takerIn {l : Launch} {D : va_G} {cI : Nat → ClassId} {e0 : Nat} {A : Nat → Prop} {ad : Nat → Nat → Nat} {K M : KS} {ap o : Int64} {od : UInt64} {mc ms : Nat} {p1 : Int32} {post : Int32 → Prop} (h : wpX3_takerIn post K p1) : CM l D cI e0 A yX3_takerIn cX3_takerIn 2 (some FieldType.int) 1 21 mc ms [.ref (ad 1 0), .int p1] (HT D cI e0 A ad K M ap o od) (qP D cI e0 A ad K M ap o od rI post) xN := by
  refine CM.of (by decide) (Nat.le_of_ble_eq_true rfl) (fun p e s m below meth c ls FX hw hS hl => ?_)
  obtain ⟨S, hg, hr, hlk, hnm, hout⟩ := FX
  have hl : lv_has ls 2 [(0, .ref (ad 1 0)), (1, .int p1)] := hl
  unfold wpX3_takerIn at h
  refine lv_aload_n S.1 S.2.1 dX3_takerIn_0 rfl (lv_at hl 0 rfl) ?_
  refine lv_iconst (v := 3) S.1 S.2.1 dX3_takerIn_1 (by decide) ?_
  refine lv_iload_n S.1 S.2.1 dX3_takerIn_2 rfl (lv_at hl 1 rfl) ?_
  refine lv_imul S.1 S.2.1 dX3_takerIn_3 ?_
  refine lv_iconst (v := 2) S.1 S.2.1 dX3_takerIn_4 (by decide) ?_
  refine lv_iadd S.1 S.2.1 dX3_takerIn_5 ?_
  refine r_call (rest := []) S hg hS (mtX3_numberAt (mc := 0) (ms := 0) h) u200 u202 u0 u31 u203 hdX3_numberAt (rv1 hg hw) hw ⟨Nat.le_of_ble_eq_true rfl, Nat.le_of_ble_eq_true rfl⟩ ⟨by show 0 + 0 ≤ mc; omega, by show 0 + 0 ≤ ms; omega⟩ hl.1 (Nat.le_of_ble_eq_true rfl) rfl dX3_takerIn_6 (fun E ce q H1 locs1 hx hS1 hc1 hc2 hc3 => hx.elim) (fun rv H locs hq hS => ?_)
  obtain ⟨r1, rfl, h, hw⟩ := hq
  show W p l e _ s m _ below meth c H locs _ _ _ (F0 m 9 ls [.int r1])
  show W p l e _ s m _ below meth c H locs 0 0 _ _
  exact r_iret (y := yX3_takerIn) S hr rfl hlk hS (by omega) (by omega) dX3_takerIn_9 ⟨r1, rfl, h, hw⟩

-- X3.lastHolder
theorem dX3_lastHolder_0 : decode cX3_lastHolder 0 = .ok (.aload_n 0, 1) := by decide +kernel
theorem dX3_lastHolder_1 : decode cX3_lastHolder 1 = .ok (.getfield 15, 3) := by decide +kernel
theorem dX3_lastHolder_4 : decode cX3_lastHolder 4 = .ok (.iconst 1, 1) := by decide +kernel
theorem dX3_lastHolder_5 : decode cX3_lastHolder 5 = .ok (.isub, 1) := by decide +kernel
theorem dX3_lastHolder_6 : decode cX3_lastHolder 6 = .ok (.istore_n 2, 1) := by decide +kernel
theorem dX3_lastHolder_7 : decode cX3_lastHolder 7 = .ok (.iload_n 2, 1) := by decide +kernel
theorem dX3_lastHolder_8 : decode cX3_lastHolder 8 = .ok (.ifCond .lt 24, 3) := by decide +kernel
theorem dX3_lastHolder_11 : decode cX3_lastHolder 11 = .ok (.aload_n 0, 1) := by decide +kernel
theorem dX3_lastHolder_12 : decode cX3_lastHolder 12 = .ok (.iload_n 2, 1) := by decide +kernel
theorem dX3_lastHolder_13 : decode cX3_lastHolder 13 = .ok (.invokevirtual 29, 3) := by decide +kernel
theorem dX3_lastHolder_16 : decode cX3_lastHolder 16 = .ok (.iload_n 1, 1) := by decide +kernel
theorem dX3_lastHolder_17 : decode cX3_lastHolder 17 = .ok (.if_icmp .ne 9, 3) := by decide +kernel
theorem dX3_lastHolder_20 : decode cX3_lastHolder 20 = .ok (.aload_n 0, 1) := by decide +kernel
theorem dX3_lastHolder_21 : decode cX3_lastHolder 21 = .ok (.iload_n 2, 1) := by decide +kernel
theorem dX3_lastHolder_22 : decode cX3_lastHolder 22 = .ok (.invokevirtual 32, 3) := by decide +kernel
theorem dX3_lastHolder_25 : decode cX3_lastHolder 25 = .ok (.ireturn, 1) := by decide +kernel
theorem dX3_lastHolder_26 : decode cX3_lastHolder 26 = .ok (.iinc 2 (-1), 3) := by decide +kernel
theorem dX3_lastHolder_29 : decode cX3_lastHolder 29 = .ok (.goto (-22), 3) := by decide +kernel
theorem dX3_lastHolder_32 : decode cX3_lastHolder 32 = .ok (.iconst (-1), 1) := by decide +kernel
theorem dX3_lastHolder_33 : decode cX3_lastHolder 33 = .ok (.ireturn, 1) := by decide +kernel
def wX3_lastHolder_7 (post : Int32 → Prop) : Nat → Int32 → Int32 → KS → Prop
  | 0 => fun _ _ _ => False
  | n + 1 => fun l1 l2 K => ((l2 < 0 → (post (-1))) ∧ (¬ l2 < 0 → ((wpX3_cardIn (fun r2 => ((¬ r2 = l1 → (wX3_lastHolder_7 post n l1 (l2 + (-1)) K)) ∧ (r2 = l1 → ((wpX3_takerIn (fun r4 => post r4) K l2))))) K l2))))
set_option maxHeartbeats 4000000 in
set_option maxRecDepth 100000 in
theorem bX3_lastHolder_7 {p : Program} {l : Launch} {e : Env} {s : State} {m : MethodId} {args : Array Value} {below : List Frame} {meth : Method} {c : Code} {D : va_G} {cI : Nat → ClassId} {e0 : Nat} {A : Nat → Prop} {ad : Nat → Nat → Nat} {M : KS} {ap : Int64} {o : Int64} {od : UInt64} {mc ms : Nat} {K : KS} {post : Int32 → Prop} (S : CallFix p m c cX3_lastHolder 3 s args WU RX3) (hg : GI D cI e0 A s s.heap) (hr : meth.sig.returnType = (some FieldType.int)) (hlk : meth.locks = false) (hout : ∀ x ∈ c.exceptionTable.toList, False) : ∀ n : Nat, ∀ {H : Heap} {locs : List Loc} {ls : Array Slot} {l1 : Int32} {l2 : Int32}, va_S A s.heap H locs → HT D cI e0 A ad K M ap o od H → lv_has ls 3 [(0, .ref (ad 1 0)), (1, .int l1), (2, .int l2)] → wX3_lastHolder_7 post n l1 l2 K → W p l e ({ frames := 2, cells := mc, slots := ms, locals := 42 } : Room) s m args below meth c H locs 0 0 (MQQ below (qP D cI e0 A ad K M ap o od rI post) xN args s mc ms A) (F0 m 7 ls []) := by
  intro n
  induction n with
  | zero => intros; exact False.elim (by assumption)
  | succ n ih =>
    intro H locs ls l1 l2 hS hw hl h
    unfold wX3_lastHolder_7 at h
    refine lv_iload_n S.1 S.2.1 dX3_lastHolder_7 rfl (lv_at hl 2 rfl) ?_
    refine lv_if_lt (tgt := 32) S.1 S.2.1 dX3_lastHolder_8 (by decide) (fun c1 => ?_) (fun c1 => ?_)
    · have h := h.1 c1
      refine lv_iconst (v := (-1)) S.1 S.2.1 dX3_lastHolder_32 (by decide) ?_
      exact r_iret (y := yX3_lastHolder) S hr rfl hlk hS (by omega) (by omega) dX3_lastHolder_33 ⟨(-1), rfl, h, hw⟩
    · have h := h.2 c1
      refine lv_aload_n S.1 S.2.1 dX3_lastHolder_11 rfl (lv_at hl 0 rfl) ?_
      refine lv_iload_n S.1 S.2.1 dX3_lastHolder_12 rfl (lv_at hl 2 rfl) ?_
      refine r_call (rest := []) S hg hS (mtX3_cardIn (mc := 0) (ms := 0) h) u196 u197 u198 u31 u199 hdX3_cardIn (rv1 hg hw) hw ⟨Nat.le_of_ble_eq_true rfl, Nat.le_of_ble_eq_true rfl⟩ ⟨by show 0 + 0 ≤ mc; omega, by show 0 + 0 ≤ ms; omega⟩ hl.1 (Nat.le_of_ble_eq_true rfl) rfl dX3_lastHolder_13 (fun E ce q H1 locs1 hx hS1 hc1 hc2 hc3 => hx.elim) (fun rv H locs hq hS => ?_)
      obtain ⟨r2, rfl, h, hw⟩ := hq
      show W p l e _ s m _ below meth c H locs _ _ _ (F0 m 16 ls [.int r2])
      show W p l e _ s m _ below meth c H locs 0 0 _ _
      refine lv_iload_n S.1 S.2.1 dX3_lastHolder_16 rfl (lv_at hl 1 rfl) ?_
      refine lv_icmp_ne (tgt := 26) S.1 S.2.1 dX3_lastHolder_17 (by decide) (fun c3 => ?_) (fun c3 => ?_)
      · have h := h.1 c3
        refine lv_iinc (v := l2 + (-1)) (lv' := [(2, .int (l2 + (-1))), (0, .ref (ad 1 0)), (1, .int l1)]) S.1 S.2.1 dX3_lastHolder_26 hl (k := 2) rfl rfl (by decide) rfl (fun ls hl => ?_)
        refine lv_goto (tgt := 7) S.1 S.2.1 dX3_lastHolder_29 (by decide) ?_
        have hl := lv_sub hl (l' := [(0, .ref (ad 1 0)), (1, .int l1), (2, .int (l2 + (-1)))]) [1, 2, 0] rfl
        exact ih hS hw hl h
      · have h := h.2 c3
        refine lv_aload_n S.1 S.2.1 dX3_lastHolder_20 rfl (lv_at hl 0 rfl) ?_
        refine lv_iload_n S.1 S.2.1 dX3_lastHolder_21 rfl (lv_at hl 2 rfl) ?_
        refine r_call (rest := []) S hg hS (mtX3_takerIn (mc := 0) (ms := 0) h) u204 u205 u206 u31 u207 hdX3_takerIn (rv1 hg hw) hw ⟨Nat.le_of_ble_eq_true rfl, Nat.le_of_ble_eq_true rfl⟩ ⟨by show 0 + 0 ≤ mc; omega, by show 0 + 0 ≤ ms; omega⟩ hl.1 (Nat.le_of_ble_eq_true rfl) rfl dX3_lastHolder_22 (fun E ce q H1 locs1 hx hS1 hc1 hc2 hc3 => hx.elim) (fun rv H locs hq hS => ?_)
        obtain ⟨r4, rfl, h, hw⟩ := hq
        show W p l e _ s m _ below meth c H locs _ _ _ (F0 m 25 ls [.int r4])
        show W p l e _ s m _ below meth c H locs 0 0 _ _
        exact r_iret (y := yX3_lastHolder) S hr rfl hlk hS (by omega) (by omega) dX3_lastHolder_25 ⟨r4, rfl, h, hw⟩
def wpX3_lastHolder (post : Int32 → Prop) (K : KS) (p1 : Int32) : Prop := ∃ n1 : Nat, wX3_lastHolder_7 post n1 p1 ((K 1 1 0) - 1) K
theorem hdX3_lastHolder : yX3_lastHolder.cls ≠ "java/lang/invoke/MethodHandle" ∧ yX3_lastHolder.cls ≠ "java/lang/invoke/VarHandle" ∧ (parseMethodDescriptor yX3_lastHolder.desc).map (fun d => d.parameters.length) = some 1 := by decide +kernel
set_option maxHeartbeats 4000000 in
set_option maxRecDepth 100000 in
theorem mtX3_lastHolder {l : Launch} {D : va_G} {cI : Nat → ClassId} {e0 : Nat} {A : Nat → Prop} {ad : Nat → Nat → Nat} {K M : KS} {ap o : Int64} {od : UInt64} {mc ms : Nat} {p1 : Int32} {post : Int32 → Prop} (h : wpX3_lastHolder post K p1) : CM l D cI e0 A yX3_lastHolder cX3_lastHolder 3 (some FieldType.int) 2 42 mc ms [.ref (ad 1 0), .int p1] (HT D cI e0 A ad K M ap o od) (qP D cI e0 A ad K M ap o od rI post) xN := by
  refine CM.of (by decide) (Nat.le_of_ble_eq_true rfl) (fun p e s m below meth c ls FX hw hS hl => ?_)
  obtain ⟨S, hg, hr, hlk, hnm, hout⟩ := FX
  have hl : lv_has ls 3 [(0, .ref (ad 1 0)), (1, .int p1)] := hl
  unfold wpX3_lastHolder at h
  refine lv_aload_n S.1 S.2.1 dX3_lastHolder_0 rfl (lv_at hl 0 rfl) ?_
  refine g1_1 S hg hw u96 dX3_lastHolder_1 ?_
  refine lv_iconst (v := 1) S.1 S.2.1 dX3_lastHolder_4 (by decide) ?_
  refine lv_isub S.1 S.2.1 dX3_lastHolder_5 ?_
  refine lv_istore_n (lv' := [(2, .int ((K 1 1 0) - 1)), (0, .ref (ad 1 0)), (1, .int p1)]) S.1 S.2.1 dX3_lastHolder_6 rfl hl (by decide) rfl (fun ls hl => ?_)
  have hl := lv_sub hl (l' := [(0, .ref (ad 1 0)), (1, .int p1), (2, .int ((K 1 1 0) - 1))]) [1, 2, 0] rfl
  obtain ⟨n1, h⟩ := h
  exact bX3_lastHolder_7 S hg hr hlk hout n1 hS hw hl h

-- X3.enter
theorem dX3_enter_0 : decode cX3_enter 0 = .ok (.aload_n 0, 1) := by decide +kernel
theorem dX3_enter_1 : decode cX3_enter 1 = .ok (.getfield 15, 3) := by decide +kernel
theorem dX3_enter_4 : decode cX3_enter 4 = .ok (.sipush 4608, 3) := by decide +kernel
theorem dX3_enter_7 : decode cX3_enter 7 = .ok (.if_icmp .lt 4, 3) := by decide +kernel
theorem dX3_enter_10 : decode cX3_enter 10 = .ok (.return_, 1) := by decide +kernel
theorem dX3_enter_11 : decode cX3_enter 11 = .ok (.iconst 3, 1) := by decide +kernel
theorem dX3_enter_12 : decode cX3_enter 12 = .ok (.aload_n 0, 1) := by decide +kernel
theorem dX3_enter_13 : decode cX3_enter 13 = .ok (.getfield 15, 3) := by decide +kernel
theorem dX3_enter_16 : decode cX3_enter 16 = .ok (.imul, 1) := by decide +kernel
theorem dX3_enter_17 : decode cX3_enter 17 = .ok (.iconst 3, 1) := by decide +kernel
theorem dX3_enter_18 : decode cX3_enter 18 = .ok (.iadd, 1) := by decide +kernel
theorem dX3_enter_19 : decode cX3_enter 19 = .ok (.aload_n 0, 1) := by decide +kernel
theorem dX3_enter_20 : decode cX3_enter 20 = .ok (.getfield 9, 3) := by decide +kernel
theorem dX3_enter_23 : decode cX3_enter 23 = .ok (.arraylength, 1) := by decide +kernel
theorem dX3_enter_24 : decode cX3_enter 24 = .ok (.if_icmp .le 21, 3) := by decide +kernel
theorem dX3_enter_27 : decode cX3_enter 27 = .ok (.aload_n 0, 1) := by decide +kernel
theorem dX3_enter_28 : decode cX3_enter 28 = .ok (.aload_n 0, 1) := by decide +kernel
theorem dX3_enter_29 : decode cX3_enter 29 = .ok (.getfield 9, 3) := by decide +kernel
theorem dX3_enter_32 : decode cX3_enter 32 = .ok (.iconst 2, 1) := by decide +kernel
theorem dX3_enter_33 : decode cX3_enter 33 = .ok (.aload_n 0, 1) := by decide +kernel
theorem dX3_enter_34 : decode cX3_enter 34 = .ok (.getfield 9, 3) := by decide +kernel
theorem dX3_enter_37 : decode cX3_enter 37 = .ok (.arraylength, 1) := by decide +kernel
theorem dX3_enter_38 : decode cX3_enter 38 = .ok (.imul, 1) := by decide +kernel
theorem dX3_enter_39 : decode cX3_enter 39 = .ok (.invokestatic 19, 3) := by decide +kernel
theorem dX3_enter_42 : decode cX3_enter 42 = .ok (.putfield 9, 3) := by decide +kernel
theorem dX3_enter_45 : decode cX3_enter 45 = .ok (.aload_n 0, 1) := by decide +kernel
theorem dX3_enter_46 : decode cX3_enter 46 = .ok (.getfield 9, 3) := by decide +kernel
theorem dX3_enter_49 : decode cX3_enter 49 = .ok (.iconst 3, 1) := by decide +kernel
theorem dX3_enter_50 : decode cX3_enter 50 = .ok (.aload_n 0, 1) := by decide +kernel
theorem dX3_enter_51 : decode cX3_enter 51 = .ok (.getfield 15, 3) := by decide +kernel
theorem dX3_enter_54 : decode cX3_enter 54 = .ok (.imul, 1) := by decide +kernel
theorem dX3_enter_55 : decode cX3_enter 55 = .ok (.iload_n 1, 1) := by decide +kernel
theorem dX3_enter_56 : decode cX3_enter 56 = .ok (.iastore, 1) := by decide +kernel
theorem dX3_enter_57 : decode cX3_enter 57 = .ok (.aload_n 0, 1) := by decide +kernel
theorem dX3_enter_58 : decode cX3_enter 58 = .ok (.getfield 9, 3) := by decide +kernel
theorem dX3_enter_61 : decode cX3_enter 61 = .ok (.iconst 3, 1) := by decide +kernel
theorem dX3_enter_62 : decode cX3_enter 62 = .ok (.aload_n 0, 1) := by decide +kernel
theorem dX3_enter_63 : decode cX3_enter 63 = .ok (.getfield 15, 3) := by decide +kernel
theorem dX3_enter_66 : decode cX3_enter 66 = .ok (.imul, 1) := by decide +kernel
theorem dX3_enter_67 : decode cX3_enter 67 = .ok (.iconst 1, 1) := by decide +kernel
theorem dX3_enter_68 : decode cX3_enter 68 = .ok (.iadd, 1) := by decide +kernel
theorem dX3_enter_69 : decode cX3_enter 69 = .ok (.iload_n 2, 1) := by decide +kernel
theorem dX3_enter_70 : decode cX3_enter 70 = .ok (.iastore, 1) := by decide +kernel
theorem dX3_enter_71 : decode cX3_enter 71 = .ok (.aload_n 0, 1) := by decide +kernel
theorem dX3_enter_72 : decode cX3_enter 72 = .ok (.getfield 9, 3) := by decide +kernel
theorem dX3_enter_75 : decode cX3_enter 75 = .ok (.iconst 3, 1) := by decide +kernel
theorem dX3_enter_76 : decode cX3_enter 76 = .ok (.aload_n 0, 1) := by decide +kernel
theorem dX3_enter_77 : decode cX3_enter 77 = .ok (.getfield 15, 3) := by decide +kernel
theorem dX3_enter_80 : decode cX3_enter 80 = .ok (.imul, 1) := by decide +kernel
theorem dX3_enter_81 : decode cX3_enter 81 = .ok (.iconst 2, 1) := by decide +kernel
theorem dX3_enter_82 : decode cX3_enter 82 = .ok (.iadd, 1) := by decide +kernel
theorem dX3_enter_83 : decode cX3_enter 83 = .ok (.iload_n 3, 1) := by decide +kernel
theorem dX3_enter_84 : decode cX3_enter 84 = .ok (.iastore, 1) := by decide +kernel
theorem dX3_enter_85 : decode cX3_enter 85 = .ok (.aload_n 0, 1) := by decide +kernel
theorem dX3_enter_86 : decode cX3_enter 86 = .ok (.dup, 1) := by decide +kernel
theorem dX3_enter_87 : decode cX3_enter 87 = .ok (.getfield 15, 3) := by decide +kernel
theorem dX3_enter_90 : decode cX3_enter 90 = .ok (.iconst 1, 1) := by decide +kernel
theorem dX3_enter_91 : decode cX3_enter 91 = .ok (.iadd, 1) := by decide +kernel
theorem dX3_enter_92 : decode cX3_enter 92 = .ok (.putfield 15, 3) := by decide +kernel
theorem dX3_enter_95 : decode cX3_enter 95 = .ok (.return_, 1) := by decide +kernel
def wX3_enter_45 (post : Unit → KS → Prop) (mc ms : Nat) (uc us : Nat) (l1 : Int32) (l2 : Int32) (l3 : Int32) (K : KS) : Prop := (vp_in (3 * (K 1 1 0)) (K 1 5 0).toNatClampNeg) ∧ ((vp_in ((3 * ((k3 K 11 0 ((3 * (K 1 1 0)).toNatClampNeg) l1) 1 1 0)) + 1) ((k3 K 11 0 ((3 * (K 1 1 0)).toNatClampNeg) l1) 1 5 0).toNatClampNeg) ∧ ((vp_in ((3 * ((k3 (k3 K 11 0 ((3 * (K 1 1 0)).toNatClampNeg) l1) 11 0 (((3 * ((k3 K 11 0 ((3 * (K 1 1 0)).toNatClampNeg) l1) 1 1 0)) + 1).toNatClampNeg) l2) 1 1 0)) + 2) ((k3 (k3 K 11 0 ((3 * (K 1 1 0)).toNatClampNeg) l1) 11 0 (((3 * ((k3 K 11 0 ((3 * (K 1 1 0)).toNatClampNeg) l1) 1 1 0)) + 1).toNatClampNeg) l2) 1 5 0).toNatClampNeg) ∧ (post () (k3 (k3 (k3 (k3 K 11 0 ((3 * (K 1 1 0)).toNatClampNeg) l1) 11 0 (((3 * ((k3 K 11 0 ((3 * (K 1 1 0)).toNatClampNeg) l1) 1 1 0)) + 1).toNatClampNeg) l2) 11 0 (((3 * ((k3 (k3 K 11 0 ((3 * (K 1 1 0)).toNatClampNeg) l1) 11 0 (((3 * ((k3 K 11 0 ((3 * (K 1 1 0)).toNatClampNeg) l1) 1 1 0)) + 1).toNatClampNeg) l2) 1 1 0)) + 2).toNatClampNeg) l3) 1 1 0 (((k3 (k3 (k3 K 11 0 ((3 * (K 1 1 0)).toNatClampNeg) l1) 11 0 (((3 * ((k3 K 11 0 ((3 * (K 1 1 0)).toNatClampNeg) l1) 1 1 0)) + 1).toNatClampNeg) l2) 11 0 (((3 * ((k3 (k3 K 11 0 ((3 * (K 1 1 0)).toNatClampNeg) l1) 11 0 (((3 * ((k3 K 11 0 ((3 * (K 1 1 0)).toNatClampNeg) l1) 1 1 0)) + 1).toNatClampNeg) l2) 1 1 0)) + 2).toNatClampNeg) l3) 1 1 0) + 1)))))
set_option maxHeartbeats 4000000 in
set_option maxRecDepth 100000 in
theorem bX3_enter_45 {p : Program} {l : Launch} {e : Env} {s : State} {m : MethodId} {args : Array Value} {below : List Frame} {meth : Method} {c : Code} {D : va_G} {cI : Nat → ClassId} {e0 : Nat} {A : Nat → Prop} {ad : Nat → Nat → Nat} {M : KS} {ap : Int64} {o : Int64} {od : UInt64} {mc ms : Nat} {post : Unit → KS → Prop} (S : CallFix p m c cX3_enter 4 s args WU RX3) (hg : GI D cI e0 A s s.heap) (hr : meth.sig.returnType = none) (hlk : meth.locks = false) (hout : ∀ x ∈ c.exceptionTable.toList, False) {H : Heap} {locs : List Loc} {ls : Array Slot} {uc us : Nat} {l1 : Int32} {l2 : Int32} {l3 : Int32} {K : KS} (hS : va_S A s.heap H locs) (hw : HT D cI e0 A ad K M ap o od H) (hl : lv_has ls 4 [(0, .ref (ad 1 0)), (1, .int l1), (2, .int l2), (3, .int l3)]) (huc : uc ≤ mc) (hus : us ≤ ms) (h : wX3_enter_45 post mc ms uc us l1 l2 l3 K) : W p l e ({ frames := 2, cells := mc, slots := ms, locals := 82 } : Room) s m args below meth c H locs uc us (MQQ below (qK D cI e0 A ad M ap o od rV post) xN args s mc ms A) (F0 m 45 ls []) := by
  unfold wX3_enter_45 at h
  refine lv_aload_n S.1 S.2.1 dX3_enter_45 rfl (lv_at hl 0 rfl) ?_
  refine g1_0 S hg hw u95 dX3_enter_46 (fun a4 ha4 => ?_)
  refine lv_iconst (v := 3) S.1 S.2.1 dX3_enter_49 (by decide) ?_
  refine lv_aload_n S.1 S.2.1 dX3_enter_50 rfl (lv_at hl 0 rfl) ?_
  refine g1_1 S hg hw u96 dX3_enter_51 ?_
  refine lv_imul S.1 S.2.1 dX3_enter_54 ?_
  refine lv_iload_n S.1 S.2.1 dX3_enter_55 rfl (lv_at hl 1 rfl) ?_
  obtain ⟨g5, h⟩ := h
  refine s11 S hg hS ha4 g5 dX3_enter_56 (fun H locs hw hS => ?_)
  refine lv_aload_n S.1 S.2.1 dX3_enter_57 rfl (lv_at hl 0 rfl) ?_
  refine g1_0 S hg hw u95 dX3_enter_58 (fun a6 ha6 => ?_)
  refine lv_iconst (v := 3) S.1 S.2.1 dX3_enter_61 (by decide) ?_
  refine lv_aload_n S.1 S.2.1 dX3_enter_62 rfl (lv_at hl 0 rfl) ?_
  refine g1_1 S hg hw u96 dX3_enter_63 ?_
  refine lv_imul S.1 S.2.1 dX3_enter_66 ?_
  refine lv_iconst (v := 1) S.1 S.2.1 dX3_enter_67 (by decide) ?_
  refine lv_iadd S.1 S.2.1 dX3_enter_68 ?_
  refine lv_iload_n S.1 S.2.1 dX3_enter_69 rfl (lv_at hl 2 rfl) ?_
  obtain ⟨g7, h⟩ := h
  refine s11 S hg hS ha6 g7 dX3_enter_70 (fun H locs hw hS => ?_)
  refine lv_aload_n S.1 S.2.1 dX3_enter_71 rfl (lv_at hl 0 rfl) ?_
  refine g1_0 S hg hw u95 dX3_enter_72 (fun a8 ha8 => ?_)
  refine lv_iconst (v := 3) S.1 S.2.1 dX3_enter_75 (by decide) ?_
  refine lv_aload_n S.1 S.2.1 dX3_enter_76 rfl (lv_at hl 0 rfl) ?_
  refine g1_1 S hg hw u96 dX3_enter_77 ?_
  refine lv_imul S.1 S.2.1 dX3_enter_80 ?_
  refine lv_iconst (v := 2) S.1 S.2.1 dX3_enter_81 (by decide) ?_
  refine lv_iadd S.1 S.2.1 dX3_enter_82 ?_
  refine lv_iload_n S.1 S.2.1 dX3_enter_83 rfl (lv_at hl 3 rfl) ?_
  obtain ⟨g9, h⟩ := h
  refine s11 S hg hS ha8 g9 dX3_enter_84 (fun H locs hw hS => ?_)
  refine lv_aload_n S.1 S.2.1 dX3_enter_85 rfl (lv_at hl 0 rfl) ?_
  refine lv_dup S.1 S.2.1 dX3_enter_86 rfl ?_
  refine g1_1 S hg hw u96 dX3_enter_87 ?_
  refine lv_iconst (v := 1) S.1 S.2.1 dX3_enter_90 (by decide) ?_
  refine lv_iadd S.1 S.2.1 dX3_enter_91 ?_
  refine p1_1 S hg hS hw u96 dX3_enter_92 (fun H locs hw hS => ?_)
  exact r_vret (y := yX3_enter) S hr hlk hS (by omega) (by omega) dX3_enter_95 ⟨(), _, rfl, h, hw⟩
def wpX3_enter (post : Unit → KS → Prop) (mc ms : Nat) (K : KS) (p1 : Int32) (p2 : Int32) (p3 : Int32) : Prop := (((K 1 1 0) < 4608 → (((((3 * (K 1 1 0)) + 3) ≤ (nI (K 1 5 0).toNatClampNeg) → (wX3_enter_45 post mc ms 0 0 p1 p2 p3 K)) ∧ (¬ ((3 * (K 1 1 0)) + 3) ≤ (nI (K 1 5 0).toNatClampNeg) → ((∃ N14 a12 a13 : Nat, 0 + a12 ≤ mc ∧ 0 + a13 ≤ ms ∧ okGrow K (2 * (nI (K 1 5 0).toNatClampNeg)) N14 a12 a13 ∧ (wX3_enter_45 post mc ms (0 + a12) (0 + a13) p1 p2 p3 (eGrow K N14)))))))) ∧ (¬ (K 1 1 0) < 4608 → (post () K)))
theorem hdX3_enter : yX3_enter.cls ≠ "java/lang/invoke/MethodHandle" ∧ yX3_enter.cls ≠ "java/lang/invoke/VarHandle" ∧ (parseMethodDescriptor yX3_enter.desc).map (fun d => d.parameters.length) = some 3 := by decide +kernel
set_option maxHeartbeats 4000000 in
set_option maxRecDepth 100000 in
theorem mtX3_enter {l : Launch} {D : va_G} {cI : Nat → ClassId} {e0 : Nat} {A : Nat → Prop} {ad : Nat → Nat → Nat} {K M : KS} {ap o : Int64} {od : UInt64} {mc ms : Nat} {p1 : Int32} {p2 : Int32} {p3 : Int32} {post : Unit → KS → Prop} (h : wpX3_enter post mc ms K p1 p2 p3) : CM l D cI e0 A yX3_enter cX3_enter 4 none 2 82 mc ms [.ref (ad 1 0), .int p1, .int p2, .int p3] (HT D cI e0 A ad K M ap o od) (qK D cI e0 A ad M ap o od rV post) xN := by
  refine CM.of (by decide) (Nat.le_of_ble_eq_true rfl) (fun p e s m below meth c ls FX hw hS hl => ?_)
  obtain ⟨S, hg, hr, hlk, hnm, hout⟩ := FX
  have hl : lv_has ls 4 [(0, .ref (ad 1 0)), (1, .int p1), (2, .int p2), (3, .int p3)] := hl
  unfold wpX3_enter at h
  refine lv_aload_n S.1 S.2.1 dX3_enter_0 rfl (lv_at hl 0 rfl) ?_
  refine g1_1 S hg hw u96 dX3_enter_1 ?_
  refine lv_sipush (v := 4608) S.1 S.2.1 dX3_enter_4 (by decide) ?_
  refine lv_icmp_lt (tgt := 11) S.1 S.2.1 dX3_enter_7 (by decide) (fun c1 => ?_) (fun c1 => ?_)
  · have h := h.1 c1
    refine lv_iconst (v := 3) S.1 S.2.1 dX3_enter_11 (by decide) ?_
    refine lv_aload_n S.1 S.2.1 dX3_enter_12 rfl (lv_at hl 0 rfl) ?_
    refine g1_1 S hg hw u96 dX3_enter_13 ?_
    refine lv_imul S.1 S.2.1 dX3_enter_16 ?_
    refine lv_iconst (v := 3) S.1 S.2.1 dX3_enter_17 (by decide) ?_
    refine lv_iadd S.1 S.2.1 dX3_enter_18 ?_
    refine lv_aload_n S.1 S.2.1 dX3_enter_19 rfl (lv_at hl 0 rfl) ?_
    refine g1_0 S hg hw u95 dX3_enter_20 (fun a2 ha2 => ?_)
    refine n11 S hg ha2 dX3_enter_23 ?_
    refine lv_icmp_le (tgt := 45) S.1 S.2.1 dX3_enter_24 (by decide) (fun c3 => ?_) (fun c3 => ?_)
    · have h := h.1 c3
      have hl := lv_sub hl (l' := [(0, .ref (ad 1 0)), (1, .int p1), (2, .int p2), (3, .int p3)]) [0, 1, 2, 3] rfl
      exact bX3_enter_45 S hg hr hlk hout hS hw hl (by omega) (by omega) h
    · have h := h.2 c3
      refine lv_aload_n S.1 S.2.1 dX3_enter_27 rfl (lv_at hl 0 rfl) ?_
      refine lv_aload_n S.1 S.2.1 dX3_enter_28 rfl (lv_at hl 0 rfl) ?_
      refine g1_0 S hg hw u95 dX3_enter_29 (fun a10 ha10 => ?_)
      refine lv_iconst (v := 2) S.1 S.2.1 dX3_enter_32 (by decide) ?_
      refine lv_aload_n S.1 S.2.1 dX3_enter_33 rfl (lv_at hl 0 rfl) ?_
      refine g1_0 S hg hw u95 dX3_enter_34 (fun a11 ha11 => ?_)
      refine n11 S hg ha11 dX3_enter_37 ?_
      refine lv_imul S.1 S.2.1 dX3_enter_38 ?_
      obtain ⟨N14, a12, a13, h1, h2, g15, h⟩ := h
      refine e_grow (mc := a12) (ms := a13) S hg hS ha10 g15 hl.1 ⟨Nat.le_of_ble_eq_true rfl, Nat.le_of_ble_eq_true rfl⟩ ⟨by show 0 + a12 ≤ mc; omega, by show 0 + a13 ≤ ms; omega⟩ dX3_enter_39 dX3_enter_42 (fun H locs hw hS => ?_)
      have hl := lv_sub hl (l' := [(0, .ref (ad 1 0)), (1, .int p1), (2, .int p2), (3, .int p3)]) [0, 1, 2, 3] rfl
      exact bX3_enter_45 S hg hr hlk hout hS hw hl (by omega) (by omega) h
  · have h := h.2 c1
    exact r_vret (y := yX3_enter) S hr hlk hS (by omega) (by omega) dX3_enter_10 ⟨(), _, rfl, h, hw⟩
