-- wonBits
theorem dX7_wonBits_0 : decode cX7_wonBits 0 = .ok (.aload_n 0, 1) := by decide +kernel
theorem dX7_wonBits_1 : decode cX7_wonBits 1 = .ok (.aload_n 0, 1) := by decide +kernel
theorem dX7_wonBits_2 : decode cX7_wonBits 2 = .ok (.getfield 120, 3) := by decide +kernel
theorem dX7_wonBits_5 : decode cX7_wonBits 5 = .ok (.ifCond .ne 7, 3) := by decide +kernel
theorem dX7_wonBits_8 : decode cX7_wonBits 8 = .ok (.iconst 1, 1) := by decide +kernel
theorem dX7_wonBits_9 : decode cX7_wonBits 9 = .ok (.goto 4, 3) := by decide +kernel
theorem dX7_wonBits_12 : decode cX7_wonBits 12 = .ok (.iconst 0, 1) := by decide +kernel
theorem dX7_wonBits_13 : decode cX7_wonBits 13 = .ok (.putfield 98, 3) := by decide +kernel
theorem dX7_wonBits_16 : decode cX7_wonBits 16 = .ok (.iconst 0, 1) := by decide +kernel
theorem dX7_wonBits_17 : decode cX7_wonBits 17 = .ok (.istore_n 1, 1) := by decide +kernel
theorem dX7_wonBits_18 : decode cX7_wonBits 18 = .ok (.iconst 0, 1) := by decide +kernel
theorem dX7_wonBits_19 : decode cX7_wonBits 19 = .ok (.istore_n 2, 1) := by decide +kernel
theorem dX7_wonBits_20 : decode cX7_wonBits 20 = .ok (.iload_n 2, 1) := by decide +kernel
theorem dX7_wonBits_21 : decode cX7_wonBits 21 = .ok (.aload_n 0, 1) := by decide +kernel
theorem dX7_wonBits_22 : decode cX7_wonBits 22 = .ok (.getfield 120, 3) := by decide +kernel
theorem dX7_wonBits_25 : decode cX7_wonBits 25 = .ok (.if_icmp .ge 28, 3) := by decide +kernel
theorem dX7_wonBits_28 : decode cX7_wonBits 28 = .ok (.iload_n 1, 1) := by decide +kernel
theorem dX7_wonBits_29 : decode cX7_wonBits 29 = .ok (.aload_n 0, 1) := by decide +kernel
theorem dX7_wonBits_30 : decode cX7_wonBits 30 = .ok (.getfield 19, 3) := by decide +kernel
theorem dX7_wonBits_33 : decode cX7_wonBits 33 = .ok (.iload_n 2, 1) := by decide +kernel
theorem dX7_wonBits_34 : decode cX7_wonBits 34 = .ok (.caload, 1) := by decide +kernel
theorem dX7_wonBits_35 : decode cX7_wonBits 35 = .ok (.bipush 119, 2) := by decide +kernel
theorem dX7_wonBits_37 : decode cX7_wonBits 37 = .ok (.if_icmp .ne 7, 3) := by decide +kernel
theorem dX7_wonBits_40 : decode cX7_wonBits 40 = .ok (.iconst 1, 1) := by decide +kernel
theorem dX7_wonBits_41 : decode cX7_wonBits 41 = .ok (.goto 4, 3) := by decide +kernel
theorem dX7_wonBits_44 : decode cX7_wonBits 44 = .ok (.iconst 0, 1) := by decide +kernel
theorem dX7_wonBits_45 : decode cX7_wonBits 45 = .ok (.iadd, 1) := by decide +kernel
theorem dX7_wonBits_46 : decode cX7_wonBits 46 = .ok (.istore_n 1, 1) := by decide +kernel
theorem dX7_wonBits_47 : decode cX7_wonBits 47 = .ok (.iinc 2 1, 3) := by decide +kernel
theorem dX7_wonBits_50 : decode cX7_wonBits 50 = .ok (.goto (-30), 3) := by decide +kernel
theorem dX7_wonBits_53 : decode cX7_wonBits 53 = .ok (.aload_n 0, 1) := by decide +kernel
theorem dX7_wonBits_54 : decode cX7_wonBits 54 = .ok (.getfield 98, 3) := by decide +kernel
theorem dX7_wonBits_57 : decode cX7_wonBits 57 = .ok (.ifCond .le 7, 3) := by decide +kernel
theorem dX7_wonBits_60 : decode cX7_wonBits 60 = .ok (.iconst 0, 1) := by decide +kernel
theorem dX7_wonBits_61 : decode cX7_wonBits 61 = .ok (.goto 14, 3) := by decide +kernel
theorem dX7_wonBits_64 : decode cX7_wonBits 64 = .ok (.iload_n 1, 1) := by decide +kernel
theorem dX7_wonBits_65 : decode cX7_wonBits 65 = .ok (.i2f, 1) := by decide +kernel
theorem dX7_wonBits_66 : decode cX7_wonBits 66 = .ok (.aload_n 0, 1) := by decide +kernel
theorem dX7_wonBits_67 : decode cX7_wonBits 67 = .ok (.getfield 120, 3) := by decide +kernel
theorem dX7_wonBits_70 : decode cX7_wonBits 70 = .ok (.i2f, 1) := by decide +kernel
theorem dX7_wonBits_71 : decode cX7_wonBits 71 = .ok (.fdiv, 1) := by decide +kernel
theorem dX7_wonBits_72 : decode cX7_wonBits 72 = .ok (.invokestatic 185, 3) := by decide +kernel
theorem dX7_wonBits_75 : decode cX7_wonBits 75 = .ok (.ireturn, 1) := by decide +kernel
def wX7_wonBits_45 (post : Int32 → KS → Int64 → Prop) (bk20 : Int32 → Int32 → KS → Int64 → Prop) (l2 : Int32) (t0 : Int32) (t1 : Int32) (M : KS) (ap : Int64) : Prop := bk20 (t1 + t0) (l2 + 1) M ap
set_option maxHeartbeats 4000000 in
set_option maxRecDepth 100000 in
theorem bX7_wonBits_45 {p : Program} {l : Launch} {e : Env} {s : State} {m : MethodId} {args : Array Value} {below : List Frame} {meth : Method} {c : Code} {D : va_G} {cI : Nat → ClassId} {e0 : Nat} {A : Nat → Prop} {ad : Nat → Nat → Nat} {K : KS} {o : Int64} {od : UInt64} {mc ms : Nat} {post : Int32 → KS → Int64 → Prop} {bk20 : Int32 → Int32 → KS → Int64 → Prop} (S : CallFix p m c cX7_wonBits 3 s args WU RX7) (hg : GI D cI e0 A s s.heap) (hr : meth.sig.returnType = (some FieldType.int)) (hlk : meth.locks = false) (hout : ∀ x ∈ c.exceptionTable.toList, False) (hbk20 : ∀ {H : Heap} {locs : List Loc} {ls : Array Slot} {l1 : Int32} {l2 : Int32} {M : KS} {ap : Int64}, va_S A s.heap H locs → HT D cI e0 A ad K M ap o od H → lv_has ls 3 [(0, .ref (ad 3 0)), (1, .int l1), (2, .int l2)] → bk20 l1 l2 M ap → W p l e ({ frames := 2, cells := mc, slots := ms, locals := 60 } : Room) s m args below meth c H locs 0 0 (MQQ below (qM D cI e0 A ad K o od rI post) xN args s mc ms A) (F0 m 20 ls [])) {H : Heap} {locs : List Loc} {ls : Array Slot} {l2 : Int32} {t0 : Int32} {t1 : Int32} {M : KS} {ap : Int64} (hS : va_S A s.heap H locs) (hw : HT D cI e0 A ad K M ap o od H) (hl : lv_has ls 3 [(0, .ref (ad 3 0)), (2, .int l2)]) (h : wX7_wonBits_45 post bk20 l2 t0 t1 M ap) : W p l e ({ frames := 2, cells := mc, slots := ms, locals := 60 } : Room) s m args below meth c H locs 0 0 (MQQ below (qM D cI e0 A ad K o od rI post) xN args s mc ms A) (F0 m 45 ls [.int t0, .int t1]) := by
  unfold wX7_wonBits_45 at h
  refine lv_iadd S.1 S.2.1 dX7_wonBits_45 ?_
  refine lv_istore_n (lv' := [(1, .int (t1 + t0)), (0, .ref (ad 3 0)), (2, .int l2)]) S.1 S.2.1 dX7_wonBits_46 rfl hl (by decide) rfl (fun ls hl => ?_)
  refine lv_iinc (v := l2 + 1) (lv' := [(2, .int (l2 + 1)), (1, .int (t1 + t0)), (0, .ref (ad 3 0))]) S.1 S.2.1 dX7_wonBits_47 hl (k := 2) rfl rfl (by decide) rfl (fun ls hl => ?_)
  refine lv_goto (tgt := 20) S.1 S.2.1 dX7_wonBits_50 (by decide) ?_
  have hl := lv_sub hl (l' := [(0, .ref (ad 3 0)), (1, .int (t1 + t0)), (2, .int (l2 + 1))]) [2, 1, 0] rfl
  exact hbk20 hS hw hl h
def wX7_wonBits_20 (post : Int32 → KS → Int64 → Prop) : Nat → Int32 → Int32 → KS → Int64 → Prop
  | 0 => fun _ _ _ _ => False
  | n + 1 => fun l1 l2 M ap => (((M 3 5 0) ≤ l2 → ((((M 3 0 0) ≤ 0 → ((vf_n32 (FP.fdiv (FP.i2f l1) (FP.i2f (M 3 5 0)))) ∧ ((Op.cmpValue (FP.fcmp (FP.fdiv (FP.i2f l1) (FP.i2f (M 3 5 0))) (FP.fdiv (FP.i2f l1) (FP.i2f (M 3 5 0)))) .l = 0) ∧ (post ((FP.fdiv (FP.i2f l1) (FP.i2f (M 3 5 0))).toInt32) M ap)))) ∧ (¬ (M 3 0 0) ≤ 0 → (post 0 M ap))))) ∧ (¬ (M 3 5 0) ≤ l2 → ((vp_in l2 40) ∧ (((¬ (M 13 8 l2.toNatClampNeg) = 119 → (wX7_wonBits_45 post (wX7_wonBits_20 post n) l2 0 l1 M ap)) ∧ ((M 13 8 l2.toNatClampNeg) = 119 → (wX7_wonBits_45 post (wX7_wonBits_20 post n) l2 1 l1 M ap)))))))
set_option maxHeartbeats 4000000 in
set_option maxRecDepth 100000 in
theorem bX7_wonBits_20 {p : Program} {l : Launch} {e : Env} {s : State} {m : MethodId} {args : Array Value} {below : List Frame} {meth : Method} {c : Code} {D : va_G} {cI : Nat → ClassId} {e0 : Nat} {A : Nat → Prop} {ad : Nat → Nat → Nat} {K : KS} {o : Int64} {od : UInt64} {mc ms : Nat} {post : Int32 → KS → Int64 → Prop} (S : CallFix p m c cX7_wonBits 3 s args WU RX7) (hg : GI D cI e0 A s s.heap) (hr : meth.sig.returnType = (some FieldType.int)) (hlk : meth.locks = false) (hout : ∀ x ∈ c.exceptionTable.toList, False) : ∀ n : Nat, ∀ {H : Heap} {locs : List Loc} {ls : Array Slot} {l1 : Int32} {l2 : Int32} {M : KS} {ap : Int64}, va_S A s.heap H locs → HT D cI e0 A ad K M ap o od H → lv_has ls 3 [(0, .ref (ad 3 0)), (1, .int l1), (2, .int l2)] → wX7_wonBits_20 post n l1 l2 M ap → W p l e ({ frames := 2, cells := mc, slots := ms, locals := 60 } : Room) s m args below meth c H locs 0 0 (MQQ below (qM D cI e0 A ad K o od rI post) xN args s mc ms A) (F0 m 20 ls []) := by
  intro n
  induction n with
  | zero => intros; exact False.elim (by assumption)
  | succ n ih =>
    intro H locs ls l1 l2 M ap hS hw hl h
    unfold wX7_wonBits_20 at h
    refine lv_iload_n S.1 S.2.1 dX7_wonBits_20 rfl (lv_at hl 2 rfl) ?_
    refine lv_aload_n S.1 S.2.1 dX7_wonBits_21 rfl (lv_at hl 0 rfl) ?_
    refine g3_5 S hg hw u1049 dX7_wonBits_22 ?_
    refine lv_icmp_ge (tgt := 53) S.1 S.2.1 dX7_wonBits_25 (by decide) (fun c2 => ?_) (fun c2 => ?_)
    · have h := h.1 c2
      refine lv_aload_n S.1 S.2.1 dX7_wonBits_53 rfl (lv_at hl 0 rfl) ?_
      refine g3_0 S hg hw u1044 dX7_wonBits_54 ?_
      refine lv_if_le (tgt := 64) S.1 S.2.1 dX7_wonBits_57 (by decide) (fun c3 => ?_) (fun c3 => ?_)
      · have h := h.1 c3
        refine lv_iload_n S.1 S.2.1 dX7_wonBits_64 rfl (lv_at hl 1 rfl) ?_
        refine lv_i2f S.1 S.2.1 dX7_wonBits_65 ?_
        refine lv_aload_n S.1 S.2.1 dX7_wonBits_66 rfl (lv_at hl 0 rfl) ?_
        refine g3_5 S hg hw u1049 dX7_wonBits_67 ?_
        refine lv_i2f S.1 S.2.1 dX7_wonBits_70 ?_
        obtain ⟨g4, h⟩ := h
        refine lv_fdiv S.1 S.2.1 dX7_wonBits_71 g4 ?_
        obtain ⟨g5, h⟩ := h
        refine rF_bits S hg hS hw g5 u1355 hl.1 (Nat.le_of_ble_eq_true rfl) ⟨Nat.le_of_ble_eq_true rfl, Nat.le_of_ble_eq_true rfl⟩ ⟨by omega, by omega⟩ dX7_wonBits_72 (fun H locs hw hS => ?_)
        exact r_iret (y := yX7_wonBits) S hr rfl hlk hS (by omega) (by omega) dX7_wonBits_75 ⟨((FP.fdiv (FP.i2f l1) (FP.i2f (M 3 5 0))).toInt32), _, _, rfl, h, hw⟩
      · have h := h.2 c3
        refine lv_iconst (v := 0) S.1 S.2.1 dX7_wonBits_60 (by decide) ?_
        refine lv_goto (tgt := 75) S.1 S.2.1 dX7_wonBits_61 (by decide) ?_
        exact r_iret (y := yX7_wonBits) S hr rfl hlk hS (by omega) (by omega) dX7_wonBits_75 ⟨0, _, _, rfl, h, hw⟩
    · have h := h.2 c2
      refine lv_iload_n S.1 S.2.1 dX7_wonBits_28 rfl (lv_at hl 1 rfl) ?_
      refine lv_aload_n S.1 S.2.1 dX7_wonBits_29 rfl (lv_at hl 0 rfl) ?_
      refine g3_8 S hg hw u1052 dX7_wonBits_30 ?_
      refine lv_iload_n S.1 S.2.1 dX7_wonBits_33 rfl (lv_at hl 2 rfl) ?_
      obtain ⟨g6, h⟩ := h
      refine a13 S hg hw rfl g6 dX7_wonBits_34 ?_
      refine lv_bipush (v := 119) S.1 S.2.1 dX7_wonBits_35 (by decide) ?_
      refine lv_icmp_ne (tgt := 44) S.1 S.2.1 dX7_wonBits_37 (by decide) (fun c7 => ?_) (fun c7 => ?_)
      · have h := h.1 c7
        refine lv_iconst (v := 0) S.1 S.2.1 dX7_wonBits_44 (by decide) ?_
        have hl := lv_sub hl (l' := [(0, .ref (ad 3 0)), (2, .int l2)]) [0, 2] rfl
        exact bX7_wonBits_45 S hg hr hlk hout ih hS hw hl h
      · have h := h.2 c7
        refine lv_iconst (v := 1) S.1 S.2.1 dX7_wonBits_40 (by decide) ?_
        refine lv_goto (tgt := 45) S.1 S.2.1 dX7_wonBits_41 (by decide) ?_
        have hl := lv_sub hl (l' := [(0, .ref (ad 3 0)), (2, .int l2)]) [0, 2] rfl
        exact bX7_wonBits_45 S hg hr hlk hout ih hS hw hl h
def wX7_wonBits_13 (post : Int32 → KS → Int64 → Prop) (t0 : Int32) (M : KS) (ap : Int64) : Prop := ∃ n1 : Nat, wX7_wonBits_20 post n1 0 0 (k3 M 3 0 0 t0) ap
set_option maxHeartbeats 4000000 in
set_option maxRecDepth 100000 in
theorem bX7_wonBits_13 {p : Program} {l : Launch} {e : Env} {s : State} {m : MethodId} {args : Array Value} {below : List Frame} {meth : Method} {c : Code} {D : va_G} {cI : Nat → ClassId} {e0 : Nat} {A : Nat → Prop} {ad : Nat → Nat → Nat} {K : KS} {o : Int64} {od : UInt64} {mc ms : Nat} {post : Int32 → KS → Int64 → Prop} (S : CallFix p m c cX7_wonBits 3 s args WU RX7) (hg : GI D cI e0 A s s.heap) (hr : meth.sig.returnType = (some FieldType.int)) (hlk : meth.locks = false) (hout : ∀ x ∈ c.exceptionTable.toList, False) {H : Heap} {locs : List Loc} {ls : Array Slot} {t0 : Int32} {M : KS} {ap : Int64} (hS : va_S A s.heap H locs) (hw : HT D cI e0 A ad K M ap o od H) (hl : lv_has ls 3 [(0, .ref (ad 3 0))]) (h : wX7_wonBits_13 post t0 M ap) : W p l e ({ frames := 2, cells := mc, slots := ms, locals := 60 } : Room) s m args below meth c H locs 0 0 (MQQ below (qM D cI e0 A ad K o od rI post) xN args s mc ms A) (F0 m 13 ls [.int t0, .ref (ad 3 0)]) := by
  unfold wX7_wonBits_13 at h
  refine p3_0 S hg hS hw u1044 dX7_wonBits_13 (fun H locs hw hS => ?_)
  refine lv_iconst (v := 0) S.1 S.2.1 dX7_wonBits_16 (by decide) ?_
  refine lv_istore_n (lv' := [(1, .int 0), (0, .ref (ad 3 0))]) S.1 S.2.1 dX7_wonBits_17 rfl hl (by decide) rfl (fun ls hl => ?_)
  refine lv_iconst (v := 0) S.1 S.2.1 dX7_wonBits_18 (by decide) ?_
  refine lv_istore_n (lv' := [(2, .int 0), (1, .int 0), (0, .ref (ad 3 0))]) S.1 S.2.1 dX7_wonBits_19 rfl hl (by decide) rfl (fun ls hl => ?_)
  have hl := lv_sub hl (l' := [(0, .ref (ad 3 0)), (1, .int 0), (2, .int 0)]) [2, 1, 0] rfl
  obtain ⟨n1, h⟩ := h
  exact bX7_wonBits_20 S hg hr hlk hout n1 hS hw hl h
def wpX7_wonBits (post : Int32 → KS → Int64 → Prop) (M : KS) (ap : Int64) : Prop := ((¬ (M 3 5 0) = 0 → (wX7_wonBits_13 post 0 M ap)) ∧ ((M 3 5 0) = 0 → (wX7_wonBits_13 post 1 M ap)))
theorem hdX7_wonBits : yX7_wonBits.cls ≠ "java/lang/invoke/MethodHandle" ∧ yX7_wonBits.cls ≠ "java/lang/invoke/VarHandle" ∧ (parseMethodDescriptor yX7_wonBits.desc).map (fun d => d.parameters.length) = some 0 := by decide +kernel
set_option maxHeartbeats 4000000 in
set_option maxRecDepth 100000 in
theorem mtX7_wonBits {l : Launch} {D : va_G} {cI : Nat → ClassId} {e0 : Nat} {A : Nat → Prop} {ad : Nat → Nat → Nat} {K M : KS} {ap o : Int64} {od : UInt64} {mc ms : Nat} {post : Int32 → KS → Int64 → Prop} (h : wpX7_wonBits post M ap) : CM l D cI e0 A yX7_wonBits cX7_wonBits 3 (some FieldType.int) 2 60 mc ms [.ref (ad 3 0)] (HT D cI e0 A ad K M ap o od) (qM D cI e0 A ad K o od rI post) xN := by
  refine CM.of (by decide) (Nat.le_of_ble_eq_true rfl) (fun p e s m below meth c ls FX hw hS hl => ?_)
  obtain ⟨S, hg, hr, hlk, hnm, hout⟩ := FX
  have hl : lv_has ls 3 [(0, .ref (ad 3 0))] := hl
  unfold wpX7_wonBits at h
  refine lv_aload_n S.1 S.2.1 dX7_wonBits_0 rfl (lv_at hl 0 rfl) ?_
  refine lv_aload_n S.1 S.2.1 dX7_wonBits_1 rfl (lv_at hl 0 rfl) ?_
  refine g3_5 S hg hw u1049 dX7_wonBits_2 ?_
  refine lv_if_ne (tgt := 12) S.1 S.2.1 dX7_wonBits_5 (by decide) (fun c1 => ?_) (fun c1 => ?_)
  · have h := h.1 c1
    refine lv_iconst (v := 0) S.1 S.2.1 dX7_wonBits_12 (by decide) ?_
    have hl := lv_sub hl (l' := [(0, .ref (ad 3 0))]) [0] rfl
    exact bX7_wonBits_13 S hg hr hlk hout hS hw hl h
  · have h := h.2 c1
    refine lv_iconst (v := 1) S.1 S.2.1 dX7_wonBits_8 (by decide) ?_
    refine lv_goto (tgt := 13) S.1 S.2.1 dX7_wonBits_9 (by decide) ?_
    have hl := lv_sub hl (l' := [(0, .ref (ad 3 0))]) [0] rfl
    exact bX7_wonBits_13 S hg hr hlk hout hS hw hl h
