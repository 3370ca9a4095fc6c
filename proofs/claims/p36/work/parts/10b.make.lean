def wX6_isBusyN_51 (post : Int32 → Prop) (bk2 : Int32 → Int32 → KS → Prop) (l1 : Int32) (l3 : Int32) (K : KS) : Prop := bk2 l1 (l3 + 1) K
set_option maxHeartbeats 4000000 in
set_option maxRecDepth 100000 in
theorem bX6_isBusyN_51 {p : Program} {l : Launch} {e : Env} {s : State} {m : MethodId} {args : Array Value} {below : List Frame} {meth : Method} {c : Code} {D : va_G} {cI : Nat → ClassId} {e0 : Nat} {A : Nat → Prop} {ad : Nat → Nat → Nat} {M : KS} {ap : Int64} {o : Int64} {od : UInt64} {mc ms : Nat} {K : KS} {post : Int32 → Prop} {bk2 : Int32 → Int32 → KS → Prop} (S : CallFix p m c cX6_isBusy 5 s args WU RX6) (hg : GI D cI e0 A s s.heap) (hr : meth.sig.returnType = (some FieldType.boolean)) (hlk : meth.locks = false) (hout : ∀ x ∈ c.exceptionTable.toList, False) (hbk2 : ∀ {H : Heap} {locs : List Loc} {ls : Array Slot} {l1 : Int32} {l3 : Int32}, va_S A s.heap H locs → HT D cI e0 A ad K M ap o od H → lv_has ls 5 [(0, .ref (ad 0 0)), (1, .int l1), (2, .null), (3, .int l3)] → bk2 l1 l3 K → W p l e ({ frames := 3, cells := mc, slots := ms, locals := 81 } : Room) s m args below meth c H locs 0 0 (MQQ below (qP D cI e0 A ad K M ap o od rI post) xN args s mc ms A) (F0 m 2 ls [])) {H : Heap} {locs : List Loc} {ls : Array Slot} {l1 : Int32} {l3 : Int32} (hS : va_S A s.heap H locs) (hw : HT D cI e0 A ad K M ap o od H) (hl : lv_has ls 5 [(0, .ref (ad 0 0)), (1, .int l1), (2, .null), (3, .int l3)]) (h : wX6_isBusyN_51 post bk2 l1 l3 K) : W p l e ({ frames := 3, cells := mc, slots := ms, locals := 81 } : Room) s m args below meth c H locs 0 0 (MQQ below (qP D cI e0 A ad K M ap o od rI post) xN args s mc ms A) (F0 m 51 ls []) := by
  unfold wX6_isBusyN_51 at h
  refine lv_iinc (v := l3 + 1) (lv' := [(3, .int (l3 + 1)), (0, .ref (ad 0 0)), (1, .int l1), (2, .null)]) S.1 S.2.1 dX6_isBusy_51 hl (k := 3) rfl rfl (by decide) rfl (fun ls hl => ?_)
  refine lv_goto (tgt := 2) S.1 S.2.1 dX6_isBusy_54 (by decide) ?_
  have hl := lv_sub hl (l' := [(0, .ref (ad 0 0)), (1, .int l1), (2, .null), (3, .int (l3 + 1))]) [1, 2, 3, 0] rfl
  exact hbk2 hS hw hl h
def wX6_isBusyN_2 (post : Int32 → Prop) : Nat → Int32 → Int32 → KS → Prop
  | 0 => fun _ _ _ => False
  | n + 1 => fun l1 l3 K => (((K 8 2 1) ≤ l3 → (post 0)) ∧ (¬ (K 8 2 1) ≤ l3 → ((okGet K 1 l3) ∧ (((K 9 1 l3.toNatClampNeg).toNatClampNeg < nD K) ∧ ((wpX2_hasNotEnded (fun r5 => ((r5 = 0 → (wX6_isBusyN_51 post (wX6_isBusyN_2 post n) l1 l3 K)) ∧ (¬ r5 = 0 → ((wpX2_isOf (fun r7 => ((r7 = 0 → (wX6_isBusyN_51 post (wX6_isBusyN_2 post n) l1 l3 K)) ∧ (¬ r7 = 0 → (post 1)))) K ((K 9 1 l3.toNatClampNeg).toNatClampNeg) l1))))) K ((K 9 1 l3.toNatClampNeg).toNatClampNeg)))))))
set_option maxHeartbeats 4000000 in
set_option maxRecDepth 100000 in
theorem bX6_isBusyN_2 {p : Program} {l : Launch} {e : Env} {s : State} {m : MethodId} {args : Array Value} {below : List Frame} {meth : Method} {c : Code} {D : va_G} {cI : Nat → ClassId} {e0 : Nat} {A : Nat → Prop} {ad : Nat → Nat → Nat} {M : KS} {ap : Int64} {o : Int64} {od : UInt64} {mc ms : Nat} {K : KS} {post : Int32 → Prop} (S : CallFix p m c cX6_isBusy 5 s args WU RX6) (hg : GI D cI e0 A s s.heap) (hr : meth.sig.returnType = (some FieldType.boolean)) (hlk : meth.locks = false) (hout : ∀ x ∈ c.exceptionTable.toList, False) : ∀ n : Nat, ∀ {H : Heap} {locs : List Loc} {ls : Array Slot} {l1 : Int32} {l3 : Int32}, va_S A s.heap H locs → HT D cI e0 A ad K M ap o od H → lv_has ls 5 [(0, .ref (ad 0 0)), (1, .int l1), (2, .null), (3, .int l3)] → wX6_isBusyN_2 post n l1 l3 K → W p l e ({ frames := 3, cells := mc, slots := ms, locals := 81 } : Room) s m args below meth c H locs 0 0 (MQQ below (qP D cI e0 A ad K M ap o od rI post) xN args s mc ms A) (F0 m 2 ls []) := by
  intro n
  induction n with
  | zero => intros; exact False.elim (by assumption)
  | succ n ih =>
    intro H locs ls l1 l3 hS hw hl h
    unfold wX6_isBusyN_2 at h
    refine lv_iload_n S.1 S.2.1 dX6_isBusy_2 rfl (lv_at hl 3 rfl) ?_
    refine lv_aload_n S.1 S.2.1 dX6_isBusy_3 rfl (lv_at hl 0 rfl) ?_
    refine g0_6 S hg hw u122 dX6_isBusy_4 ?_
    refine rL_size S hg hS hw (lv8 1) u173 hl.1 (Nat.le_of_ble_eq_true rfl) ⟨Nat.le_of_ble_eq_true rfl, Nat.le_of_ble_eq_true rfl⟩ ⟨by omega, by omega⟩ dX6_isBusy_7 (fun H locs hw hS => ?_)
    refine lv_icmp_ge (tgt := 57) S.1 S.2.1 dX6_isBusy_10 (by decide) (fun c1 => ?_) (fun c1 => ?_)
    · have h := h.1 c1
      refine lv_iconst (v := 0) S.1 S.2.1 dX6_isBusy_57 (by decide) ?_
      exact r_iret (y := yX6_isBusy) S hr rfl hlk hS (by omega) (by omega) dX6_isBusy_58 ⟨0, rfl, h, hw⟩
    · have h := h.2 c1
      refine lv_aload_n S.1 S.2.1 dX6_isBusy_13 rfl (lv_at hl 0 rfl) ?_
      refine g0_6 S hg hw u122 dX6_isBusy_14 ?_
      refine lv_iload_n S.1 S.2.1 dX6_isBusy_17 rfl (lv_at hl 3 rfl) ?_
      obtain ⟨g2, h⟩ := h
      refine rL_get S hg hS hw (lv8 1) g2 u177 hl.1 (Nat.le_of_ble_eq_true rfl) ⟨Nat.le_of_ble_eq_true rfl, Nat.le_of_ble_eq_true rfl⟩ ⟨by omega, by omega⟩ dX6_isBusy_18 (fun H locs hw hS => ?_)
      show W p l e _ s m _ below meth c H locs _ _ _ (F0 m 21 ls [.ref (ad 6 ((K 9 1 l3.toNatClampNeg).toNatClampNeg))])
      obtain ⟨g3, h⟩ := h
      refine ck6 S hg hw g3 u527 dX6_isBusy_21 ?_
      refine lv_astore (lv' := [(4, .ref (ad 6 ((K 9 1 l3.toNatClampNeg).toNatClampNeg))), (0, .ref (ad 0 0)), (1, .int l1), (2, .null), (3, .int l3)]) S.1 S.2.1 dX6_isBusy_24 hl (by decide) rfl (fun ls hl => ?_)
      refine lv_aload S.1 S.2.1 dX6_isBusy_26 (lv_at hl 0 rfl) ?_
      refine lv_aload_nN S.1 S.2.1 dX6_isBusy_28 rfl (lv_at hl 3 rfl) ?_
      refine lv_acmp_eq (rx := some (ad 6 ((K 9 1 l3.toNatClampNeg).toNatClampNeg))) (ry := none) (tgt := 51) S.1 S.2.1 dX6_isBusy_29 (by decide) (fun c4 => ?_) (fun c4 => ?_)
      · cases c4
      · skip
        refine lv_aload S.1 S.2.1 dX6_isBusy_32 (lv_at hl 0 rfl) ?_
        refine r_call (rest := []) S hg hS (mtX2_hasNotEnded (mc := 0) (ms := 0) h) u528 u529 u530 u49 u531 hdX2_hasNotEnded (rv6 hg hw g3) hw ⟨Nat.le_of_ble_eq_true rfl, Nat.le_of_ble_eq_true rfl⟩ ⟨by show 0 + 0 ≤ mc; omega, by show 0 + 0 ≤ ms; omega⟩ hl.1 (Nat.le_of_ble_eq_true rfl) rfl dX6_isBusy_34 (fun E ce q H1 locs1 hx hS1 hc1 hc2 hc3 => hx.elim) (fun rv H locs hq hS => ?_)
        obtain ⟨r5, rfl, h, hw⟩ := hq
        show W p l e _ s m _ below meth c H locs _ _ _ (F0 m 37 ls [.int r5])
        show W p l e _ s m _ below meth c H locs 0 0 _ _
        refine lv_if_eq (tgt := 51) S.1 S.2.1 dX6_isBusy_37 (by decide) (fun c6 => ?_) (fun c6 => ?_)
        · have h := h.1 c6
          have hl := lv_sub hl (l' := [(0, .ref (ad 0 0)), (1, .int l1), (2, .null), (3, .int l3)]) [1, 2, 3, 4] rfl
          exact bX6_isBusyN_51 S hg hr hlk hout ih hS hw hl h
        · have h := h.2 c6
          refine lv_aload S.1 S.2.1 dX6_isBusy_40 (lv_at hl 0 rfl) ?_
          refine lv_iload_n S.1 S.2.1 dX6_isBusy_42 rfl (lv_at hl 2 rfl) ?_
          refine r_call (rest := []) S hg hS (mtX2_isOf (mc := 0) (ms := 0) h) u532 u533 u534 u49 u535 hdX2_isOf (rv6 hg hw g3) hw ⟨Nat.le_of_ble_eq_true rfl, Nat.le_of_ble_eq_true rfl⟩ ⟨by show 0 + 0 ≤ mc; omega, by show 0 + 0 ≤ ms; omega⟩ hl.1 (Nat.le_of_ble_eq_true rfl) rfl dX6_isBusy_43 (fun E ce q H1 locs1 hx hS1 hc1 hc2 hc3 => hx.elim) (fun rv H locs hq hS => ?_)
          obtain ⟨r7, rfl, h, hw⟩ := hq
          show W p l e _ s m _ below meth c H locs _ _ _ (F0 m 46 ls [.int r7])
          show W p l e _ s m _ below meth c H locs 0 0 _ _
          refine lv_if_eq (tgt := 51) S.1 S.2.1 dX6_isBusy_46 (by decide) (fun c8 => ?_) (fun c8 => ?_)
          · have h := h.1 c8
            have hl := lv_sub hl (l' := [(0, .ref (ad 0 0)), (1, .int l1), (2, .null), (3, .int l3)]) [1, 2, 3, 4] rfl
            exact bX6_isBusyN_51 S hg hr hlk hout ih hS hw hl h
          · have h := h.2 c8
            refine lv_iconst (v := 1) S.1 S.2.1 dX6_isBusy_49 (by decide) ?_
            exact r_iret (y := yX6_isBusy) S hr rfl hlk hS (by omega) (by omega) dX6_isBusy_50 ⟨1, rfl, h, hw⟩
def wpX6_isBusyN (post : Int32 → Prop) (K : KS) (p1 : Int32) : Prop := ∃ n1 : Nat, wX6_isBusyN_2 post n1 p1 0 K
set_option maxHeartbeats 4000000 in
set_option maxRecDepth 100000 in
theorem mtX6_isBusyN {l : Launch} {D : va_G} {cI : Nat → ClassId} {e0 : Nat} {A : Nat → Prop} {ad : Nat → Nat → Nat} {K M : KS} {ap o : Int64} {od : UInt64} {mc ms : Nat} {p1 : Int32} {post : Int32 → Prop} (h : wpX6_isBusyN post K p1) : CM l D cI e0 A yX6_isBusy cX6_isBusy 5 (some FieldType.boolean) 3 81 mc ms [.ref (ad 0 0), .int p1, .null] (HT D cI e0 A ad K M ap o od) (qP D cI e0 A ad K M ap o od rI post) xN := by
  refine CM.of (by decide) (Nat.le_of_ble_eq_true rfl) (fun p e s m below meth c ls FX hw hS hl => ?_)
  obtain ⟨S, hg, hr, hlk, hnm, hout⟩ := FX
  have hl : lv_has ls 5 [(0, .ref (ad 0 0)), (1, .int p1), (2, .null)] := hl
  unfold wpX6_isBusyN at h
  refine lv_iconst (v := 0) S.1 S.2.1 dX6_isBusy_0 (by decide) ?_
  refine lv_istore_n (lv' := [(3, .int 0), (0, .ref (ad 0 0)), (1, .int p1), (2, .null)]) S.1 S.2.1 dX6_isBusy_1 rfl hl (by decide) rfl (fun ls hl => ?_)
  have hl := lv_sub hl (l' := [(0, .ref (ad 0 0)), (1, .int p1), (2, .null), (3, .int 0)]) [1, 2, 3, 0] rfl
  obtain ⟨n1, h⟩ := h
  exact bX6_isBusyN_2 S hg hr hlk hout n1 hS hw hl h

-- make
theorem dX6_make_0 : decode cX6_make 0 = .ok (.aload_n 0, 1) := by decide +kernel
theorem dX6_make_1 : decode cX6_make 1 = .ok (.iload_n 1, 1) := by decide +kernel
theorem dX6_make_2 : decode cX6_make 2 = .ok (.invokevirtual 65, 3) := by decide +kernel
theorem dX6_make_5 : decode cX6_make 5 = .ok (.iload_n 2, 1) := by decide +kernel
theorem dX6_make_6 : decode cX6_make 6 = .ok (.ifCond .lt 9, 3) := by decide +kernel
theorem dX6_make_9 : decode cX6_make 9 = .ok (.iload_n 2, 1) := by decide +kernel
theorem dX6_make_10 : decode cX6_make 10 = .ok (.bipush 15, 2) := by decide +kernel
theorem dX6_make_12 : decode cX6_make 12 = .ok (.if_icmp .le 13, 3) := by decide +kernel
theorem dX6_make_15 : decode cX6_make 15 = .ok (.new 46, 3) := by decide +kernel
theorem dX6_make_18 : decode cX6_make 18 = .ok (.dup, 1) := by decide +kernel
theorem dX6_make_19 : decode cX6_make 19 = .ok (.ldc 69, 2) := by decide +kernel
theorem dX6_make_21 : decode cX6_make 21 = .ok (.invokespecial 50, 3) := by decide +kernel
theorem dX6_make_24 : decode cX6_make 24 = .ok (.athrow, 1) := by decide +kernel
theorem dX6_make_25 : decode cX6_make 25 = .ok (.aload_n 0, 1) := by decide +kernel
theorem dX6_make_26 : decode cX6_make 26 = .ok (.getfield 16, 3) := by decide +kernel
theorem dX6_make_29 : decode cX6_make 29 = .ok (.invokevirtual 71, 3) := by decide +kernel
theorem dX6_make_32 : decode cX6_make 32 = .ok (.bipush 40, 2) := by decide +kernel
theorem dX6_make_34 : decode cX6_make 34 = .ok (.if_icmp .lt 13, 3) := by decide +kernel
theorem dX6_make_37 : decode cX6_make 37 = .ok (.new 57, 3) := by decide +kernel
theorem dX6_make_40 : decode cX6_make 40 = .ok (.dup, 1) := by decide +kernel
theorem dX6_make_41 : decode cX6_make 41 = .ok (.ldc 75, 2) := by decide +kernel
theorem dX6_make_43 : decode cX6_make 43 = .ok (.invokespecial 61, 3) := by decide +kernel
theorem dX6_make_46 : decode cX6_make 46 = .ok (.athrow, 1) := by decide +kernel
theorem dX6_make_47 : decode cX6_make 47 = .ok (.aload_n 0, 1) := by decide +kernel
theorem dX6_make_48 : decode cX6_make 48 = .ok (.getfield 16, 3) := by decide +kernel
theorem dX6_make_51 : decode cX6_make 51 = .ok (.invokevirtual 71, 3) := by decide +kernel
theorem dX6_make_54 : decode cX6_make 54 = .ok (.istore_n 3, 1) := by decide +kernel
theorem dX6_make_55 : decode cX6_make 55 = .ok (.aload_n 0, 1) := by decide +kernel
theorem dX6_make_56 : decode cX6_make 56 = .ok (.getfield 16, 3) := by decide +kernel
theorem dX6_make_59 : decode cX6_make 59 = .ok (.new 77, 3) := by decide +kernel
theorem dX6_make_62 : decode cX6_make 62 = .ok (.dup, 1) := by decide +kernel
theorem dX6_make_63 : decode cX6_make 63 = .ok (.iload_n 3, 1) := by decide +kernel
theorem dX6_make_64 : decode cX6_make 64 = .ok (.iload_n 2, 1) := by decide +kernel
theorem dX6_make_65 : decode cX6_make 65 = .ok (.iload_n 1, 1) := by decide +kernel
theorem dX6_make_66 : decode cX6_make 66 = .ok (.invokespecial 79, 3) := by decide +kernel
theorem dX6_make_69 : decode cX6_make 69 = .ok (.invokevirtual 82, 3) := by decide +kernel
theorem dX6_make_72 : decode cX6_make 72 = .ok (.pop, 1) := by decide +kernel
theorem dX6_make_73 : decode cX6_make 73 = .ok (.aload_n 0, 1) := by decide +kernel
theorem dX6_make_74 : decode cX6_make 74 = .ok (.getfield 32, 3) := by decide +kernel
theorem dX6_make_77 : decode cX6_make 77 = .ok (.iload_n 3, 1) := by decide +kernel
theorem dX6_make_78 : decode cX6_make 78 = .ok (.iconst (-1), 1) := by decide +kernel
theorem dX6_make_79 : decode cX6_make 79 = .ok (.iload_n 1, 1) := by decide +kernel
theorem dX6_make_80 : decode cX6_make 80 = .ok (.invokevirtual 86, 3) := by decide +kernel
theorem dX6_make_83 : decode cX6_make 83 = .ok (.iload_n 3, 1) := by decide +kernel
theorem dX6_make_84 : decode cX6_make 84 = .ok (.ireturn, 1) := by decide +kernel
def wpX6_make (post : Int32 → KS → Prop) (px : String → KS → Prop) (mc ms : Nat) (K : KS) (p1 : Int32) (p2 : Int32) : Prop := (∃ a1 a2 : Nat, 0 + a1 ≤ mc ∧ 0 + a2 ≤ ms ∧ wpX6_needPlayer (fun _ => ((p2 < 0 → (((0 + a1) + 1 ≤ mc ∧ (0 + a2) + 6 ≤ ms ∧ px "java/lang/IllegalArgumentException" K))) ∧ (¬ p2 < 0 → (((p2 ≤ 15 → ((((K 8 2 0) < 40 → (((0 + a1) + 1 ≤ mc ∧ (0 + a2) + 6 ≤ ms ∧ ((okCard K ∧ ((nC K < nC (kCard K (K 8 2 0) p2 p1)) ∧ (∃ a14 a15 : Nat, ((0 + a1) + 1) + a14 ≤ mc ∧ ((0 + a2) + 6) + a15 ≤ ms ∧ okAdd (kCard K (K 8 2 0) p2 p1) 0 a14 a15 ∧ ((∃ a18 a19 : Nat, (((0 + a1) + 1) + a14) + a18 ≤ mc ∧ (((0 + a2) + 6) + a15) + a19 ≤ ms ∧ wpX3_enter (fun _ K20 => post (K 8 2 0) K20) a18 a19 (lAdd (kCard K (K 8 2 0) p2 p1) 0 (nC K)) (K 8 2 0) (-1) p1))))))))) ∧ (¬ (K 8 2 0) < 40 → (((0 + a1) + 1 ≤ mc ∧ (0 + a2) + 6 ≤ ms ∧ px "java/lang/IllegalStateException" K)))))) ∧ (¬ p2 ≤ 15 → (((0 + a1) + 1 ≤ mc ∧ (0 + a2) + 6 ≤ ms ∧ px "java/lang/IllegalArgumentException" K)))))))) (fun E => px E K) a1 a2 K p1)
theorem hdX6_make : yX6_make.cls ≠ "java/lang/invoke/MethodHandle" ∧ yX6_make.cls ≠ "java/lang/invoke/VarHandle" ∧ (parseMethodDescriptor yX6_make.desc).map (fun d => d.parameters.length) = some 2 := by decide +kernel
set_option maxHeartbeats 4000000 in
set_option maxRecDepth 100000 in
theorem mtX6_make {l : Launch} {D : va_G} {cI : Nat → ClassId} {e0 : Nat} {A : Nat → Prop} {ad : Nat → Nat → Nat} {K M : KS} {ap o : Int64} {od : UInt64} {mc ms : Nat} {p1 : Int32} {p2 : Int32} {post : Int32 → KS → Prop} {px : String → KS → Prop} (hfl : l.stackTraces = false) (h : wpX6_make post px mc ms K p1 p2) : CM l D cI e0 A yX6_make cX6_make 4 (some FieldType.int) 7 321 mc ms [.ref (ad 0 0), .int p1, .int p2] (HT D cI e0 A ad K M ap o od) (qA D cI e0 A ad M ap o od rI post) (xK D cI e0 A ad M ap o od px) := by
  refine CM.of (by decide) (Nat.le_of_ble_eq_true rfl) (fun p e s m below meth c ls FX hw hS hl => ?_)
  obtain ⟨S, hg, hr, hlk, hnm, hout⟩ := FX
  have hl : lv_has ls 4 [(0, .ref (ad 0 0)), (1, .int p1), (2, .int p2)] := hl
  unfold wpX6_make at h
  refine lv_aload_n S.1 S.2.1 dX6_make_0 rfl (lv_at hl 0 rfl) ?_
  refine lv_iload_n S.1 S.2.1 dX6_make_1 rfl (lv_at hl 1 rfl) ?_
  obtain ⟨a1, a2, h1, h2, h⟩ := h
  refine r_call (rest := []) S hg hS (mtX6_needPlayer (mc := a1) (ms := a2) hfl h) u357 u359 u2 u27 u360 hdX6_needPlayer (rv0 hg hw) hw ⟨Nat.le_of_ble_eq_true rfl, Nat.le_of_ble_eq_true rfl⟩ ⟨by show 0 + a1 ≤ mc; omega, by show 0 + a2 ≤ ms; omega⟩ hl.1 (Nat.le_of_ble_eq_true rfl) rfl dX6_make_2 (fun E ce q H1 locs1 hx hS1 hc1 hc2 hc3 => by obtain ⟨hx1, hw1⟩ := hx; exact r_out hout hlk hS1 (by show (0 + a1) ≤ mc; omega) (by show (0 + a2) ≤ ms; omega) hc1 hc2 hc3 ⟨_, hx1, hw1⟩) (fun rv H locs hq hS => ?_)
  obtain ⟨_, rfl, h, hw⟩ := hq
  show W p l e _ s m _ below meth c H locs _ _ _ (F0 m 5 ls [])
  refine lv_iload_n S.1 S.2.1 dX6_make_5 rfl (lv_at hl 2 rfl) ?_
  refine lv_if_lt (tgt := 15) S.1 S.2.1 dX6_make_6 (by decide) (fun c3 => ?_) (fun c3 => ?_)
  · have h := h.1 c3
    obtain ⟨g4, g5, h⟩ := h
    exact r_throw (fr := 0) (lo := 0) (text := "no such kind") hfl S hout hlk hg hS (by decide) u321 u41 (by decide +kernel) hat_50 hl.1 dX6_make_15 dX6_make_18 dX6_make_19 dX6_make_21 dX6_make_24 (Nat.le_of_ble_eq_true rfl) (Nat.le_of_ble_eq_true rfl) g4 g5 g4 g5 (fun H1 hz hk => ⟨_, h, hw.more hk⟩)
  · have h := h.2 c3
    refine lv_iload_n S.1 S.2.1 dX6_make_9 rfl (lv_at hl 2 rfl) ?_
    refine lv_bipush (v := 15) S.1 S.2.1 dX6_make_10 (by decide) ?_
    refine lv_icmp_le (tgt := 25) S.1 S.2.1 dX6_make_12 (by decide) (fun c6 => ?_) (fun c6 => ?_)
    · have h := h.1 c6
      refine lv_aload_n S.1 S.2.1 dX6_make_25 rfl (lv_at hl 0 rfl) ?_
      refine g0_5 S hg hw u121 dX6_make_26 ?_
      refine rL_size S hg hS hw (lv8 0) u173 hl.1 (Nat.le_of_ble_eq_true rfl) ⟨Nat.le_of_ble_eq_true rfl, Nat.le_of_ble_eq_true rfl⟩ ⟨by omega, by omega⟩ dX6_make_29 (fun H locs hw hS => ?_)
      refine lv_bipush (v := 40) S.1 S.2.1 dX6_make_32 (by decide) ?_
      refine lv_icmp_lt (tgt := 47) S.1 S.2.1 dX6_make_34 (by decide) (fun c7 => ?_) (fun c7 => ?_)
      · have h := h.1 c7
        refine lv_aload_n S.1 S.2.1 dX6_make_47 rfl (lv_at hl 0 rfl) ?_
        refine g0_5 S hg hw u121 dX6_make_48 ?_
        refine rL_size S hg hS hw (lv8 0) u173 hl.1 (Nat.le_of_ble_eq_true rfl) ⟨Nat.le_of_ble_eq_true rfl, Nat.le_of_ble_eq_true rfl⟩ ⟨by omega, by omega⟩ dX6_make_51 (fun H locs hw hS => ?_)
        refine lv_istore_n (lv' := [(3, .int (K 8 2 0)), (0, .ref (ad 0 0)), (1, .int p1), (2, .int p2)]) S.1 S.2.1 dX6_make_54 rfl hl (by decide) rfl (fun ls hl => ?_)
        refine lv_aload_n S.1 S.2.1 dX6_make_55 rfl (lv_at hl 1 rfl) ?_
        refine g0_5 S hg hw u121 dX6_make_56 ?_
        obtain ⟨g8, g9, h⟩ := h
        refine nw S hg hS hw 4 (nC K) (ci := 4) (fs := [.int 0, .int 0, .int 0, .int 0, .int 0, .int 0]) rfl iWX1 tyX1 tyX1_ok u191 u376 u43 (by decide +kernel) ⟨by show (0 + a1) + 1 ≤ mc; omega, by show (0 + a2) + 6 ≤ ms; omega⟩ dX6_make_59 (fun q10 H hw hS => ?_)
        refine lv_dup S.1 S.2.1 dX6_make_62 rfl ?_
        refine lv_iload_n S.1 S.2.1 dX6_make_63 rfl (lv_at hl 0 rfl) ?_
        refine lv_iload_n S.1 S.2.1 dX6_make_64 rfl (lv_at hl 3 rfl) ?_
        refine lv_iload_n S.1 S.2.1 dX6_make_65 rfl (lv_at hl 2 rfl) ?_
        obtain ⟨g11, h⟩ := h
        refine i4 (rest := [.ref q10, .ref (ad 8 0)]) S hg hS hw g11 u377 ⟨Nat.le_of_ble_eq_true rfl, Nat.le_of_ble_eq_true rfl⟩ ⟨by show ((0 + a1) + 1) + 0 ≤ mc; omega, by show ((0 + a2) + 6) + 0 ≤ ms; omega⟩ hl.1 (Nat.le_of_ble_eq_true rfl) dX6_make_66 (fun ad1 H locs f12 f2 hw1 hS => ?_)
        subst f2
        have hw := hw1
        rw [f12 8 0 (by decide) (by decide) (lv8 0)]
        rw [f12 0 0 (by decide) (by decide) rfl] at hl
        obtain ⟨g13, h⟩ := h
        obtain ⟨a14, a15, h1, h2, g16, h⟩ := h
        refine rL_add (mc := a14) (ms := a15) S hg hS hw (lv8 0) g13 g16 hl.1 (Nat.le_of_ble_eq_true rfl) ⟨Nat.le_of_ble_eq_true rfl, Nat.le_of_ble_eq_true rfl⟩ ⟨by show ((0 + a1) + 1) + a14 ≤ mc; omega, by show ((0 + a2) + 6) + a15 ≤ ms; omega⟩ u405 dX6_make_69 (fun H locs hw hS => ?_)
        refine lv_pop S.1 S.2.1 dX6_make_72 rfl ?_
        refine lv_aload_n S.1 S.2.1 dX6_make_73 rfl (lv_at hl 1 rfl) ?_
        refine g0_9 S hg hw u125 dX6_make_74 ?_
        refine lv_iload_n S.1 S.2.1 dX6_make_77 rfl (lv_at hl 0 rfl) ?_
        refine lv_iconst (v := (-1)) S.1 S.2.1 dX6_make_78 (by decide) ?_
        refine lv_iload_n S.1 S.2.1 dX6_make_79 rfl (lv_at hl 2 rfl) ?_
        obtain ⟨a18, a19, h1, h2, h⟩ := h
        refine r_call (rest := []) S hg hS (mtX3_enter (mc := a18) (ms := a19) h) u467 u468 u469 u31 u470 hdX3_enter (rv1 hg hw) hw ⟨Nat.le_of_ble_eq_true rfl, Nat.le_of_ble_eq_true rfl⟩ ⟨by show (((0 + a1) + 1) + a14) + a18 ≤ mc; omega, by show (((0 + a2) + 6) + a15) + a19 ≤ ms; omega⟩ hl.1 (Nat.le_of_ble_eq_true rfl) rfl dX6_make_80 (fun E ce q H1 locs1 hx hS1 hc1 hc2 hc3 => hx.elim) (fun rv H locs hq hS => ?_)
        obtain ⟨_, K20, rfl, h, hw⟩ := hq
        show W p l e _ s m _ below meth c H locs _ _ _ (F0 m 83 ls [])
        refine lv_iload_n S.1 S.2.1 dX6_make_83 rfl (lv_at hl 0 rfl) ?_
        exact r_iret (y := yX6_make) S hr rfl hlk hS (by omega) (by omega) dX6_make_84 ⟨(K 8 2 0), _, ad1, rfl, h, f12.law, hw⟩
      · have h := h.2 c7
        obtain ⟨g21, g22, h⟩ := h
        exact r_throw (fr := 0) (lo := 0) (text := "there are 40 cards") hfl S hout hlk hg hS (by decide) u337 u42 (by decide +kernel) hat_61 hl.1 dX6_make_37 dX6_make_40 dX6_make_41 dX6_make_43 dX6_make_46 (Nat.le_of_ble_eq_true rfl) (Nat.le_of_ble_eq_true rfl) g21 g22 g21 g22 (fun H1 hz hk => ⟨_, h, hw.more hk⟩)
    · have h := h.2 c6
      obtain ⟨g23, g24, h⟩ := h
      exact r_throw (fr := 0) (lo := 0) (text := "no such kind") hfl S hout hlk hg hS (by decide) u321 u41 (by decide +kernel) hat_50 hl.1 dX6_make_15 dX6_make_18 dX6_make_19 dX6_make_21 dX6_make_24 (Nat.le_of_ble_eq_true rfl) (Nat.le_of_ble_eq_true rfl) g23 g24 g23 g24 (fun H1 hz hk => ⟨_, h, hw.more hk⟩)

-- duel
theorem dX6_duel_0 : decode cX6_duel 0 = .ok (.aload_n 0, 1) := by decide +kernel
theorem dX6_duel_1 : decode cX6_duel 1 = .ok (.iload_n 1, 1) := by decide +kernel
theorem dX6_duel_2 : decode cX6_duel 2 = .ok (.invokevirtual 65, 3) := by decide +kernel
theorem dX6_duel_5 : decode cX6_duel 5 = .ok (.aload_n 0, 1) := by decide +kernel
theorem dX6_duel_6 : decode cX6_duel 6 = .ok (.iload_n 2, 1) := by decide +kernel
theorem dX6_duel_7 : decode cX6_duel 7 = .ok (.invokevirtual 65, 3) := by decide +kernel
theorem dX6_duel_10 : decode cX6_duel 10 = .ok (.iload_n 1, 1) := by decide +kernel
theorem dX6_duel_11 : decode cX6_duel 11 = .ok (.iload_n 2, 1) := by decide +kernel
theorem dX6_duel_12 : decode cX6_duel 12 = .ok (.if_icmp .ne 13, 3) := by decide +kernel
theorem dX6_duel_15 : decode cX6_duel 15 = .ok (.new 46, 3) := by decide +kernel
theorem dX6_duel_18 : decode cX6_duel 18 = .ok (.dup, 1) := by decide +kernel
theorem dX6_duel_19 : decode cX6_duel 19 = .ok (.ldc 130, 2) := by decide +kernel
theorem dX6_duel_21 : decode cX6_duel 21 = .ok (.invokespecial 50, 3) := by decide +kernel
theorem dX6_duel_24 : decode cX6_duel 24 = .ok (.athrow, 1) := by decide +kernel
theorem dX6_duel_25 : decode cX6_duel 25 = .ok (.aload_n 0, 1) := by decide +kernel
theorem dX6_duel_26 : decode cX6_duel 26 = .ok (.iload_n 1, 1) := by decide +kernel
theorem dX6_duel_27 : decode cX6_duel 27 = .ok (.aconst_null, 1) := by decide +kernel
theorem dX6_duel_28 : decode cX6_duel 28 = .ok (.invokevirtual 132, 3) := by decide +kernel
theorem dX6_duel_31 : decode cX6_duel 31 = .ok (.ifCond .ne 12, 3) := by decide +kernel
theorem dX6_duel_34 : decode cX6_duel 34 = .ok (.aload_n 0, 1) := by decide +kernel
theorem dX6_duel_35 : decode cX6_duel 35 = .ok (.iload_n 2, 1) := by decide +kernel
theorem dX6_duel_36 : decode cX6_duel 36 = .ok (.aconst_null, 1) := by decide +kernel
theorem dX6_duel_37 : decode cX6_duel 37 = .ok (.invokevirtual 132, 3) := by decide +kernel
theorem dX6_duel_40 : decode cX6_duel 40 = .ok (.ifCond .eq 13, 3) := by decide +kernel
theorem dX6_duel_43 : decode cX6_duel 43 = .ok (.new 57, 3) := by decide +kernel
theorem dX6_duel_46 : decode cX6_duel 46 = .ok (.dup, 1) := by decide +kernel
theorem dX6_duel_47 : decode cX6_duel 47 = .ok (.ldc 136, 2) := by decide +kernel
theorem dX6_duel_49 : decode cX6_duel 49 = .ok (.invokespecial 61, 3) := by decide +kernel
theorem dX6_duel_52 : decode cX6_duel 52 = .ok (.athrow, 1) := by decide +kernel
theorem dX6_duel_53 : decode cX6_duel 53 = .ok (.aload_n 0, 1) := by decide +kernel
theorem dX6_duel_54 : decode cX6_duel 54 = .ok (.getfield 20, 3) := by decide +kernel
theorem dX6_duel_57 : decode cX6_duel 57 = .ok (.invokevirtual 71, 3) := by decide +kernel
theorem dX6_duel_60 : decode cX6_duel 60 = .ok (.bipush 8, 2) := by decide +kernel
theorem dX6_duel_62 : decode cX6_duel 62 = .ok (.if_icmp .lt 13, 3) := by decide +kernel
theorem dX6_duel_65 : decode cX6_duel 65 = .ok (.new 57, 3) := by decide +kernel
theorem dX6_duel_68 : decode cX6_duel 68 = .ok (.dup, 1) := by decide +kernel
theorem dX6_duel_69 : decode cX6_duel 69 = .ok (.ldc 138, 2) := by decide +kernel
theorem dX6_duel_71 : decode cX6_duel 71 = .ok (.invokespecial 61, 3) := by decide +kernel
theorem dX6_duel_74 : decode cX6_duel 74 = .ok (.athrow, 1) := by decide +kernel
theorem dX6_duel_75 : decode cX6_duel 75 = .ok (.aload_n 0, 1) := by decide +kernel
theorem dX6_duel_76 : decode cX6_duel 76 = .ok (.getfield 20, 3) := by decide +kernel
theorem dX6_duel_79 : decode cX6_duel 79 = .ok (.new 140, 3) := by decide +kernel
theorem dX6_duel_82 : decode cX6_duel 82 = .ok (.dup, 1) := by decide +kernel
theorem dX6_duel_83 : decode cX6_duel 83 = .ok (.iload_n 1, 1) := by decide +kernel
theorem dX6_duel_84 : decode cX6_duel 84 = .ok (.iload_n 2, 1) := by decide +kernel
theorem dX6_duel_85 : decode cX6_duel 85 = .ok (.invokespecial 142, 3) := by decide +kernel
theorem dX6_duel_88 : decode cX6_duel 88 = .ok (.invokevirtual 82, 3) := by decide +kernel
theorem dX6_duel_91 : decode cX6_duel 91 = .ok (.pop, 1) := by decide +kernel
theorem dX6_duel_92 : decode cX6_duel 92 = .ok (.aload_n 0, 1) := by decide +kernel
theorem dX6_duel_93 : decode cX6_duel 93 = .ok (.getfield 20, 3) := by decide +kernel
theorem dX6_duel_96 : decode cX6_duel 96 = .ok (.invokevirtual 71, 3) := by decide +kernel
theorem dX6_duel_99 : decode cX6_duel 99 = .ok (.iconst 1, 1) := by decide +kernel
theorem dX6_duel_100 : decode cX6_duel 100 = .ok (.isub, 1) := by decide +kernel
theorem dX6_duel_101 : decode cX6_duel 101 = .ok (.ireturn, 1) := by decide +kernel
def wpX6_duel (post : Int32 → KS → Prop) (px : String → KS → Prop) (mc ms : Nat) (K : KS) (p1 : Int32) (p2 : Int32) : Prop := (∃ a1 a2 : Nat, 0 + a1 ≤ mc ∧ 0 + a2 ≤ ms ∧ wpX6_needPlayer (fun _ => (∃ a3 a4 : Nat, (0 + a1) + a3 ≤ mc ∧ (0 + a2) + a4 ≤ ms ∧ wpX6_needPlayer (fun _ => ((¬ p1 = p2 → ((wpX6_isBusyN (fun r6 => ((¬ r6 = 0 → ((((0 + a1) + a3) + 1 ≤ mc ∧ ((0 + a2) + a4) + 6 ≤ ms ∧ px "java/lang/IllegalStateException" K))) ∧ (r6 = 0 → ((wpX6_isBusyN (fun r10 => ((r10 = 0 → ((((K 8 2 1) < 8 → ((((0 + a1) + a3) + 1 ≤ mc ∧ ((0 + a2) + a4) + 11 ≤ ms ∧ ((okDuel K ∧ (((0 + a1) + a3) + 1) + 21 ≤ mc ∧ (((0 + a2) + a4) + 11) + 134 ≤ ms ∧ ((nD K < nD (kDuel K p1 p2)) ∧ (∃ a21 a22 : Nat, ((((0 + a1) + a3) + 1) + 21) + a21 ≤ mc ∧ ((((0 + a2) + a4) + 11) + 134) + a22 ≤ ms ∧ okAdd (kDuel K p1 p2) 1 a21 a22 ∧ (post (((lAdd (kDuel K p1 p2) 1 (nD K)) 8 2 1) - 1) (lAdd (kDuel K p1 p2) 1 (nD K)))))))))) ∧ (¬ (K 8 2 1) < 8 → ((((0 + a1) + a3) + 1 ≤ mc ∧ ((0 + a2) + a4) + 6 ≤ ms ∧ px "java/lang/IllegalStateException" K)))))) ∧ (¬ r10 = 0 → ((((0 + a1) + a3) + 1 ≤ mc ∧ ((0 + a2) + a4) + 6 ≤ ms ∧ px "java/lang/IllegalStateException" K))))) K p2))))) K p1))) ∧ (p1 = p2 → ((((0 + a1) + a3) + 1 ≤ mc ∧ ((0 + a2) + a4) + 6 ≤ ms ∧ px "java/lang/IllegalArgumentException" K))))) (fun E => px E K) a3 a4 K p2)) (fun E => px E K) a1 a2 K p1)
theorem hdX6_duel : yX6_duel.cls ≠ "java/lang/invoke/MethodHandle" ∧ yX6_duel.cls ≠ "java/lang/invoke/VarHandle" ∧ (parseMethodDescriptor yX6_duel.desc).map (fun d => d.parameters.length) = some 2 := by decide +kernel
set_option maxHeartbeats 4000000 in
set_option maxRecDepth 100000 in
theorem mtX6_duel {l : Launch} {D : va_G} {cI : Nat → ClassId} {e0 : Nat} {A : Nat → Prop} {ad : Nat → Nat → Nat} {K M : KS} {ap o : Int64} {od : UInt64} {mc ms : Nat} {p1 : Int32} {p2 : Int32} {post : Int32 → KS → Prop} {px : String → KS → Prop} (hfl : l.stackTraces = false) (h : wpX6_duel post px mc ms K p1 p2) : CM l D cI e0 A yX6_duel cX6_duel 3 (some FieldType.int) 7 321 mc ms [.ref (ad 0 0), .int p1, .int p2] (HT D cI e0 A ad K M ap o od) (qA D cI e0 A ad M ap o od rI post) (xK D cI e0 A ad M ap o od px) := by
  refine CM.of (by decide) (Nat.le_of_ble_eq_true rfl) (fun p e s m below meth c ls FX hw hS hl => ?_)
  obtain ⟨S, hg, hr, hlk, hnm, hout⟩ := FX
  have hl : lv_has ls 3 [(0, .ref (ad 0 0)), (1, .int p1), (2, .int p2)] := hl
  unfold wpX6_duel at h
  refine lv_aload_n S.1 S.2.1 dX6_duel_0 rfl (lv_at hl 0 rfl) ?_
  refine lv_iload_n S.1 S.2.1 dX6_duel_1 rfl (lv_at hl 1 rfl) ?_
  obtain ⟨a1, a2, h1, h2, h⟩ := h
  refine r_call (rest := []) S hg hS (mtX6_needPlayer (mc := a1) (ms := a2) hfl h) u357 u359 u2 u27 u360 hdX6_needPlayer (rv0 hg hw) hw ⟨Nat.le_of_ble_eq_true rfl, Nat.le_of_ble_eq_true rfl⟩ ⟨by show 0 + a1 ≤ mc; omega, by show 0 + a2 ≤ ms; omega⟩ hl.1 (Nat.le_of_ble_eq_true rfl) rfl dX6_duel_2 (fun E ce q H1 locs1 hx hS1 hc1 hc2 hc3 => by obtain ⟨hx1, hw1⟩ := hx; exact r_out hout hlk hS1 (by show (0 + a1) ≤ mc; omega) (by show (0 + a2) ≤ ms; omega) hc1 hc2 hc3 ⟨_, hx1, hw1⟩) (fun rv H locs hq hS => ?_)
  obtain ⟨_, rfl, h, hw⟩ := hq
  show W p l e _ s m _ below meth c H locs _ _ _ (F0 m 5 ls [])
  refine lv_aload_n S.1 S.2.1 dX6_duel_5 rfl (lv_at hl 0 rfl) ?_
  refine lv_iload_n S.1 S.2.1 dX6_duel_6 rfl (lv_at hl 2 rfl) ?_
  obtain ⟨a3, a4, h1, h2, h⟩ := h
  refine r_call (rest := []) S hg hS (mtX6_needPlayer (mc := a3) (ms := a4) hfl h) u357 u359 u2 u27 u360 hdX6_needPlayer (rv0 hg hw) hw ⟨Nat.le_of_ble_eq_true rfl, Nat.le_of_ble_eq_true rfl⟩ ⟨by show (0 + a1) + a3 ≤ mc; omega, by show (0 + a2) + a4 ≤ ms; omega⟩ hl.1 (Nat.le_of_ble_eq_true rfl) rfl dX6_duel_7 (fun E ce q H1 locs1 hx hS1 hc1 hc2 hc3 => by obtain ⟨hx1, hw1⟩ := hx; exact r_out hout hlk hS1 (by show ((0 + a1) + a3) ≤ mc; omega) (by show ((0 + a2) + a4) ≤ ms; omega) hc1 hc2 hc3 ⟨_, hx1, hw1⟩) (fun rv H locs hq hS => ?_)
  obtain ⟨_, rfl, h, hw⟩ := hq
  show W p l e _ s m _ below meth c H locs _ _ _ (F0 m 10 ls [])
  refine lv_iload_n S.1 S.2.1 dX6_duel_10 rfl (lv_at hl 1 rfl) ?_
  refine lv_iload_n S.1 S.2.1 dX6_duel_11 rfl (lv_at hl 2 rfl) ?_
  refine lv_icmp_ne (tgt := 25) S.1 S.2.1 dX6_duel_12 (by decide) (fun c5 => ?_) (fun c5 => ?_)
  · have h := h.1 c5
    refine lv_aload_n S.1 S.2.1 dX6_duel_25 rfl (lv_at hl 0 rfl) ?_
    refine lv_iload_n S.1 S.2.1 dX6_duel_26 rfl (lv_at hl 1 rfl) ?_
    refine lv_null S.1 S.2.1 dX6_duel_27 ?_
    refine r_call (rest := []) S hg hS (mtX6_isBusyN (mc := 0) (ms := 0) h) u523 u525 u7 u27 u526 hdX6_isBusy (rv0 hg hw) hw ⟨Nat.le_of_ble_eq_true rfl, Nat.le_of_ble_eq_true rfl⟩ ⟨by show ((0 + a1) + a3) + 0 ≤ mc; omega, by show ((0 + a2) + a4) + 0 ≤ ms; omega⟩ hl.1 (Nat.le_of_ble_eq_true rfl) rfl dX6_duel_28 (fun E ce q H1 locs1 hx hS1 hc1 hc2 hc3 => hx.elim) (fun rv H locs hq hS => ?_)
    obtain ⟨r6, rfl, h, hw⟩ := hq
    show W p l e _ s m _ below meth c H locs _ _ _ (F0 m 31 ls [.int r6])
    show W p l e _ s m _ below meth c H locs ((0 + a1) + a3) ((0 + a2) + a4) _ _
    refine lv_if_ne (tgt := 43) S.1 S.2.1 dX6_duel_31 (by decide) (fun c7 => ?_) (fun c7 => ?_)
    · have h := h.1 c7
      obtain ⟨g8, g9, h⟩ := h
      exact r_throw (fr := 0) (lo := 0) (text := "a player is in a duel that has not ended") hfl S hout hlk hg hS (by decide) u337 u42 (by decide +kernel) hat_61 hl.1 dX6_duel_43 dX6_duel_46 dX6_duel_47 dX6_duel_49 dX6_duel_52 (Nat.le_of_ble_eq_true rfl) (Nat.le_of_ble_eq_true rfl) g8 g9 g8 g9 (fun H1 hz hk => ⟨_, h, hw.more hk⟩)
    · have h := h.2 c7
      refine lv_aload_n S.1 S.2.1 dX6_duel_34 rfl (lv_at hl 0 rfl) ?_
      refine lv_iload_n S.1 S.2.1 dX6_duel_35 rfl (lv_at hl 2 rfl) ?_
      refine lv_null S.1 S.2.1 dX6_duel_36 ?_
      refine r_call (rest := []) S hg hS (mtX6_isBusyN (mc := 0) (ms := 0) h) u523 u525 u7 u27 u526 hdX6_isBusy (rv0 hg hw) hw ⟨Nat.le_of_ble_eq_true rfl, Nat.le_of_ble_eq_true rfl⟩ ⟨by show ((0 + a1) + a3) + 0 ≤ mc; omega, by show ((0 + a2) + a4) + 0 ≤ ms; omega⟩ hl.1 (Nat.le_of_ble_eq_true rfl) rfl dX6_duel_37 (fun E ce q H1 locs1 hx hS1 hc1 hc2 hc3 => hx.elim) (fun rv H locs hq hS => ?_)
      obtain ⟨r10, rfl, h, hw⟩ := hq
      show W p l e _ s m _ below meth c H locs _ _ _ (F0 m 40 ls [.int r10])
      show W p l e _ s m _ below meth c H locs ((0 + a1) + a3) ((0 + a2) + a4) _ _
      refine lv_if_eq (tgt := 53) S.1 S.2.1 dX6_duel_40 (by decide) (fun c11 => ?_) (fun c11 => ?_)
      · have h := h.1 c11
        refine lv_aload_n S.1 S.2.1 dX6_duel_53 rfl (lv_at hl 0 rfl) ?_
        refine g0_6 S hg hw u122 dX6_duel_54 ?_
        refine rL_size S hg hS hw (lv8 1) u173 hl.1 (Nat.le_of_ble_eq_true rfl) ⟨Nat.le_of_ble_eq_true rfl, Nat.le_of_ble_eq_true rfl⟩ ⟨by omega, by omega⟩ dX6_duel_57 (fun H locs hw hS => ?_)
        refine lv_bipush (v := 8) S.1 S.2.1 dX6_duel_60 (by decide) ?_
        refine lv_icmp_lt (tgt := 75) S.1 S.2.1 dX6_duel_62 (by decide) (fun c12 => ?_) (fun c12 => ?_)
        · have h := h.1 c12
          refine lv_aload_n S.1 S.2.1 dX6_duel_75 rfl (lv_at hl 0 rfl) ?_
          refine g0_6 S hg hw u122 dX6_duel_76 ?_
          obtain ⟨g13, g14, h⟩ := h
          refine nw S hg hS hw 6 (nD K) (ci := 5) (fs := [.null, .null, .int 0, .int 0, .int 0, .int 0, .null, .int 0, .int 0, .null, .null]) rfl iWX2 tyX2 tyX2_ok u527 u538 u49 (by decide +kernel) ⟨by show ((0 + a1) + a3) + 1 ≤ mc; omega, by show ((0 + a2) + a4) + 11 ≤ ms; omega⟩ dX6_duel_79 (fun q15 H hw hS => ?_)
          refine lv_dup S.1 S.2.1 dX6_duel_82 rfl ?_
          refine lv_iload_n S.1 S.2.1 dX6_duel_83 rfl (lv_at hl 1 rfl) ?_
          refine lv_iload_n S.1 S.2.1 dX6_duel_84 rfl (lv_at hl 2 rfl) ?_
          obtain ⟨g16, h⟩ := h
          obtain ⟨g17, g18, h⟩ := h
          refine i6 (rest := [.ref q15, .ref (ad 8 1)]) S hg hS hw g16 u539 ⟨Nat.le_of_ble_eq_true rfl, Nat.le_of_ble_eq_true rfl⟩ ⟨by show (((0 + a1) + a3) + 1) + 21 ≤ mc; omega, by show (((0 + a2) + a4) + 11) + 134 ≤ ms; omega⟩ hl.1 (Nat.le_of_ble_eq_true rfl) dX6_duel_85 (fun ad1 H locs f19 f2 hw1 hS => ?_)
          subst f2
          have hw := hw1
          rw [f19 8 1 (by decide) (by decide) (lv8 1)]
          rw [f19 0 0 (by decide) (by decide) rfl] at hl
          obtain ⟨g20, h⟩ := h
          obtain ⟨a21, a22, h1, h2, g23, h⟩ := h
          refine rL_add (mc := a21) (ms := a22) S hg hS hw (lv8 1) g20 g23 hl.1 (Nat.le_of_ble_eq_true rfl) ⟨Nat.le_of_ble_eq_true rfl, Nat.le_of_ble_eq_true rfl⟩ ⟨by show ((((0 + a1) + a3) + 1) + 21) + a21 ≤ mc; omega, by show ((((0 + a2) + a4) + 11) + 134) + a22 ≤ ms; omega⟩ u405 dX6_duel_88 (fun H locs hw hS => ?_)
          refine lv_pop S.1 S.2.1 dX6_duel_91 rfl ?_
          refine lv_aload_n S.1 S.2.1 dX6_duel_92 rfl (lv_at hl 0 rfl) ?_
          refine g0_6 S hg hw u122 dX6_duel_93 ?_
          refine rL_size S hg hS hw (lv8 1) u173 hl.1 (Nat.le_of_ble_eq_true rfl) ⟨Nat.le_of_ble_eq_true rfl, Nat.le_of_ble_eq_true rfl⟩ ⟨by omega, by omega⟩ dX6_duel_96 (fun H locs hw hS => ?_)
          refine lv_iconst (v := 1) S.1 S.2.1 dX6_duel_99 (by decide) ?_
          refine lv_isub S.1 S.2.1 dX6_duel_100 ?_
          exact r_iret (y := yX6_duel) S hr rfl hlk hS (by omega) (by omega) dX6_duel_101 ⟨(((lAdd (kDuel K p1 p2) 1 (nD K)) 8 2 1) - 1), _, ad1, rfl, h, f19.law, hw⟩
        · have h := h.2 c12
          obtain ⟨g25, g26, h⟩ := h
          exact r_throw (fr := 0) (lo := 0) (text := "there are 8 duels") hfl S hout hlk hg hS (by decide) u337 u42 (by decide +kernel) hat_61 hl.1 dX6_duel_65 dX6_duel_68 dX6_duel_69 dX6_duel_71 dX6_duel_74 (Nat.le_of_ble_eq_true rfl) (Nat.le_of_ble_eq_true rfl) g25 g26 g25 g26 (fun H1 hz hk => ⟨_, h, hw.more hk⟩)
      · have h := h.2 c11
        obtain ⟨g27, g28, h⟩ := h
        exact r_throw (fr := 0) (lo := 0) (text := "a player is in a duel that has not ended") hfl S hout hlk hg hS (by decide) u337 u42 (by decide +kernel) hat_61 hl.1 dX6_duel_43 dX6_duel_46 dX6_duel_47 dX6_duel_49 dX6_duel_52 (Nat.le_of_ble_eq_true rfl) (Nat.le_of_ble_eq_true rfl) g27 g28 g27 g28 (fun H1 hz hk => ⟨_, h, hw.more hk⟩)
  · have h := h.2 c5
    obtain ⟨g29, g30, h⟩ := h
    exact r_throw (fr := 0) (lo := 0) (text := "a duel has two players") hfl S hout hlk hg hS (by decide) u321 u41 (by decide +kernel) hat_50 hl.1 dX6_duel_15 dX6_duel_18 dX6_duel_19 dX6_duel_21 dX6_duel_24 (Nat.le_of_ble_eq_true rfl) (Nat.le_of_ble_eq_true rfl) g29 g30 g29 g30 (fun H1 hz hk => ⟨_, h, hw.more hk⟩)

-- offer
theorem dX6_offer_0 : decode cX6_offer 0 = .ok (.aload_n 0, 1) := by decide +kernel
theorem dX6_offer_1 : decode cX6_offer 1 = .ok (.iload_n 1, 1) := by decide +kernel
theorem dX6_offer_2 : decode cX6_offer 2 = .ok (.invokevirtual 89, 3) := by decide +kernel
theorem dX6_offer_5 : decode cX6_offer 5 = .ok (.astore_n 3, 1) := by decide +kernel
theorem dX6_offer_6 : decode cX6_offer 6 = .ok (.iload_n 2, 1) := by decide +kernel
theorem dX6_offer_7 : decode cX6_offer 7 = .ok (.iconst 1, 1) := by decide +kernel
theorem dX6_offer_8 : decode cX6_offer 8 = .ok (.if_icmp .lt 10, 3) := by decide +kernel
theorem dX6_offer_11 : decode cX6_offer 11 = .ok (.iload_n 2, 1) := by decide +kernel
theorem dX6_offer_12 : decode cX6_offer 12 = .ok (.sipush 999, 3) := by decide +kernel
theorem dX6_offer_15 : decode cX6_offer 15 = .ok (.if_icmp .le 14, 3) := by decide +kernel
theorem dX6_offer_18 : decode cX6_offer 18 = .ok (.new 46, 3) := by decide +kernel
theorem dX6_offer_21 : decode cX6_offer 21 = .ok (.dup, 1) := by decide +kernel
theorem dX6_offer_22 : decode cX6_offer 22 = .ok (.ldc_w 303, 3) := by decide +kernel
theorem dX6_offer_25 : decode cX6_offer 25 = .ok (.invokespecial 50, 3) := by decide +kernel
theorem dX6_offer_28 : decode cX6_offer 28 = .ok (.athrow, 1) := by decide +kernel
theorem dX6_offer_29 : decode cX6_offer 29 = .ok (.aload_n 3, 1) := by decide +kernel
theorem dX6_offer_30 : decode cX6_offer 30 = .ok (.getfield 103, 3) := by decide +kernel
theorem dX6_offer_33 : decode cX6_offer 33 = .ok (.bipush 115, 2) := by decide +kernel
theorem dX6_offer_35 : decode cX6_offer 35 = .ok (.if_icmp .eq 22, 3) := by decide +kernel
theorem dX6_offer_38 : decode cX6_offer 38 = .ok (.aload_n 3, 1) := by decide +kernel
theorem dX6_offer_39 : decode cX6_offer 39 = .ok (.getfield 163, 3) := by decide +kernel
theorem dX6_offer_42 : decode cX6_offer 42 = .ok (.ifCond .ne 15, 3) := by decide +kernel
theorem dX6_offer_45 : decode cX6_offer 45 = .ok (.aload_n 0, 1) := by decide +kernel
theorem dX6_offer_46 : decode cX6_offer 46 = .ok (.getfield 23, 3) := by decide +kernel
theorem dX6_offer_49 : decode cX6_offer 49 = .ok (.invokevirtual 71, 3) := by decide +kernel
theorem dX6_offer_52 : decode cX6_offer 52 = .ok (.bipush 60, 2) := by decide +kernel
theorem dX6_offer_54 : decode cX6_offer 54 = .ok (.if_icmp .lt 14, 3) := by decide +kernel
theorem dX6_offer_57 : decode cX6_offer 57 = .ok (.new 57, 3) := by decide +kernel
theorem dX6_offer_60 : decode cX6_offer 60 = .ok (.dup, 1) := by decide +kernel
theorem dX6_offer_61 : decode cX6_offer 61 = .ok (.ldc_w 305, 3) := by decide +kernel
theorem dX6_offer_64 : decode cX6_offer 64 = .ok (.invokespecial 61, 3) := by decide +kernel
theorem dX6_offer_67 : decode cX6_offer 67 = .ok (.athrow, 1) := by decide +kernel
theorem dX6_offer_68 : decode cX6_offer 68 = .ok (.aload_n 0, 1) := by decide +kernel
theorem dX6_offer_69 : decode cX6_offer 69 = .ok (.getfield 23, 3) := by decide +kernel
theorem dX6_offer_72 : decode cX6_offer 72 = .ok (.new 307, 3) := by decide +kernel
theorem dX6_offer_75 : decode cX6_offer 75 = .ok (.dup, 1) := by decide +kernel
theorem dX6_offer_76 : decode cX6_offer 76 = .ok (.aload_n 3, 1) := by decide +kernel
theorem dX6_offer_77 : decode cX6_offer 77 = .ok (.iload_n 2, 1) := by decide +kernel
theorem dX6_offer_78 : decode cX6_offer 78 = .ok (.invokespecial 309, 3) := by decide +kernel
theorem dX6_offer_81 : decode cX6_offer 81 = .ok (.invokevirtual 82, 3) := by decide +kernel
theorem dX6_offer_84 : decode cX6_offer 84 = .ok (.pop, 1) := by decide +kernel
theorem dX6_offer_85 : decode cX6_offer 85 = .ok (.aload_n 3, 1) := by decide +kernel
theorem dX6_offer_86 : decode cX6_offer 86 = .ok (.iconst 1, 1) := by decide +kernel
theorem dX6_offer_87 : decode cX6_offer 87 = .ok (.putfield 163, 3) := by decide +kernel
theorem dX6_offer_90 : decode cX6_offer 90 = .ok (.aload_n 0, 1) := by decide +kernel
theorem dX6_offer_91 : decode cX6_offer 91 = .ok (.getfield 23, 3) := by decide +kernel
theorem dX6_offer_94 : decode cX6_offer 94 = .ok (.invokevirtual 71, 3) := by decide +kernel
theorem dX6_offer_97 : decode cX6_offer 97 = .ok (.iconst 1, 1) := by decide +kernel
theorem dX6_offer_98 : decode cX6_offer 98 = .ok (.isub, 1) := by decide +kernel
theorem dX6_offer_99 : decode cX6_offer 99 = .ok (.ireturn, 1) := by decide +kernel
def wpX6_offer (post : Int32 → KS → Prop) (px : String → KS → Prop) (mc ms : Nat) (K : KS) (p1 : Int32) (p2 : Int32) : Prop := (∃ a1 a2 : Nat, 0 + a1 ≤ mc ∧ 0 + a2 ≤ ms ∧ wpX6_cardAt (fun r3 => ((p2 < 1 → (((0 + a1) + 1 ≤ mc ∧ (0 + a2) + 6 ≤ ms ∧ px "java/lang/IllegalArgumentException" K))) ∧ (¬ p2 < 1 → (((p2 ≤ 999 → ((r3 < nC K) ∧ ((((K 4 3 r3) = 115 → (((0 + a1) + 1 ≤ mc ∧ (0 + a2) + 6 ≤ ms ∧ px "java/lang/IllegalStateException" K))) ∧ (¬ (K 4 3 r3) = 115 → (((¬ (K 4 4 r3) = 0 → (((0 + a1) + 1 ≤ mc ∧ (0 + a2) + 6 ≤ ms ∧ px "java/lang/IllegalStateException" K))) ∧ ((K 4 4 r3) = 0 → ((((K 8 2 2) < 60 → (((0 + a1) + 1 ≤ mc ∧ (0 + a2) + 6 ≤ ms ∧ ((okOffer K r3 ∧ ((nO K < nO (kOffer K r3 p2)) ∧ (∃ a22 a23 : Nat, ((0 + a1) + 1) + a22 ≤ mc ∧ ((0 + a2) + 6) + a23 ≤ ms ∧ okAdd (kOffer K r3 p2) 2 a22 a23 ∧ ((r3 < nC (lAdd (kOffer K r3 p2) 2 (nO K))) ∧ (post (((k3 (lAdd (kOffer K r3 p2) 2 (nO K)) 4 4 r3 1) 8 2 2) - 1) (k3 (lAdd (kOffer K r3 p2) 2 (nO K)) 4 4 r3 1)))))))))) ∧ (¬ (K 8 2 2) < 60 → (((0 + a1) + 1 ≤ mc ∧ (0 + a2) + 6 ≤ ms ∧ px "java/lang/IllegalStateException" K))))))))))))) ∧ (¬ p2 ≤ 999 → (((0 + a1) + 1 ≤ mc ∧ (0 + a2) + 6 ≤ ms ∧ px "java/lang/IllegalArgumentException" K)))))))) (fun E => px E K) a1 a2 K p1)
theorem hdX6_offer : yX6_offer.cls ≠ "java/lang/invoke/MethodHandle" ∧ yX6_offer.cls ≠ "java/lang/invoke/VarHandle" ∧ (parseMethodDescriptor yX6_offer.desc).map (fun d => d.parameters.length) = some 2 := by decide +kernel
set_option maxHeartbeats 4000000 in
set_option maxRecDepth 100000 in
theorem mtX6_offer {l : Launch} {D : va_G} {cI : Nat → ClassId} {e0 : Nat} {A : Nat → Prop} {ad : Nat → Nat → Nat} {K M : KS} {ap o : Int64} {od : UInt64} {mc ms : Nat} {p1 : Int32} {p2 : Int32} {post : Int32 → KS → Prop} {px : String → KS → Prop} (hfl : l.stackTraces = false) (h : wpX6_offer post px mc ms K p1 p2) : CM l D cI e0 A yX6_offer cX6_offer 4 (some FieldType.int) 7 321 mc ms [.ref (ad 0 0), .int p1, .int p2] (HT D cI e0 A ad K M ap o od) (qA D cI e0 A ad M ap o od rI post) (xK D cI e0 A ad M ap o od px) := by
  refine CM.of (by decide) (Nat.le_of_ble_eq_true rfl) (fun p e s m below meth c ls FX hw hS hl => ?_)
  obtain ⟨S, hg, hr, hlk, hnm, hout⟩ := FX
  have hl : lv_has ls 4 [(0, .ref (ad 0 0)), (1, .int p1), (2, .int p2)] := hl
  unfold wpX6_offer at h
  refine lv_aload_n S.1 S.2.1 dX6_offer_0 rfl (lv_at hl 0 rfl) ?_
  refine lv_iload_n S.1 S.2.1 dX6_offer_1 rfl (lv_at hl 1 rfl) ?_
  obtain ⟨a1, a2, h1, h2, h⟩ := h
  refine r_call (rest := []) S hg hS (mtX6_cardAt (mc := a1) (ms := a2) hfl h) u485 u487 u6 u27 u488 hdX6_cardAt (rv0 hg hw) hw ⟨Nat.le_of_ble_eq_true rfl, Nat.le_of_ble_eq_true rfl⟩ ⟨by show 0 + a1 ≤ mc; omega, by show 0 + a2 ≤ ms; omega⟩ hl.1 (Nat.le_of_ble_eq_true rfl) rfl dX6_offer_2 (fun E ce q H1 locs1 hx hS1 hc1 hc2 hc3 => by obtain ⟨hx1, hw1⟩ := hx; exact r_out hout hlk hS1 (by show (0 + a1) ≤ mc; omega) (by show (0 + a2) ≤ ms; omega) hc1 hc2 hc3 ⟨_, hx1, hw1⟩) (fun rv H locs hq hS => ?_)
  obtain ⟨r3, rfl, h, hw⟩ := hq
  show W p l e _ s m _ below meth c H locs _ _ _ (F0 m 5 ls [.ref (ad 4 r3)])
  refine lv_astore_n (lv' := [(3, .ref (ad 4 r3)), (0, .ref (ad 0 0)), (1, .int p1), (2, .int p2)]) S.1 S.2.1 dX6_offer_5 rfl hl (by decide) rfl (fun ls hl => ?_)
  refine lv_iload_n S.1 S.2.1 dX6_offer_6 rfl (lv_at hl 3 rfl) ?_
  refine lv_iconst (v := 1) S.1 S.2.1 dX6_offer_7 (by decide) ?_
  refine lv_icmp_lt (tgt := 18) S.1 S.2.1 dX6_offer_8 (by decide) (fun c4 => ?_) (fun c4 => ?_)
  · have h := h.1 c4
    obtain ⟨g5, g6, h⟩ := h
    exact r_throwW (fr := 0) (lo := 0) (text := "price out of range") hfl S hout hlk hg hS (by decide) u321 u41 (by decide +kernel) hat_50 hl.1 dX6_offer_18 dX6_offer_21 dX6_offer_22 dX6_offer_25 dX6_offer_28 (Nat.le_of_ble_eq_true rfl) (Nat.le_of_ble_eq_true rfl) g5 g6 g5 g6 (fun H1 hz hk => ⟨_, h, hw.more hk⟩)
  · have h := h.2 c4
    refine lv_iload_n S.1 S.2.1 dX6_offer_11 rfl (lv_at hl 3 rfl) ?_
    refine lv_sipush (v := 999) S.1 S.2.1 dX6_offer_12 (by decide) ?_
    refine lv_icmp_le (tgt := 29) S.1 S.2.1 dX6_offer_15 (by decide) (fun c7 => ?_) (fun c7 => ?_)
    · have h := h.1 c7
      refine lv_aload_n S.1 S.2.1 dX6_offer_29 rfl (lv_at hl 0 rfl) ?_
      obtain ⟨g8, h⟩ := h
      refine g4_3 S hg hw g8 u388 dX6_offer_30 ?_
      refine lv_bipush (v := 115) S.1 S.2.1 dX6_offer_33 (by decide) ?_
      refine lv_icmp_eq (tgt := 57) S.1 S.2.1 dX6_offer_35 (by decide) (fun c9 => ?_) (fun c9 => ?_)
      · have h := h.1 c9
        obtain ⟨g10, g11, h⟩ := h
        exact r_throwW (fr := 0) (lo := 0) (text := "the card is staked or offered, or there are 60 offers") hfl S hout hlk hg hS (by decide) u337 u42 (by decide +kernel) hat_61 hl.1 dX6_offer_57 dX6_offer_60 dX6_offer_61 dX6_offer_64 dX6_offer_67 (Nat.le_of_ble_eq_true rfl) (Nat.le_of_ble_eq_true rfl) g10 g11 g10 g11 (fun H1 hz hk => ⟨_, h, hw.more hk⟩)
      · have h := h.2 c9
        refine lv_aload_n S.1 S.2.1 dX6_offer_38 rfl (lv_at hl 0 rfl) ?_
        refine g4_4 S hg hw g8 u389 dX6_offer_39 ?_
        refine lv_if_ne (tgt := 57) S.1 S.2.1 dX6_offer_42 (by decide) (fun c12 => ?_) (fun c12 => ?_)
        · have h := h.1 c12
          obtain ⟨g13, g14, h⟩ := h
          exact r_throwW (fr := 0) (lo := 0) (text := "the card is staked or offered, or there are 60 offers") hfl S hout hlk hg hS (by decide) u337 u42 (by decide +kernel) hat_61 hl.1 dX6_offer_57 dX6_offer_60 dX6_offer_61 dX6_offer_64 dX6_offer_67 (Nat.le_of_ble_eq_true rfl) (Nat.le_of_ble_eq_true rfl) g13 g14 g13 g14 (fun H1 hz hk => ⟨_, h, hw.more hk⟩)
        · have h := h.2 c12
          refine lv_aload_n S.1 S.2.1 dX6_offer_45 rfl (lv_at hl 1 rfl) ?_
          refine g0_7 S hg hw u123 dX6_offer_46 ?_
          refine rL_size S hg hS hw (lv8 2) u173 hl.1 (Nat.le_of_ble_eq_true rfl) ⟨Nat.le_of_ble_eq_true rfl, Nat.le_of_ble_eq_true rfl⟩ ⟨by omega, by omega⟩ dX6_offer_49 (fun H locs hw hS => ?_)
          refine lv_bipush (v := 60) S.1 S.2.1 dX6_offer_52 (by decide) ?_
          refine lv_icmp_lt (tgt := 68) S.1 S.2.1 dX6_offer_54 (by decide) (fun c15 => ?_) (fun c15 => ?_)
          · have h := h.1 c15
            refine lv_aload_n S.1 S.2.1 dX6_offer_68 rfl (lv_at hl 1 rfl) ?_
            refine g0_7 S hg hw u123 dX6_offer_69 ?_
            obtain ⟨g16, g17, h⟩ := h
            refine nw S hg hS hw 5 (nO K) (ci := 7) (fs := [.null, .int 0, .int 0, .int 0, .int 0, .int 0]) rfl iWX4 tyX4 tyX4_ok u789 u871 u53 (by decide +kernel) ⟨by show (0 + a1) + 1 ≤ mc; omega, by show (0 + a2) + 6 ≤ ms; omega⟩ dX6_offer_72 (fun q18 H hw hS => ?_)
            refine lv_dup S.1 S.2.1 dX6_offer_75 rfl ?_
            refine lv_aload_n S.1 S.2.1 dX6_offer_76 rfl (lv_at hl 0 rfl) ?_
            refine lv_iload_n S.1 S.2.1 dX6_offer_77 rfl (lv_at hl 3 rfl) ?_
            obtain ⟨g19, h⟩ := h
            refine i5 (rest := [.ref q18, .ref (ad 8 2)]) S hg hS hw g8 g19 u872 ⟨Nat.le_of_ble_eq_true rfl, Nat.le_of_ble_eq_true rfl⟩ ⟨by show ((0 + a1) + 1) + 0 ≤ mc; omega, by show ((0 + a2) + 6) + 0 ≤ ms; omega⟩ hl.1 (Nat.le_of_ble_eq_true rfl) dX6_offer_78 (fun ad1 H locs f20 f2 hw1 hS => ?_)
            subst f2
            have hw := hw1
            rw [f20 8 2 (by decide) (by decide) (lv8 2)]
            rw [f20 4 r3 (by decide) (by decide) g8] at hl
            rw [f20 0 0 (by decide) (by decide) rfl] at hl
            obtain ⟨g21, h⟩ := h
            obtain ⟨a22, a23, h1, h2, g24, h⟩ := h
            refine rL_add (mc := a22) (ms := a23) S hg hS hw (lv8 2) g21 g24 hl.1 (Nat.le_of_ble_eq_true rfl) ⟨Nat.le_of_ble_eq_true rfl, Nat.le_of_ble_eq_true rfl⟩ ⟨by show ((0 + a1) + 1) + a22 ≤ mc; omega, by show ((0 + a2) + 6) + a23 ≤ ms; omega⟩ u405 dX6_offer_81 (fun H locs hw hS => ?_)
            refine lv_pop S.1 S.2.1 dX6_offer_84 rfl ?_
            refine lv_aload_n S.1 S.2.1 dX6_offer_85 rfl (lv_at hl 0 rfl) ?_
            refine lv_iconst (v := 1) S.1 S.2.1 dX6_offer_86 (by decide) ?_
            obtain ⟨g26, h⟩ := h
            refine p4_4 S hg hS hw g26 rfl rfl u389 dX6_offer_87 (fun H locs hw hS => ?_)
            refine lv_aload_n S.1 S.2.1 dX6_offer_90 rfl (lv_at hl 1 rfl) ?_
            refine g0_7 S hg hw u123 dX6_offer_91 ?_
            refine rL_size S hg hS hw (lv8 2) u173 hl.1 (Nat.le_of_ble_eq_true rfl) ⟨Nat.le_of_ble_eq_true rfl, Nat.le_of_ble_eq_true rfl⟩ ⟨by omega, by omega⟩ dX6_offer_94 (fun H locs hw hS => ?_)
            refine lv_iconst (v := 1) S.1 S.2.1 dX6_offer_97 (by decide) ?_
            refine lv_isub S.1 S.2.1 dX6_offer_98 ?_
            exact r_iret (y := yX6_offer) S hr rfl hlk hS (by omega) (by omega) dX6_offer_99 ⟨(((k3 (lAdd (kOffer K r3 p2) 2 (nO K)) 4 4 r3 1) 8 2 2) - 1), _, ad1, rfl, h, f20.law, hw⟩
          · have h := h.2 c15
            obtain ⟨g27, g28, h⟩ := h
            exact r_throwW (fr := 0) (lo := 0) (text := "the card is staked or offered, or there are 60 offers") hfl S hout hlk hg hS (by decide) u337 u42 (by decide +kernel) hat_61 hl.1 dX6_offer_57 dX6_offer_60 dX6_offer_61 dX6_offer_64 dX6_offer_67 (Nat.le_of_ble_eq_true rfl) (Nat.le_of_ble_eq_true rfl) g27 g28 g27 g28 (fun H1 hz hk => ⟨_, h, hw.more hk⟩)
    · have h := h.2 c7
      obtain ⟨g29, g30, h⟩ := h
      exact r_throwW (fr := 0) (lo := 0) (text := "price out of range") hfl S hout hlk hg hS (by decide) u321 u41 (by decide +kernel) hat_50 hl.1 dX6_offer_18 dX6_offer_21 dX6_offer_22 dX6_offer_25 dX6_offer_28 (Nat.le_of_ble_eq_true rfl) (Nat.le_of_ble_eq_true rfl) g29 g30 g29 g30 (fun H1 hz hk => ⟨_, h, hw.more hk⟩)
