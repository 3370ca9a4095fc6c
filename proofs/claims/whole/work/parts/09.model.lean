-- X7.thrown
theorem dX7_thrown_0 : decode cX7_thrown 0 = .ok (.aload_n 0, 1) := by decide +kernel
theorem dX7_thrown_1 : decode cX7_thrown 1 = .ok (.getfield 98, 3) := by decide +kernel
theorem dX7_thrown_4 : decode cX7_thrown 4 = .ok (.ireturn, 1) := by decide +kernel
def wpX7_thrown (post : Int32 → Prop) (M : KS) (ap : Int64) : Prop := post (M 3 0 0)
theorem hdX7_thrown : yX7_thrown.cls ≠ "java/lang/invoke/MethodHandle" ∧ yX7_thrown.cls ≠ "java/lang/invoke/VarHandle" ∧ (parseMethodDescriptor yX7_thrown.desc).map (fun d => d.parameters.length) = some 0 := by decide +kernel
set_option maxHeartbeats 4000000 in
set_option maxRecDepth 100000 in
theorem mtX7_thrown {l : Launch} {D : va_G} {cI : Nat → ClassId} {e0 : Nat} {A : Nat → Prop} {ad : Nat → Nat → Nat} {K M : KS} {ap o : Int64} {od : UInt64} {mc ms : Nat} {post : Int32 → Prop} (h : wpX7_thrown post M ap) : CM l D cI e0 A yX7_thrown cX7_thrown 1 (some FieldType.int) 0 0 mc ms [.ref (ad 3 0)] (HT D cI e0 A ad K M ap o od) (qP D cI e0 A ad K M ap o od rI post) xN := by
  refine CM.of (by decide) (Nat.le_of_ble_eq_true rfl) (fun p e s m below meth c ls FX hw hS hl => ?_)
  obtain ⟨S, hg, hr, hlk, hnm, hout⟩ := FX
  have hl : lv_has ls 1 [(0, .ref (ad 3 0))] := hl
  unfold wpX7_thrown at h
  refine lv_aload_n S.1 S.2.1 dX7_thrown_0 rfl (lv_at hl 0 rfl) ?_
  refine g3_0 S hg hw u1044 dX7_thrown_1 ?_
  exact r_iret (y := yX7_thrown) S hr rfl hlk hS (by omega) (by omega) dX7_thrown_4 ⟨(M 3 0 0), rfl, h, hw⟩

-- X7.in
theorem dX7_in_0 : decode cX7_in 0 = .ok (.iload_n 0, 1) := by decide +kernel
theorem dX7_in_1 : decode cX7_in 1 = .ok (.iload_n 1, 1) := by decide +kernel
theorem dX7_in_2 : decode cX7_in 2 = .ok (.if_icmp .lt 12, 3) := by decide +kernel
theorem dX7_in_5 : decode cX7_in 5 = .ok (.iload_n 0, 1) := by decide +kernel
theorem dX7_in_6 : decode cX7_in 6 = .ok (.iload_n 2, 1) := by decide +kernel
theorem dX7_in_7 : decode cX7_in 7 = .ok (.if_icmp .gt 7, 3) := by decide +kernel
theorem dX7_in_10 : decode cX7_in 10 = .ok (.iconst 1, 1) := by decide +kernel
theorem dX7_in_11 : decode cX7_in 11 = .ok (.goto 4, 3) := by decide +kernel
theorem dX7_in_14 : decode cX7_in 14 = .ok (.iconst 0, 1) := by decide +kernel
theorem dX7_in_15 : decode cX7_in 15 = .ok (.ireturn, 1) := by decide +kernel
def wpX7_in (post : Int32 → Prop) (M : KS) (ap : Int64) (p1 : Int32) (p2 : Int32) (p3 : Int32) : Prop := ((p1 < p2 → (post 0)) ∧ (¬ p1 < p2 → (((p3 < p1 → (post 0)) ∧ (¬ p3 < p1 → (post 1))))))
theorem hdX7_in : yX7_in.cls ≠ "java/lang/invoke/MethodHandle" ∧ yX7_in.cls ≠ "java/lang/invoke/VarHandle" ∧ (parseMethodDescriptor yX7_in.desc).map (fun d => d.parameters.length) = some 3 := by decide +kernel
set_option maxHeartbeats 4000000 in
set_option maxRecDepth 100000 in
theorem mtX7_in {l : Launch} {D : va_G} {cI : Nat → ClassId} {e0 : Nat} {A : Nat → Prop} {ad : Nat → Nat → Nat} {K M : KS} {ap o : Int64} {od : UInt64} {mc ms : Nat} {p1 : Int32} {p2 : Int32} {p3 : Int32} {post : Int32 → Prop} (h : wpX7_in post M ap p1 p2 p3) : CM l D cI e0 A yX7_in cX7_in 3 (some FieldType.boolean) 0 0 mc ms [.int p1, .int p2, .int p3] (HT D cI e0 A ad K M ap o od) (qP D cI e0 A ad K M ap o od rI post) xN := by
  refine CM.of (by decide) (Nat.le_of_ble_eq_true rfl) (fun p e s m below meth c ls FX hw hS hl => ?_)
  obtain ⟨S, hg, hr, hlk, hnm, hout⟩ := FX
  have hl : lv_has ls 3 [(0, .int p1), (1, .int p2), (2, .int p3)] := hl
  unfold wpX7_in at h
  refine lv_iload_n S.1 S.2.1 dX7_in_0 rfl (lv_at hl 0 rfl) ?_
  refine lv_iload_n S.1 S.2.1 dX7_in_1 rfl (lv_at hl 1 rfl) ?_
  refine lv_icmp_lt (tgt := 14) S.1 S.2.1 dX7_in_2 (by decide) (fun c1 => ?_) (fun c1 => ?_)
  · have h := h.1 c1
    refine lv_iconst (v := 0) S.1 S.2.1 dX7_in_14 (by decide) ?_
    exact r_iret (y := yX7_in) S hr rfl hlk hS (by omega) (by omega) dX7_in_15 ⟨0, rfl, h, hw⟩
  · have h := h.2 c1
    refine lv_iload_n S.1 S.2.1 dX7_in_5 rfl (lv_at hl 0 rfl) ?_
    refine lv_iload_n S.1 S.2.1 dX7_in_6 rfl (lv_at hl 2 rfl) ?_
    refine lv_icmp_gt (tgt := 14) S.1 S.2.1 dX7_in_7 (by decide) (fun c2 => ?_) (fun c2 => ?_)
    · have h := h.1 c2
      refine lv_iconst (v := 0) S.1 S.2.1 dX7_in_14 (by decide) ?_
      exact r_iret (y := yX7_in) S hr rfl hlk hS (by omega) (by omega) dX7_in_15 ⟨0, rfl, h, hw⟩
    · have h := h.2 c2
      refine lv_iconst (v := 1) S.1 S.2.1 dX7_in_10 (by decide) ?_
      refine lv_goto (tgt := 15) S.1 S.2.1 dX7_in_11 (by decide) ?_
      exact r_iret (y := yX7_in) S hr rfl hlk hS (by omega) (by omega) dX7_in_15 ⟨1, rfl, h, hw⟩

-- X7.fails
theorem dX7_fails_0 : decode cX7_fails 0 = .ok (.aload_n 0, 1) := by decide +kernel
theorem dX7_fails_1 : decode cX7_fails 1 = .ok (.iload_n 1, 1) := by decide +kernel
theorem dX7_fails_2 : decode cX7_fails 2 = .ok (.putfield 98, 3) := by decide +kernel
theorem dX7_fails_5 : decode cX7_fails 5 = .ok (.iconst 0, 1) := by decide +kernel
theorem dX7_fails_6 : decode cX7_fails 6 = .ok (.ireturn, 1) := by decide +kernel
def wpX7_fails (post : Int32 → KS → Int64 → Prop) (M : KS) (ap : Int64) (p1 : Int32) : Prop := post 0 (k3 M 3 0 0 p1) ap
theorem hdX7_fails : yX7_fails.cls ≠ "java/lang/invoke/MethodHandle" ∧ yX7_fails.cls ≠ "java/lang/invoke/VarHandle" ∧ (parseMethodDescriptor yX7_fails.desc).map (fun d => d.parameters.length) = some 1 := by decide +kernel
set_option maxHeartbeats 4000000 in
set_option maxRecDepth 100000 in
theorem mtX7_fails {l : Launch} {D : va_G} {cI : Nat → ClassId} {e0 : Nat} {A : Nat → Prop} {ad : Nat → Nat → Nat} {K M : KS} {ap o : Int64} {od : UInt64} {mc ms : Nat} {p1 : Int32} {post : Int32 → KS → Int64 → Prop} (h : wpX7_fails post M ap p1) : CM l D cI e0 A yX7_fails cX7_fails 2 (some FieldType.int) 0 0 mc ms [.ref (ad 3 0), .int p1] (HT D cI e0 A ad K M ap o od) (qM D cI e0 A ad K o od rI post) xN := by
  refine CM.of (by decide) (Nat.le_of_ble_eq_true rfl) (fun p e s m below meth c ls FX hw hS hl => ?_)
  obtain ⟨S, hg, hr, hlk, hnm, hout⟩ := FX
  have hl : lv_has ls 2 [(0, .ref (ad 3 0)), (1, .int p1)] := hl
  unfold wpX7_fails at h
  refine lv_aload_n S.1 S.2.1 dX7_fails_0 rfl (lv_at hl 0 rfl) ?_
  refine lv_iload_n S.1 S.2.1 dX7_fails_1 rfl (lv_at hl 1 rfl) ?_
  refine p3_0 S hg hS hw u1044 dX7_fails_2 (fun H locs hw hS => ?_)
  refine lv_iconst (v := 0) S.1 S.2.1 dX7_fails_5 (by decide) ?_
  exact r_iret (y := yX7_fails) S hr rfl hlk hS (by omega) (by omega) dX7_fails_6 ⟨0, _, _, rfl, h, hw⟩

-- X7.failsChar
theorem dX7_failsChar_0 : decode cX7_failsChar 0 = .ok (.aload_n 0, 1) := by decide +kernel
theorem dX7_failsChar_1 : decode cX7_failsChar 1 = .ok (.iload_n 1, 1) := by decide +kernel
theorem dX7_failsChar_2 : decode cX7_failsChar 2 = .ok (.putfield 98, 3) := by decide +kernel
theorem dX7_failsChar_5 : decode cX7_failsChar 5 = .ok (.iconst 0, 1) := by decide +kernel
theorem dX7_failsChar_6 : decode cX7_failsChar 6 = .ok (.ireturn, 1) := by decide +kernel
def wpX7_failsChar (post : Int32 → KS → Int64 → Prop) (M : KS) (ap : Int64) (p1 : Int32) : Prop := post 0 (k3 M 3 0 0 p1) ap
theorem hdX7_failsChar : yX7_failsChar.cls ≠ "java/lang/invoke/MethodHandle" ∧ yX7_failsChar.cls ≠ "java/lang/invoke/VarHandle" ∧ (parseMethodDescriptor yX7_failsChar.desc).map (fun d => d.parameters.length) = some 1 := by decide +kernel
set_option maxHeartbeats 4000000 in
set_option maxRecDepth 100000 in
theorem mtX7_failsChar {l : Launch} {D : va_G} {cI : Nat → ClassId} {e0 : Nat} {A : Nat → Prop} {ad : Nat → Nat → Nat} {K M : KS} {ap o : Int64} {od : UInt64} {mc ms : Nat} {p1 : Int32} {post : Int32 → KS → Int64 → Prop} (h : wpX7_failsChar post M ap p1) : CM l D cI e0 A yX7_failsChar cX7_failsChar 2 (some FieldType.char) 0 0 mc ms [.ref (ad 3 0), .int p1] (HT D cI e0 A ad K M ap o od) (qM D cI e0 A ad K o od rI post) xN := by
  refine CM.of (by decide) (Nat.le_of_ble_eq_true rfl) (fun p e s m below meth c ls FX hw hS hl => ?_)
  obtain ⟨S, hg, hr, hlk, hnm, hout⟩ := FX
  have hl : lv_has ls 2 [(0, .ref (ad 3 0)), (1, .int p1)] := hl
  unfold wpX7_failsChar at h
  refine lv_aload_n S.1 S.2.1 dX7_failsChar_0 rfl (lv_at hl 0 rfl) ?_
  refine lv_iload_n S.1 S.2.1 dX7_failsChar_1 rfl (lv_at hl 1 rfl) ?_
  refine p3_0 S hg hS hw u1044 dX7_failsChar_2 (fun H locs hw hS => ?_)
  refine lv_iconst (v := 0) S.1 S.2.1 dX7_failsChar_5 (by decide) ?_
  exact r_iret (y := yX7_failsChar) S hr rfl hlk hS (by omega) (by omega) dX7_failsChar_6 ⟨0, _, _, rfl, h, hw⟩

-- X7.player
theorem dX7_player_0 : decode cX7_player 0 = .ok (.aload_n 0, 1) := by decide +kernel
theorem dX7_player_1 : decode cX7_player 1 = .ok (.iconst 0, 1) := by decide +kernel
theorem dX7_player_2 : decode cX7_player 2 = .ok (.putfield 98, 3) := by decide +kernel
theorem dX7_player_5 : decode cX7_player 5 = .ok (.iload_n 1, 1) := by decide +kernel
theorem dX7_player_6 : decode cX7_player 6 = .ok (.iconst 0, 1) := by decide +kernel
theorem dX7_player_7 : decode cX7_player 7 = .ok (.sipush 999, 3) := by decide +kernel
theorem dX7_player_10 : decode cX7_player 10 = .ok (.invokestatic 102, 3) := by decide +kernel
theorem dX7_player_13 : decode cX7_player 13 = .ok (.ifCond .ne 9, 3) := by decide +kernel
theorem dX7_player_16 : decode cX7_player 16 = .ok (.aload_n 0, 1) := by decide +kernel
theorem dX7_player_17 : decode cX7_player 17 = .ok (.iconst 1, 1) := by decide +kernel
theorem dX7_player_18 : decode cX7_player 18 = .ok (.invokevirtual 106, 3) := by decide +kernel
theorem dX7_player_21 : decode cX7_player 21 = .ok (.ireturn, 1) := by decide +kernel
theorem dX7_player_22 : decode cX7_player 22 = .ok (.aload_n 0, 1) := by decide +kernel
theorem dX7_player_23 : decode cX7_player 23 = .ok (.getfield 110, 3) := by decide +kernel
theorem dX7_player_26 : decode cX7_player 26 = .ok (.bipush 6, 2) := by decide +kernel
theorem dX7_player_28 : decode cX7_player 28 = .ok (.if_icmp .ne 9, 3) := by decide +kernel
theorem dX7_player_31 : decode cX7_player 31 = .ok (.aload_n 0, 1) := by decide +kernel
theorem dX7_player_32 : decode cX7_player 32 = .ok (.iconst 2, 1) := by decide +kernel
theorem dX7_player_33 : decode cX7_player 33 = .ok (.invokevirtual 106, 3) := by decide +kernel
theorem dX7_player_36 : decode cX7_player 36 = .ok (.ireturn, 1) := by decide +kernel
theorem dX7_player_37 : decode cX7_player 37 = .ok (.aload_n 0, 1) := by decide +kernel
theorem dX7_player_38 : decode cX7_player 38 = .ok (.getfield 7, 3) := by decide +kernel
theorem dX7_player_41 : decode cX7_player 41 = .ok (.aload_n 0, 1) := by decide +kernel
theorem dX7_player_42 : decode cX7_player 42 = .ok (.getfield 110, 3) := by decide +kernel
theorem dX7_player_45 : decode cX7_player 45 = .ok (.iload_n 1, 1) := by decide +kernel
theorem dX7_player_46 : decode cX7_player 46 = .ok (.iastore, 1) := by decide +kernel
theorem dX7_player_47 : decode cX7_player 47 = .ok (.aload_n 0, 1) := by decide +kernel
theorem dX7_player_48 : decode cX7_player 48 = .ok (.dup, 1) := by decide +kernel
theorem dX7_player_49 : decode cX7_player 49 = .ok (.getfield 110, 3) := by decide +kernel
theorem dX7_player_52 : decode cX7_player 52 = .ok (.iconst 1, 1) := by decide +kernel
theorem dX7_player_53 : decode cX7_player 53 = .ok (.iadd, 1) := by decide +kernel
theorem dX7_player_54 : decode cX7_player 54 = .ok (.putfield 110, 3) := by decide +kernel
theorem dX7_player_57 : decode cX7_player 57 = .ok (.aload_n 0, 1) := by decide +kernel
theorem dX7_player_58 : decode cX7_player 58 = .ok (.getfield 110, 3) := by decide +kernel
theorem dX7_player_61 : decode cX7_player 61 = .ok (.iconst 1, 1) := by decide +kernel
theorem dX7_player_62 : decode cX7_player 62 = .ok (.isub, 1) := by decide +kernel
theorem dX7_player_63 : decode cX7_player 63 = .ok (.ireturn, 1) := by decide +kernel
def wpX7_player (post : Int32 → KS → Int64 → Prop) (M : KS) (ap : Int64) (p1 : Int32) : Prop := (wpX7_in (fun r1 => ((¬ r1 = 0 → (((¬ ((k3 M 3 0 0 0) 3 1 0) = 6 → ((vp_in ((k3 M 3 0 0 0) 3 1 0) 6) ∧ (post (((k3 (k3 (k3 M 3 0 0 0) 16 2 (((k3 M 3 0 0 0) 3 1 0).toNatClampNeg) p1) 3 1 0 (((k3 (k3 M 3 0 0 0) 16 2 (((k3 M 3 0 0 0) 3 1 0).toNatClampNeg) p1) 3 1 0) + 1)) 3 1 0) - 1) (k3 (k3 (k3 M 3 0 0 0) 16 2 (((k3 M 3 0 0 0) 3 1 0).toNatClampNeg) p1) 3 1 0 (((k3 (k3 M 3 0 0 0) 16 2 (((k3 M 3 0 0 0) 3 1 0).toNatClampNeg) p1) 3 1 0) + 1)) ap))) ∧ (((k3 M 3 0 0 0) 3 1 0) = 6 → ((wpX7_fails (fun r5 M6 ap7 => post r5 M6 ap7) (k3 M 3 0 0 0) ap 2)))))) ∧ (r1 = 0 → ((wpX7_fails (fun r8 M9 ap10 => post r8 M9 ap10) (k3 M 3 0 0 0) ap 1))))) (k3 M 3 0 0 0) ap p1 0 999)
theorem hdX7_player : yX7_player.cls ≠ "java/lang/invoke/MethodHandle" ∧ yX7_player.cls ≠ "java/lang/invoke/VarHandle" ∧ (parseMethodDescriptor yX7_player.desc).map (fun d => d.parameters.length) = some 1 := by decide +kernel
set_option maxHeartbeats 4000000 in
set_option maxRecDepth 100000 in
theorem mtX7_player {l : Launch} {D : va_G} {cI : Nat → ClassId} {e0 : Nat} {A : Nat → Prop} {ad : Nat → Nat → Nat} {K M : KS} {ap o : Int64} {od : UInt64} {mc ms : Nat} {p1 : Int32} {post : Int32 → KS → Int64 → Prop} (h : wpX7_player post M ap p1) : CM l D cI e0 A yX7_player cX7_player 2 (some FieldType.int) 1 22 mc ms [.ref (ad 3 0), .int p1] (HT D cI e0 A ad K M ap o od) (qM D cI e0 A ad K o od rI post) xN := by
  refine CM.of (by decide) (Nat.le_of_ble_eq_true rfl) (fun p e s m below meth c ls FX hw hS hl => ?_)
  obtain ⟨S, hg, hr, hlk, hnm, hout⟩ := FX
  have hl : lv_has ls 2 [(0, .ref (ad 3 0)), (1, .int p1)] := hl
  unfold wpX7_player at h
  refine lv_aload_n S.1 S.2.1 dX7_player_0 rfl (lv_at hl 0 rfl) ?_
  refine lv_iconst (v := 0) S.1 S.2.1 dX7_player_1 (by decide) ?_
  refine p3_0 S hg hS hw u1044 dX7_player_2 (fun H locs hw hS => ?_)
  refine lv_iload_n S.1 S.2.1 dX7_player_5 rfl (lv_at hl 1 rfl) ?_
  refine lv_iconst (v := 0) S.1 S.2.1 dX7_player_6 (by decide) ?_
  refine lv_sipush (v := 999) S.1 S.2.1 dX7_player_7 (by decide) ?_
  refine r_callS (rest := []) S hg hS (mtX7_in (mc := 0) (ms := 0) h) u1168 u1169 u49 u1170 hdX7_in hw ⟨Nat.le_of_ble_eq_true rfl, Nat.le_of_ble_eq_true rfl⟩ ⟨by show 0 + 0 ≤ mc; omega, by show 0 + 0 ≤ ms; omega⟩ hl.1 (Nat.le_of_ble_eq_true rfl) rfl dX7_player_10 (fun E ce q H1 locs1 hx hS1 hc1 hc2 hc3 => hx.elim) (fun rv H locs hq hS => ?_)
  obtain ⟨r1, rfl, h, hw⟩ := hq
  show W p l e _ s m _ below meth c H locs _ _ _ (F0 m 13 ls [.int r1])
  show W p l e _ s m _ below meth c H locs 0 0 _ _
  refine lv_if_ne (tgt := 22) S.1 S.2.1 dX7_player_13 (by decide) (fun c2 => ?_) (fun c2 => ?_)
  · have h := h.1 c2
    refine lv_aload_n S.1 S.2.1 dX7_player_22 rfl (lv_at hl 0 rfl) ?_
    refine g3_1 S hg hw u1045 dX7_player_23 ?_
    refine lv_bipush (v := 6) S.1 S.2.1 dX7_player_26 (by decide) ?_
    refine lv_icmp_ne (tgt := 37) S.1 S.2.1 dX7_player_28 (by decide) (fun c3 => ?_) (fun c3 => ?_)
    · have h := h.1 c3
      refine lv_aload_n S.1 S.2.1 dX7_player_37 rfl (lv_at hl 0 rfl) ?_
      refine g3_2 S hg hw u1046 dX7_player_38 ?_
      refine lv_aload_n S.1 S.2.1 dX7_player_41 rfl (lv_at hl 0 rfl) ?_
      refine g3_1 S hg hw u1045 dX7_player_42 ?_
      refine lv_iload_n S.1 S.2.1 dX7_player_45 rfl (lv_at hl 1 rfl) ?_
      obtain ⟨g4, h⟩ := h
      refine s16 S hg hS hw rfl g4 dX7_player_46 (fun H locs hw hS => ?_)
      refine lv_aload_n S.1 S.2.1 dX7_player_47 rfl (lv_at hl 0 rfl) ?_
      refine lv_dup S.1 S.2.1 dX7_player_48 rfl ?_
      refine g3_1 S hg hw u1045 dX7_player_49 ?_
      refine lv_iconst (v := 1) S.1 S.2.1 dX7_player_52 (by decide) ?_
      refine lv_iadd S.1 S.2.1 dX7_player_53 ?_
      refine p3_1 S hg hS hw u1045 dX7_player_54 (fun H locs hw hS => ?_)
      refine lv_aload_n S.1 S.2.1 dX7_player_57 rfl (lv_at hl 0 rfl) ?_
      refine g3_1 S hg hw u1045 dX7_player_58 ?_
      refine lv_iconst (v := 1) S.1 S.2.1 dX7_player_61 (by decide) ?_
      refine lv_isub S.1 S.2.1 dX7_player_62 ?_
      exact r_iret (y := yX7_player) S hr rfl hlk hS (by omega) (by omega) dX7_player_63 ⟨(((k3 (k3 (k3 M 3 0 0 0) 16 2 (((k3 M 3 0 0 0) 3 1 0).toNatClampNeg) p1) 3 1 0 (((k3 (k3 M 3 0 0 0) 16 2 (((k3 M 3 0 0 0) 3 1 0).toNatClampNeg) p1) 3 1 0) + 1)) 3 1 0) - 1), _, _, rfl, h, hw⟩
    · have h := h.2 c3
      refine lv_aload_n S.1 S.2.1 dX7_player_31 rfl (lv_at hl 0 rfl) ?_
      refine lv_iconst (v := 2) S.1 S.2.1 dX7_player_32 (by decide) ?_
      refine r_call (rest := []) S hg hS (mtX7_fails (mc := 0) (ms := 0) h) u1171 u1173 u26 u49 u1174 hdX7_fails (rv3 hg hw) hw ⟨Nat.le_of_ble_eq_true rfl, Nat.le_of_ble_eq_true rfl⟩ ⟨by show 0 + 0 ≤ mc; omega, by show 0 + 0 ≤ ms; omega⟩ hl.1 (Nat.le_of_ble_eq_true rfl) rfl dX7_player_33 (fun E ce q H1 locs1 hx hS1 hc1 hc2 hc3 => hx.elim) (fun rv H locs hq hS => ?_)
      obtain ⟨r5, M6, ap7, rfl, h, hw⟩ := hq
      show W p l e _ s m _ below meth c H locs _ _ _ (F0 m 36 ls [.int r5])
      show W p l e _ s m _ below meth c H locs 0 0 _ _
      exact r_iret (y := yX7_player) S hr rfl hlk hS (by omega) (by omega) dX7_player_36 ⟨r5, _, _, rfl, h, hw⟩
  · have h := h.2 c2
    refine lv_aload_n S.1 S.2.1 dX7_player_16 rfl (lv_at hl 0 rfl) ?_
    refine lv_iconst (v := 1) S.1 S.2.1 dX7_player_17 (by decide) ?_
    refine r_call (rest := []) S hg hS (mtX7_fails (mc := 0) (ms := 0) h) u1171 u1173 u26 u49 u1174 hdX7_fails (rv3 hg hw) hw ⟨Nat.le_of_ble_eq_true rfl, Nat.le_of_ble_eq_true rfl⟩ ⟨by show 0 + 0 ≤ mc; omega, by show 0 + 0 ≤ ms; omega⟩ hl.1 (Nat.le_of_ble_eq_true rfl) rfl dX7_player_18 (fun E ce q H1 locs1 hx hS1 hc1 hc2 hc3 => hx.elim) (fun rv H locs hq hS => ?_)
    obtain ⟨r8, M9, ap10, rfl, h, hw⟩ := hq
    show W p l e _ s m _ below meth c H locs _ _ _ (F0 m 21 ls [.int r8])
    show W p l e _ s m _ below meth c H locs 0 0 _ _
    exact r_iret (y := yX7_player) S hr rfl hlk hS (by omega) (by omega) dX7_player_21 ⟨r8, _, _, rfl, h, hw⟩

-- X7.isPlayer
theorem dX7_isPlayer_0 : decode cX7_isPlayer 0 = .ok (.iload_n 1, 1) := by decide +kernel
theorem dX7_isPlayer_1 : decode cX7_isPlayer 1 = .ok (.iconst 0, 1) := by decide +kernel
theorem dX7_isPlayer_2 : decode cX7_isPlayer 2 = .ok (.aload_n 0, 1) := by decide +kernel
theorem dX7_isPlayer_3 : decode cX7_isPlayer 3 = .ok (.getfield 110, 3) := by decide +kernel
theorem dX7_isPlayer_6 : decode cX7_isPlayer 6 = .ok (.iconst 1, 1) := by decide +kernel
theorem dX7_isPlayer_7 : decode cX7_isPlayer 7 = .ok (.isub, 1) := by decide +kernel
theorem dX7_isPlayer_8 : decode cX7_isPlayer 8 = .ok (.invokestatic 102, 3) := by decide +kernel
theorem dX7_isPlayer_11 : decode cX7_isPlayer 11 = .ok (.ireturn, 1) := by decide +kernel
def wpX7_isPlayer (post : Int32 → Prop) (M : KS) (ap : Int64) (p1 : Int32) : Prop := (wpX7_in (fun r1 => (narrow .boolean (.int r1) = .int r1) ∧ post r1) M ap p1 0 ((M 3 1 0) - 1))
theorem hdX7_isPlayer : yX7_isPlayer.cls ≠ "java/lang/invoke/MethodHandle" ∧ yX7_isPlayer.cls ≠ "java/lang/invoke/VarHandle" ∧ (parseMethodDescriptor yX7_isPlayer.desc).map (fun d => d.parameters.length) = some 1 := by decide +kernel
set_option maxHeartbeats 4000000 in
set_option maxRecDepth 100000 in
theorem mtX7_isPlayer {l : Launch} {D : va_G} {cI : Nat → ClassId} {e0 : Nat} {A : Nat → Prop} {ad : Nat → Nat → Nat} {K M : KS} {ap o : Int64} {od : UInt64} {mc ms : Nat} {p1 : Int32} {post : Int32 → Prop} (h : wpX7_isPlayer post M ap p1) : CM l D cI e0 A yX7_isPlayer cX7_isPlayer 2 (some FieldType.boolean) 1 22 mc ms [.ref (ad 3 0), .int p1] (HT D cI e0 A ad K M ap o od) (qP D cI e0 A ad K M ap o od rI post) xN := by
  refine CM.of (by decide) (Nat.le_of_ble_eq_true rfl) (fun p e s m below meth c ls FX hw hS hl => ?_)
  obtain ⟨S, hg, hr, hlk, hnm, hout⟩ := FX
  have hl : lv_has ls 2 [(0, .ref (ad 3 0)), (1, .int p1)] := hl
  unfold wpX7_isPlayer at h
  refine lv_iload_n S.1 S.2.1 dX7_isPlayer_0 rfl (lv_at hl 1 rfl) ?_
  refine lv_iconst (v := 0) S.1 S.2.1 dX7_isPlayer_1 (by decide) ?_
  refine lv_aload_n S.1 S.2.1 dX7_isPlayer_2 rfl (lv_at hl 0 rfl) ?_
  refine g3_1 S hg hw u1045 dX7_isPlayer_3 ?_
  refine lv_iconst (v := 1) S.1 S.2.1 dX7_isPlayer_6 (by decide) ?_
  refine lv_isub S.1 S.2.1 dX7_isPlayer_7 ?_
  refine r_callS (rest := []) S hg hS (mtX7_in (mc := 0) (ms := 0) h) u1168 u1169 u49 u1170 hdX7_in hw ⟨Nat.le_of_ble_eq_true rfl, Nat.le_of_ble_eq_true rfl⟩ ⟨by show 0 + 0 ≤ mc; omega, by show 0 + 0 ≤ ms; omega⟩ hl.1 (Nat.le_of_ble_eq_true rfl) rfl dX7_isPlayer_8 (fun E ce q H1 locs1 hx hS1 hc1 hc2 hc3 => hx.elim) (fun rv H locs hq hS => ?_)
  obtain ⟨r1, rfl, h, hw⟩ := hq
  show W p l e _ s m _ below meth c H locs _ _ _ (F0 m 11 ls [.int r1])
  show W p l e _ s m _ below meth c H locs 0 0 _ _
  obtain ⟨g2, h⟩ := h
  exact r_iret (y := yX7_isPlayer) S hr g2 hlk hS (by omega) (by omega) dX7_isPlayer_11 ⟨r1, rfl, h, hw⟩

-- X7.posts
theorem dX7_posts_0 : decode cX7_posts 0 = .ok (.aload_n 0, 1) := by decide +kernel
theorem dX7_posts_1 : decode cX7_posts 1 = .ok (.getfield 29, 3) := by decide +kernel
theorem dX7_posts_4 : decode cX7_posts 4 = .ok (.iconst 3, 1) := by decide +kernel
theorem dX7_posts_5 : decode cX7_posts 5 = .ok (.aload_n 0, 1) := by decide +kernel
theorem dX7_posts_6 : decode cX7_posts 6 = .ok (.getfield 113, 3) := by decide +kernel
theorem dX7_posts_9 : decode cX7_posts 9 = .ok (.imul, 1) := by decide +kernel
theorem dX7_posts_10 : decode cX7_posts 10 = .ok (.iload_n 1, 1) := by decide +kernel
theorem dX7_posts_11 : decode cX7_posts 11 = .ok (.iastore, 1) := by decide +kernel
theorem dX7_posts_12 : decode cX7_posts 12 = .ok (.aload_n 0, 1) := by decide +kernel
theorem dX7_posts_13 : decode cX7_posts 13 = .ok (.getfield 29, 3) := by decide +kernel
theorem dX7_posts_16 : decode cX7_posts 16 = .ok (.iconst 3, 1) := by decide +kernel
theorem dX7_posts_17 : decode cX7_posts 17 = .ok (.aload_n 0, 1) := by decide +kernel
theorem dX7_posts_18 : decode cX7_posts 18 = .ok (.getfield 113, 3) := by decide +kernel
theorem dX7_posts_21 : decode cX7_posts 21 = .ok (.imul, 1) := by decide +kernel
theorem dX7_posts_22 : decode cX7_posts 22 = .ok (.iconst 1, 1) := by decide +kernel
theorem dX7_posts_23 : decode cX7_posts 23 = .ok (.iadd, 1) := by decide +kernel
theorem dX7_posts_24 : decode cX7_posts 24 = .ok (.iload_n 2, 1) := by decide +kernel
theorem dX7_posts_25 : decode cX7_posts 25 = .ok (.iastore, 1) := by decide +kernel
theorem dX7_posts_26 : decode cX7_posts 26 = .ok (.aload_n 0, 1) := by decide +kernel
theorem dX7_posts_27 : decode cX7_posts 27 = .ok (.getfield 29, 3) := by decide +kernel
theorem dX7_posts_30 : decode cX7_posts 30 = .ok (.iconst 3, 1) := by decide +kernel
theorem dX7_posts_31 : decode cX7_posts 31 = .ok (.aload_n 0, 1) := by decide +kernel
theorem dX7_posts_32 : decode cX7_posts 32 = .ok (.getfield 113, 3) := by decide +kernel
theorem dX7_posts_35 : decode cX7_posts 35 = .ok (.imul, 1) := by decide +kernel
theorem dX7_posts_36 : decode cX7_posts 36 = .ok (.iconst 2, 1) := by decide +kernel
theorem dX7_posts_37 : decode cX7_posts 37 = .ok (.iadd, 1) := by decide +kernel
theorem dX7_posts_38 : decode cX7_posts 38 = .ok (.iload_n 3, 1) := by decide +kernel
theorem dX7_posts_39 : decode cX7_posts 39 = .ok (.iastore, 1) := by decide +kernel
theorem dX7_posts_40 : decode cX7_posts 40 = .ok (.aload_n 0, 1) := by decide +kernel
theorem dX7_posts_41 : decode cX7_posts 41 = .ok (.dup, 1) := by decide +kernel
theorem dX7_posts_42 : decode cX7_posts 42 = .ok (.getfield 113, 3) := by decide +kernel
theorem dX7_posts_45 : decode cX7_posts 45 = .ok (.iconst 1, 1) := by decide +kernel
theorem dX7_posts_46 : decode cX7_posts 46 = .ok (.iadd, 1) := by decide +kernel
theorem dX7_posts_47 : decode cX7_posts 47 = .ok (.putfield 113, 3) := by decide +kernel
theorem dX7_posts_50 : decode cX7_posts 50 = .ok (.aload_n 0, 1) := by decide +kernel
theorem dX7_posts_51 : decode cX7_posts 51 = .ok (.getfield 16, 3) := by decide +kernel
theorem dX7_posts_54 : decode cX7_posts 54 = .ok (.iload_n 1, 1) := by decide +kernel
theorem dX7_posts_55 : decode cX7_posts 55 = .ok (.iload_n 3, 1) := by decide +kernel
theorem dX7_posts_56 : decode cX7_posts 56 = .ok (.iastore, 1) := by decide +kernel
theorem dX7_posts_57 : decode cX7_posts 57 = .ok (.return_, 1) := by decide +kernel
def wpX7_posts (post : Unit → KS → Int64 → Prop) (M : KS) (ap : Int64) (p1 : Int32) (p2 : Int32) (p3 : Int32) : Prop := (vp_in (3 * (M 3 11 0)) 12000) ∧ ((vp_in ((3 * ((k3 M 16 12 ((3 * (M 3 11 0)).toNatClampNeg) p1) 3 11 0)) + 1) 12000) ∧ ((vp_in ((3 * ((k3 (k3 M 16 12 ((3 * (M 3 11 0)).toNatClampNeg) p1) 16 12 (((3 * ((k3 M 16 12 ((3 * (M 3 11 0)).toNatClampNeg) p1) 3 11 0)) + 1).toNatClampNeg) p2) 3 11 0)) + 2) 12000) ∧ ((vp_in p1 40) ∧ (post () (k3 (k3 (k3 (k3 (k3 M 16 12 ((3 * (M 3 11 0)).toNatClampNeg) p1) 16 12 (((3 * ((k3 M 16 12 ((3 * (M 3 11 0)).toNatClampNeg) p1) 3 11 0)) + 1).toNatClampNeg) p2) 16 12 (((3 * ((k3 (k3 M 16 12 ((3 * (M 3 11 0)).toNatClampNeg) p1) 16 12 (((3 * ((k3 M 16 12 ((3 * (M 3 11 0)).toNatClampNeg) p1) 3 11 0)) + 1).toNatClampNeg) p2) 3 11 0)) + 2).toNatClampNeg) p3) 3 11 0 (((k3 (k3 (k3 M 16 12 ((3 * (M 3 11 0)).toNatClampNeg) p1) 16 12 (((3 * ((k3 M 16 12 ((3 * (M 3 11 0)).toNatClampNeg) p1) 3 11 0)) + 1).toNatClampNeg) p2) 16 12 (((3 * ((k3 (k3 M 16 12 ((3 * (M 3 11 0)).toNatClampNeg) p1) 16 12 (((3 * ((k3 M 16 12 ((3 * (M 3 11 0)).toNatClampNeg) p1) 3 11 0)) + 1).toNatClampNeg) p2) 3 11 0)) + 2).toNatClampNeg) p3) 3 11 0) + 1)) 16 7 p1.toNatClampNeg p3) ap))))
theorem hdX7_posts : yX7_posts.cls ≠ "java/lang/invoke/MethodHandle" ∧ yX7_posts.cls ≠ "java/lang/invoke/VarHandle" ∧ (parseMethodDescriptor yX7_posts.desc).map (fun d => d.parameters.length) = some 3 := by decide +kernel
set_option maxHeartbeats 4000000 in
set_option maxRecDepth 100000 in
theorem mtX7_posts {l : Launch} {D : va_G} {cI : Nat → ClassId} {e0 : Nat} {A : Nat → Prop} {ad : Nat → Nat → Nat} {K M : KS} {ap o : Int64} {od : UInt64} {mc ms : Nat} {p1 : Int32} {p2 : Int32} {p3 : Int32} {post : Unit → KS → Int64 → Prop} (h : wpX7_posts post M ap p1 p2 p3) : CM l D cI e0 A yX7_posts cX7_posts 4 none 0 0 mc ms [.ref (ad 3 0), .int p1, .int p2, .int p3] (HT D cI e0 A ad K M ap o od) (qM D cI e0 A ad K o od rV post) xN := by
  refine CM.of (by decide) (Nat.le_of_ble_eq_true rfl) (fun p e s m below meth c ls FX hw hS hl => ?_)
  obtain ⟨S, hg, hr, hlk, hnm, hout⟩ := FX
  have hl : lv_has ls 4 [(0, .ref (ad 3 0)), (1, .int p1), (2, .int p2), (3, .int p3)] := hl
  unfold wpX7_posts at h
  refine lv_aload_n S.1 S.2.1 dX7_posts_0 rfl (lv_at hl 0 rfl) ?_
  refine g3_12 S hg hw u1056 dX7_posts_1 ?_
  refine lv_iconst (v := 3) S.1 S.2.1 dX7_posts_4 (by decide) ?_
  refine lv_aload_n S.1 S.2.1 dX7_posts_5 rfl (lv_at hl 0 rfl) ?_
  refine g3_11 S hg hw u1055 dX7_posts_6 ?_
  refine lv_imul S.1 S.2.1 dX7_posts_9 ?_
  refine lv_iload_n S.1 S.2.1 dX7_posts_10 rfl (lv_at hl 1 rfl) ?_
  obtain ⟨g1, h⟩ := h
  refine s16 S hg hS hw rfl g1 dX7_posts_11 (fun H locs hw hS => ?_)
  refine lv_aload_n S.1 S.2.1 dX7_posts_12 rfl (lv_at hl 0 rfl) ?_
  refine g3_12 S hg hw u1056 dX7_posts_13 ?_
  refine lv_iconst (v := 3) S.1 S.2.1 dX7_posts_16 (by decide) ?_
  refine lv_aload_n S.1 S.2.1 dX7_posts_17 rfl (lv_at hl 0 rfl) ?_
  refine g3_11 S hg hw u1055 dX7_posts_18 ?_
  refine lv_imul S.1 S.2.1 dX7_posts_21 ?_
  refine lv_iconst (v := 1) S.1 S.2.1 dX7_posts_22 (by decide) ?_
  refine lv_iadd S.1 S.2.1 dX7_posts_23 ?_
  refine lv_iload_n S.1 S.2.1 dX7_posts_24 rfl (lv_at hl 2 rfl) ?_
  obtain ⟨g2, h⟩ := h
  refine s16 S hg hS hw rfl g2 dX7_posts_25 (fun H locs hw hS => ?_)
  refine lv_aload_n S.1 S.2.1 dX7_posts_26 rfl (lv_at hl 0 rfl) ?_
  refine g3_12 S hg hw u1056 dX7_posts_27 ?_
  refine lv_iconst (v := 3) S.1 S.2.1 dX7_posts_30 (by decide) ?_
  refine lv_aload_n S.1 S.2.1 dX7_posts_31 rfl (lv_at hl 0 rfl) ?_
  refine g3_11 S hg hw u1055 dX7_posts_32 ?_
  refine lv_imul S.1 S.2.1 dX7_posts_35 ?_
  refine lv_iconst (v := 2) S.1 S.2.1 dX7_posts_36 (by decide) ?_
  refine lv_iadd S.1 S.2.1 dX7_posts_37 ?_
  refine lv_iload_n S.1 S.2.1 dX7_posts_38 rfl (lv_at hl 3 rfl) ?_
  obtain ⟨g3, h⟩ := h
  refine s16 S hg hS hw rfl g3 dX7_posts_39 (fun H locs hw hS => ?_)
  refine lv_aload_n S.1 S.2.1 dX7_posts_40 rfl (lv_at hl 0 rfl) ?_
  refine lv_dup S.1 S.2.1 dX7_posts_41 rfl ?_
  refine g3_11 S hg hw u1055 dX7_posts_42 ?_
  refine lv_iconst (v := 1) S.1 S.2.1 dX7_posts_45 (by decide) ?_
  refine lv_iadd S.1 S.2.1 dX7_posts_46 ?_
  refine p3_11 S hg hS hw u1055 dX7_posts_47 (fun H locs hw hS => ?_)
  refine lv_aload_n S.1 S.2.1 dX7_posts_50 rfl (lv_at hl 0 rfl) ?_
  refine g3_7 S hg hw u1051 dX7_posts_51 ?_
  refine lv_iload_n S.1 S.2.1 dX7_posts_54 rfl (lv_at hl 1 rfl) ?_
  refine lv_iload_n S.1 S.2.1 dX7_posts_55 rfl (lv_at hl 3 rfl) ?_
  obtain ⟨g4, h⟩ := h
  refine s16 S hg hS hw rfl g4 dX7_posts_56 (fun H locs hw hS => ?_)
  exact r_vret (y := yX7_posts) S hr hlk hS (by omega) (by omega) dX7_posts_57 ⟨(), _, _, rfl, h, hw⟩

-- X7.make
theorem dX7_make_0 : decode cX7_make 0 = .ok (.aload_n 0, 1) := by decide +kernel
theorem dX7_make_1 : decode cX7_make 1 = .ok (.iconst 0, 1) := by decide +kernel
theorem dX7_make_2 : decode cX7_make 2 = .ok (.putfield 98, 3) := by decide +kernel
theorem dX7_make_5 : decode cX7_make 5 = .ok (.aload_n 0, 1) := by decide +kernel
theorem dX7_make_6 : decode cX7_make 6 = .ok (.iload_n 1, 1) := by decide +kernel
theorem dX7_make_7 : decode cX7_make 7 = .ok (.invokevirtual 116, 3) := by decide +kernel
theorem dX7_make_10 : decode cX7_make 10 = .ok (.ifCond .ne 9, 3) := by decide +kernel
theorem dX7_make_13 : decode cX7_make 13 = .ok (.aload_n 0, 1) := by decide +kernel
theorem dX7_make_14 : decode cX7_make 14 = .ok (.iconst 1, 1) := by decide +kernel
theorem dX7_make_15 : decode cX7_make 15 = .ok (.invokevirtual 106, 3) := by decide +kernel
theorem dX7_make_18 : decode cX7_make 18 = .ok (.ireturn, 1) := by decide +kernel
theorem dX7_make_19 : decode cX7_make 19 = .ok (.iload_n 2, 1) := by decide +kernel
theorem dX7_make_20 : decode cX7_make 20 = .ok (.iconst 0, 1) := by decide +kernel
theorem dX7_make_21 : decode cX7_make 21 = .ok (.bipush 15, 2) := by decide +kernel
theorem dX7_make_23 : decode cX7_make 23 = .ok (.invokestatic 102, 3) := by decide +kernel
theorem dX7_make_26 : decode cX7_make 26 = .ok (.ifCond .ne 9, 3) := by decide +kernel
theorem dX7_make_29 : decode cX7_make 29 = .ok (.aload_n 0, 1) := by decide +kernel
theorem dX7_make_30 : decode cX7_make 30 = .ok (.iconst 2, 1) := by decide +kernel
theorem dX7_make_31 : decode cX7_make 31 = .ok (.invokevirtual 106, 3) := by decide +kernel
theorem dX7_make_34 : decode cX7_make 34 = .ok (.ireturn, 1) := by decide +kernel
theorem dX7_make_35 : decode cX7_make 35 = .ok (.aload_n 0, 1) := by decide +kernel
theorem dX7_make_36 : decode cX7_make 36 = .ok (.getfield 120, 3) := by decide +kernel
theorem dX7_make_39 : decode cX7_make 39 = .ok (.bipush 40, 2) := by decide +kernel
theorem dX7_make_41 : decode cX7_make 41 = .ok (.if_icmp .ne 9, 3) := by decide +kernel
theorem dX7_make_44 : decode cX7_make 44 = .ok (.aload_n 0, 1) := by decide +kernel
theorem dX7_make_45 : decode cX7_make 45 = .ok (.iconst 3, 1) := by decide +kernel
theorem dX7_make_46 : decode cX7_make 46 = .ok (.invokevirtual 106, 3) := by decide +kernel
theorem dX7_make_49 : decode cX7_make 49 = .ok (.ireturn, 1) := by decide +kernel
theorem dX7_make_50 : decode cX7_make 50 = .ok (.aload_n 0, 1) := by decide +kernel
theorem dX7_make_51 : decode cX7_make 51 = .ok (.getfield 13, 3) := by decide +kernel
theorem dX7_make_54 : decode cX7_make 54 = .ok (.aload_n 0, 1) := by decide +kernel
theorem dX7_make_55 : decode cX7_make 55 = .ok (.getfield 120, 3) := by decide +kernel
theorem dX7_make_58 : decode cX7_make 58 = .ok (.iload_n 2, 1) := by decide +kernel
theorem dX7_make_59 : decode cX7_make 59 = .ok (.iastore, 1) := by decide +kernel
theorem dX7_make_60 : decode cX7_make 60 = .ok (.aload_n 0, 1) := by decide +kernel
theorem dX7_make_61 : decode cX7_make 61 = .ok (.getfield 19, 3) := by decide +kernel
theorem dX7_make_64 : decode cX7_make 64 = .ok (.aload_n 0, 1) := by decide +kernel
theorem dX7_make_65 : decode cX7_make 65 = .ok (.getfield 120, 3) := by decide +kernel
theorem dX7_make_68 : decode cX7_make 68 = .ok (.bipush 45, 2) := by decide +kernel
theorem dX7_make_70 : decode cX7_make 70 = .ok (.castore, 1) := by decide +kernel
theorem dX7_make_71 : decode cX7_make 71 = .ok (.aload_n 0, 1) := by decide +kernel
theorem dX7_make_72 : decode cX7_make 72 = .ok (.getfield 26, 3) := by decide +kernel
theorem dX7_make_75 : decode cX7_make 75 = .ok (.aload_n 0, 1) := by decide +kernel
theorem dX7_make_76 : decode cX7_make 76 = .ok (.getfield 120, 3) := by decide +kernel
theorem dX7_make_79 : decode cX7_make 79 = .ok (.iconst (-1), 1) := by decide +kernel
theorem dX7_make_80 : decode cX7_make 80 = .ok (.iastore, 1) := by decide +kernel
theorem dX7_make_81 : decode cX7_make 81 = .ok (.aload_n 0, 1) := by decide +kernel
theorem dX7_make_82 : decode cX7_make 82 = .ok (.getfield 23, 3) := by decide +kernel
theorem dX7_make_85 : decode cX7_make 85 = .ok (.aload_n 0, 1) := by decide +kernel
theorem dX7_make_86 : decode cX7_make 86 = .ok (.getfield 120, 3) := by decide +kernel
theorem dX7_make_89 : decode cX7_make 89 = .ok (.iconst (-1), 1) := by decide +kernel
theorem dX7_make_90 : decode cX7_make 90 = .ok (.iastore, 1) := by decide +kernel
theorem dX7_make_91 : decode cX7_make 91 = .ok (.aload_n 0, 1) := by decide +kernel
theorem dX7_make_92 : decode cX7_make 92 = .ok (.aload_n 0, 1) := by decide +kernel
theorem dX7_make_93 : decode cX7_make 93 = .ok (.getfield 120, 3) := by decide +kernel
theorem dX7_make_96 : decode cX7_make 96 = .ok (.iconst (-1), 1) := by decide +kernel
theorem dX7_make_97 : decode cX7_make 97 = .ok (.iload_n 1, 1) := by decide +kernel
theorem dX7_make_98 : decode cX7_make 98 = .ok (.invokevirtual 123, 3) := by decide +kernel
theorem dX7_make_101 : decode cX7_make 101 = .ok (.aload_n 0, 1) := by decide +kernel
theorem dX7_make_102 : decode cX7_make 102 = .ok (.dup, 1) := by decide +kernel
theorem dX7_make_103 : decode cX7_make 103 = .ok (.getfield 120, 3) := by decide +kernel
theorem dX7_make_106 : decode cX7_make 106 = .ok (.iconst 1, 1) := by decide +kernel
theorem dX7_make_107 : decode cX7_make 107 = .ok (.iadd, 1) := by decide +kernel
theorem dX7_make_108 : decode cX7_make 108 = .ok (.putfield 120, 3) := by decide +kernel
theorem dX7_make_111 : decode cX7_make 111 = .ok (.aload_n 0, 1) := by decide +kernel
theorem dX7_make_112 : decode cX7_make 112 = .ok (.getfield 120, 3) := by decide +kernel
theorem dX7_make_115 : decode cX7_make 115 = .ok (.iconst 1, 1) := by decide +kernel
theorem dX7_make_116 : decode cX7_make 116 = .ok (.isub, 1) := by decide +kernel
theorem dX7_make_117 : decode cX7_make 117 = .ok (.ireturn, 1) := by decide +kernel
def wpX7_make (post : Int32 → KS → Int64 → Prop) (M : KS) (ap : Int64) (p1 : Int32) (p2 : Int32) : Prop := (wpX7_isPlayer (fun r1 => ((¬ r1 = 0 → ((wpX7_in (fun r3 => ((¬ r3 = 0 → (((¬ ((k3 M 3 0 0 0) 3 5 0) = 40 → ((vp_in ((k3 M 3 0 0 0) 3 5 0) 40) ∧ ((vp_in ((k3 (k3 M 3 0 0 0) 16 6 (((k3 M 3 0 0 0) 3 5 0).toNatClampNeg) p2) 3 5 0) 40) ∧ ((vp_in ((k3 (k3 (k3 M 3 0 0 0) 16 6 (((k3 M 3 0 0 0) 3 5 0).toNatClampNeg) p2) 13 8 (((k3 (k3 M 3 0 0 0) 16 6 (((k3 M 3 0 0 0) 3 5 0).toNatClampNeg) p2) 3 5 0).toNatClampNeg) 45) 3 5 0) 40) ∧ ((vp_in ((k3 (k3 (k3 (k3 M 3 0 0 0) 16 6 (((k3 M 3 0 0 0) 3 5 0).toNatClampNeg) p2) 13 8 (((k3 (k3 M 3 0 0 0) 16 6 (((k3 M 3 0 0 0) 3 5 0).toNatClampNeg) p2) 3 5 0).toNatClampNeg) 45) 16 10 (((k3 (k3 (k3 M 3 0 0 0) 16 6 (((k3 M 3 0 0 0) 3 5 0).toNatClampNeg) p2) 13 8 (((k3 (k3 M 3 0 0 0) 16 6 (((k3 M 3 0 0 0) 3 5 0).toNatClampNeg) p2) 3 5 0).toNatClampNeg) 45) 3 5 0).toNatClampNeg) (-1)) 3 5 0) 40) ∧ ((wpX7_posts (fun _ M10 ap11 => post (((k3 M10 3 5 0 ((M10 3 5 0) + 1)) 3 5 0) - 1) (k3 M10 3 5 0 ((M10 3 5 0) + 1)) ap11) (k3 (k3 (k3 (k3 (k3 M 3 0 0 0) 16 6 (((k3 M 3 0 0 0) 3 5 0).toNatClampNeg) p2) 13 8 (((k3 (k3 M 3 0 0 0) 16 6 (((k3 M 3 0 0 0) 3 5 0).toNatClampNeg) p2) 3 5 0).toNatClampNeg) 45) 16 10 (((k3 (k3 (k3 M 3 0 0 0) 16 6 (((k3 M 3 0 0 0) 3 5 0).toNatClampNeg) p2) 13 8 (((k3 (k3 M 3 0 0 0) 16 6 (((k3 M 3 0 0 0) 3 5 0).toNatClampNeg) p2) 3 5 0).toNatClampNeg) 45) 3 5 0).toNatClampNeg) (-1)) 16 9 (((k3 (k3 (k3 (k3 M 3 0 0 0) 16 6 (((k3 M 3 0 0 0) 3 5 0).toNatClampNeg) p2) 13 8 (((k3 (k3 M 3 0 0 0) 16 6 (((k3 M 3 0 0 0) 3 5 0).toNatClampNeg) p2) 3 5 0).toNatClampNeg) 45) 16 10 (((k3 (k3 (k3 M 3 0 0 0) 16 6 (((k3 M 3 0 0 0) 3 5 0).toNatClampNeg) p2) 13 8 (((k3 (k3 M 3 0 0 0) 16 6 (((k3 M 3 0 0 0) 3 5 0).toNatClampNeg) p2) 3 5 0).toNatClampNeg) 45) 3 5 0).toNatClampNeg) (-1)) 3 5 0).toNatClampNeg) (-1)) ap ((k3 (k3 (k3 (k3 (k3 M 3 0 0 0) 16 6 (((k3 M 3 0 0 0) 3 5 0).toNatClampNeg) p2) 13 8 (((k3 (k3 M 3 0 0 0) 16 6 (((k3 M 3 0 0 0) 3 5 0).toNatClampNeg) p2) 3 5 0).toNatClampNeg) 45) 16 10 (((k3 (k3 (k3 M 3 0 0 0) 16 6 (((k3 M 3 0 0 0) 3 5 0).toNatClampNeg) p2) 13 8 (((k3 (k3 M 3 0 0 0) 16 6 (((k3 M 3 0 0 0) 3 5 0).toNatClampNeg) p2) 3 5 0).toNatClampNeg) 45) 3 5 0).toNatClampNeg) (-1)) 16 9 (((k3 (k3 (k3 (k3 M 3 0 0 0) 16 6 (((k3 M 3 0 0 0) 3 5 0).toNatClampNeg) p2) 13 8 (((k3 (k3 M 3 0 0 0) 16 6 (((k3 M 3 0 0 0) 3 5 0).toNatClampNeg) p2) 3 5 0).toNatClampNeg) 45) 16 10 (((k3 (k3 (k3 M 3 0 0 0) 16 6 (((k3 M 3 0 0 0) 3 5 0).toNatClampNeg) p2) 13 8 (((k3 (k3 M 3 0 0 0) 16 6 (((k3 M 3 0 0 0) 3 5 0).toNatClampNeg) p2) 3 5 0).toNatClampNeg) 45) 3 5 0).toNatClampNeg) (-1)) 3 5 0).toNatClampNeg) (-1)) 3 5 0) (-1) p1))))))) ∧ (((k3 M 3 0 0 0) 3 5 0) = 40 → ((wpX7_fails (fun r12 M13 ap14 => post r12 M13 ap14) (k3 M 3 0 0 0) ap 3)))))) ∧ (r3 = 0 → ((wpX7_fails (fun r15 M16 ap17 => post r15 M16 ap17) (k3 M 3 0 0 0) ap 2))))) (k3 M 3 0 0 0) ap p2 0 15))) ∧ (r1 = 0 → ((wpX7_fails (fun r18 M19 ap20 => post r18 M19 ap20) (k3 M 3 0 0 0) ap 1))))) (k3 M 3 0 0 0) ap p1)
theorem hdX7_make : yX7_make.cls ≠ "java/lang/invoke/MethodHandle" ∧ yX7_make.cls ≠ "java/lang/invoke/VarHandle" ∧ (parseMethodDescriptor yX7_make.desc).map (fun d => d.parameters.length) = some 2 := by decide +kernel
set_option maxHeartbeats 4000000 in
set_option maxRecDepth 100000 in
theorem mtX7_make {l : Launch} {D : va_G} {cI : Nat → ClassId} {e0 : Nat} {A : Nat → Prop} {ad : Nat → Nat → Nat} {K M : KS} {ap o : Int64} {od : UInt64} {mc ms : Nat} {p1 : Int32} {p2 : Int32} {post : Int32 → KS → Int64 → Prop} (h : wpX7_make post M ap p1 p2) : CM l D cI e0 A yX7_make cX7_make 3 (some FieldType.int) 2 43 mc ms [.ref (ad 3 0), .int p1, .int p2] (HT D cI e0 A ad K M ap o od) (qM D cI e0 A ad K o od rI post) xN := by
  refine CM.of (by decide) (Nat.le_of_ble_eq_true rfl) (fun p e s m below meth c ls FX hw hS hl => ?_)
  obtain ⟨S, hg, hr, hlk, hnm, hout⟩ := FX
  have hl : lv_has ls 3 [(0, .ref (ad 3 0)), (1, .int p1), (2, .int p2)] := hl
  unfold wpX7_make at h
  refine lv_aload_n S.1 S.2.1 dX7_make_0 rfl (lv_at hl 0 rfl) ?_
  refine lv_iconst (v := 0) S.1 S.2.1 dX7_make_1 (by decide) ?_
  refine p3_0 S hg hS hw u1044 dX7_make_2 (fun H locs hw hS => ?_)
  refine lv_aload_n S.1 S.2.1 dX7_make_5 rfl (lv_at hl 0 rfl) ?_
  refine lv_iload_n S.1 S.2.1 dX7_make_6 rfl (lv_at hl 1 rfl) ?_
  refine r_call (rest := []) S hg hS (mtX7_isPlayer (mc := 0) (ms := 0) h) u1179 u1181 u27 u49 u1182 hdX7_isPlayer (rv3 hg hw) hw ⟨Nat.le_of_ble_eq_true rfl, Nat.le_of_ble_eq_true rfl⟩ ⟨by show 0 + 0 ≤ mc; omega, by show 0 + 0 ≤ ms; omega⟩ hl.1 (Nat.le_of_ble_eq_true rfl) rfl dX7_make_7 (fun E ce q H1 locs1 hx hS1 hc1 hc2 hc3 => hx.elim) (fun rv H locs hq hS => ?_)
  obtain ⟨r1, rfl, h, hw⟩ := hq
  show W p l e _ s m _ below meth c H locs _ _ _ (F0 m 10 ls [.int r1])
  show W p l e _ s m _ below meth c H locs 0 0 _ _
  refine lv_if_ne (tgt := 19) S.1 S.2.1 dX7_make_10 (by decide) (fun c2 => ?_) (fun c2 => ?_)
  · have h := h.1 c2
    refine lv_iload_n S.1 S.2.1 dX7_make_19 rfl (lv_at hl 2 rfl) ?_
    refine lv_iconst (v := 0) S.1 S.2.1 dX7_make_20 (by decide) ?_
    refine lv_bipush (v := 15) S.1 S.2.1 dX7_make_21 (by decide) ?_
    refine r_callS (rest := []) S hg hS (mtX7_in (mc := 0) (ms := 0) h) u1168 u1169 u49 u1170 hdX7_in hw ⟨Nat.le_of_ble_eq_true rfl, Nat.le_of_ble_eq_true rfl⟩ ⟨by show 0 + 0 ≤ mc; omega, by show 0 + 0 ≤ ms; omega⟩ hl.1 (Nat.le_of_ble_eq_true rfl) rfl dX7_make_23 (fun E ce q H1 locs1 hx hS1 hc1 hc2 hc3 => hx.elim) (fun rv H locs hq hS => ?_)
    obtain ⟨r3, rfl, h, hw⟩ := hq
    show W p l e _ s m _ below meth c H locs _ _ _ (F0 m 26 ls [.int r3])
    show W p l e _ s m _ below meth c H locs 0 0 _ _
    refine lv_if_ne (tgt := 35) S.1 S.2.1 dX7_make_26 (by decide) (fun c4 => ?_) (fun c4 => ?_)
    · have h := h.1 c4
      refine lv_aload_n S.1 S.2.1 dX7_make_35 rfl (lv_at hl 0 rfl) ?_
      refine g3_5 S hg hw u1049 dX7_make_36 ?_
      refine lv_bipush (v := 40) S.1 S.2.1 dX7_make_39 (by decide) ?_
      refine lv_icmp_ne (tgt := 50) S.1 S.2.1 dX7_make_41 (by decide) (fun c5 => ?_) (fun c5 => ?_)
      · have h := h.1 c5
        refine lv_aload_n S.1 S.2.1 dX7_make_50 rfl (lv_at hl 0 rfl) ?_
        refine g3_6 S hg hw u1050 dX7_make_51 ?_
        refine lv_aload_n S.1 S.2.1 dX7_make_54 rfl (lv_at hl 0 rfl) ?_
        refine g3_5 S hg hw u1049 dX7_make_55 ?_
        refine lv_iload_n S.1 S.2.1 dX7_make_58 rfl (lv_at hl 2 rfl) ?_
        obtain ⟨g6, h⟩ := h
        refine s16 S hg hS hw rfl g6 dX7_make_59 (fun H locs hw hS => ?_)
        refine lv_aload_n S.1 S.2.1 dX7_make_60 rfl (lv_at hl 0 rfl) ?_
        refine g3_8 S hg hw u1052 dX7_make_61 ?_
        refine lv_aload_n S.1 S.2.1 dX7_make_64 rfl (lv_at hl 0 rfl) ?_
        refine g3_5 S hg hw u1049 dX7_make_65 ?_
        refine lv_bipush (v := 45) S.1 S.2.1 dX7_make_68 (by decide) ?_
        obtain ⟨g7, h⟩ := h
        refine s13 S hg hS hw rfl g7 (by decide) dX7_make_70 (fun H locs hw hS => ?_)
        refine lv_aload_n S.1 S.2.1 dX7_make_71 rfl (lv_at hl 0 rfl) ?_
        refine g3_10 S hg hw u1054 dX7_make_72 ?_
        refine lv_aload_n S.1 S.2.1 dX7_make_75 rfl (lv_at hl 0 rfl) ?_
        refine g3_5 S hg hw u1049 dX7_make_76 ?_
        refine lv_iconst (v := (-1)) S.1 S.2.1 dX7_make_79 (by decide) ?_
        obtain ⟨g8, h⟩ := h
        refine s16 S hg hS hw rfl g8 dX7_make_80 (fun H locs hw hS => ?_)
        refine lv_aload_n S.1 S.2.1 dX7_make_81 rfl (lv_at hl 0 rfl) ?_
        refine g3_9 S hg hw u1053 dX7_make_82 ?_
        refine lv_aload_n S.1 S.2.1 dX7_make_85 rfl (lv_at hl 0 rfl) ?_
        refine g3_5 S hg hw u1049 dX7_make_86 ?_
        refine lv_iconst (v := (-1)) S.1 S.2.1 dX7_make_89 (by decide) ?_
        obtain ⟨g9, h⟩ := h
        refine s16 S hg hS hw rfl g9 dX7_make_90 (fun H locs hw hS => ?_)
        refine lv_aload_n S.1 S.2.1 dX7_make_91 rfl (lv_at hl 0 rfl) ?_
        refine lv_aload_n S.1 S.2.1 dX7_make_92 rfl (lv_at hl 0 rfl) ?_
        refine g3_5 S hg hw u1049 dX7_make_93 ?_
        refine lv_iconst (v := (-1)) S.1 S.2.1 dX7_make_96 (by decide) ?_
        refine lv_iload_n S.1 S.2.1 dX7_make_97 rfl (lv_at hl 1 rfl) ?_
        refine r_call (rest := []) S hg hS (mtX7_posts (mc := 0) (ms := 0) h) u1183 u1185 u28 u49 u1186 hdX7_posts (rv3 hg hw) hw ⟨Nat.le_of_ble_eq_true rfl, Nat.le_of_ble_eq_true rfl⟩ ⟨by show 0 + 0 ≤ mc; omega, by show 0 + 0 ≤ ms; omega⟩ hl.1 (Nat.le_of_ble_eq_true rfl) rfl dX7_make_98 (fun E ce q H1 locs1 hx hS1 hc1 hc2 hc3 => hx.elim) (fun rv H locs hq hS => ?_)
        obtain ⟨_, M10, ap11, rfl, h, hw⟩ := hq
        show W p l e _ s m _ below meth c H locs _ _ _ (F0 m 101 ls [])
        show W p l e _ s m _ below meth c H locs 0 0 _ _
        refine lv_aload_n S.1 S.2.1 dX7_make_101 rfl (lv_at hl 0 rfl) ?_
        refine lv_dup S.1 S.2.1 dX7_make_102 rfl ?_
        refine g3_5 S hg hw u1049 dX7_make_103 ?_
        refine lv_iconst (v := 1) S.1 S.2.1 dX7_make_106 (by decide) ?_
        refine lv_iadd S.1 S.2.1 dX7_make_107 ?_
        refine p3_5 S hg hS hw u1049 dX7_make_108 (fun H locs hw hS => ?_)
        refine lv_aload_n S.1 S.2.1 dX7_make_111 rfl (lv_at hl 0 rfl) ?_
        refine g3_5 S hg hw u1049 dX7_make_112 ?_
        refine lv_iconst (v := 1) S.1 S.2.1 dX7_make_115 (by decide) ?_
        refine lv_isub S.1 S.2.1 dX7_make_116 ?_
        exact r_iret (y := yX7_make) S hr rfl hlk hS (by omega) (by omega) dX7_make_117 ⟨(((k3 M10 3 5 0 ((M10 3 5 0) + 1)) 3 5 0) - 1), _, _, rfl, h, hw⟩
      · have h := h.2 c5
        refine lv_aload_n S.1 S.2.1 dX7_make_44 rfl (lv_at hl 0 rfl) ?_
        refine lv_iconst (v := 3) S.1 S.2.1 dX7_make_45 (by decide) ?_
        refine r_call (rest := []) S hg hS (mtX7_fails (mc := 0) (ms := 0) h) u1171 u1173 u26 u49 u1174 hdX7_fails (rv3 hg hw) hw ⟨Nat.le_of_ble_eq_true rfl, Nat.le_of_ble_eq_true rfl⟩ ⟨by show 0 + 0 ≤ mc; omega, by show 0 + 0 ≤ ms; omega⟩ hl.1 (Nat.le_of_ble_eq_true rfl) rfl dX7_make_46 (fun E ce q H1 locs1 hx hS1 hc1 hc2 hc3 => hx.elim) (fun rv H locs hq hS => ?_)
        obtain ⟨r12, M13, ap14, rfl, h, hw⟩ := hq
        show W p l e _ s m _ below meth c H locs _ _ _ (F0 m 49 ls [.int r12])
        show W p l e _ s m _ below meth c H locs 0 0 _ _
        exact r_iret (y := yX7_make) S hr rfl hlk hS (by omega) (by omega) dX7_make_49 ⟨r12, _, _, rfl, h, hw⟩
    · have h := h.2 c4
      refine lv_aload_n S.1 S.2.1 dX7_make_29 rfl (lv_at hl 0 rfl) ?_
      refine lv_iconst (v := 2) S.1 S.2.1 dX7_make_30 (by decide) ?_
      refine r_call (rest := []) S hg hS (mtX7_fails (mc := 0) (ms := 0) h) u1171 u1173 u26 u49 u1174 hdX7_fails (rv3 hg hw) hw ⟨Nat.le_of_ble_eq_true rfl, Nat.le_of_ble_eq_true rfl⟩ ⟨by show 0 + 0 ≤ mc; omega, by show 0 + 0 ≤ ms; omega⟩ hl.1 (Nat.le_of_ble_eq_true rfl) rfl dX7_make_31 (fun E ce q H1 locs1 hx hS1 hc1 hc2 hc3 => hx.elim) (fun rv H locs hq hS => ?_)
      obtain ⟨r15, M16, ap17, rfl, h, hw⟩ := hq
      show W p l e _ s m _ below meth c H locs _ _ _ (F0 m 34 ls [.int r15])
      show W p l e _ s m _ below meth c H locs 0 0 _ _
      exact r_iret (y := yX7_make) S hr rfl hlk hS (by omega) (by omega) dX7_make_34 ⟨r15, _, _, rfl, h, hw⟩
  · have h := h.2 c2
    refine lv_aload_n S.1 S.2.1 dX7_make_13 rfl (lv_at hl 0 rfl) ?_
    refine lv_iconst (v := 1) S.1 S.2.1 dX7_make_14 (by decide) ?_
    refine r_call (rest := []) S hg hS (mtX7_fails (mc := 0) (ms := 0) h) u1171 u1173 u26 u49 u1174 hdX7_fails (rv3 hg hw) hw ⟨Nat.le_of_ble_eq_true rfl, Nat.le_of_ble_eq_true rfl⟩ ⟨by show 0 + 0 ≤ mc; omega, by show 0 + 0 ≤ ms; omega⟩ hl.1 (Nat.le_of_ble_eq_true rfl) rfl dX7_make_15 (fun E ce q H1 locs1 hx hS1 hc1 hc2 hc3 => hx.elim) (fun rv H locs hq hS => ?_)
    obtain ⟨r18, M19, ap20, rfl, h, hw⟩ := hq
    show W p l e _ s m _ below meth c H locs _ _ _ (F0 m 18 ls [.int r18])
    show W p l e _ s m _ below meth c H locs 0 0 _ _
    exact r_iret (y := yX7_make) S hr rfl hlk hS (by omega) (by omega) dX7_make_18 ⟨r18, _, _, rfl, h, hw⟩

-- X7.isCard
theorem dX7_isCard_0 : decode cX7_isCard 0 = .ok (.iload_n 1, 1) := by decide +kernel
theorem dX7_isCard_1 : decode cX7_isCard 1 = .ok (.iconst 0, 1) := by decide +kernel
theorem dX7_isCard_2 : decode cX7_isCard 2 = .ok (.aload_n 0, 1) := by decide +kernel
theorem dX7_isCard_3 : decode cX7_isCard 3 = .ok (.getfield 120, 3) := by decide +kernel
theorem dX7_isCard_6 : decode cX7_isCard 6 = .ok (.iconst 1, 1) := by decide +kernel
theorem dX7_isCard_7 : decode cX7_isCard 7 = .ok (.isub, 1) := by decide +kernel
theorem dX7_isCard_8 : decode cX7_isCard 8 = .ok (.invokestatic 102, 3) := by decide +kernel
theorem dX7_isCard_11 : decode cX7_isCard 11 = .ok (.ireturn, 1) := by decide +kernel
def wpX7_isCard (post : Int32 → Prop) (M : KS) (ap : Int64) (p1 : Int32) : Prop := (wpX7_in (fun r1 => (narrow .boolean (.int r1) = .int r1) ∧ post r1) M ap p1 0 ((M 3 5 0) - 1))
theorem hdX7_isCard : yX7_isCard.cls ≠ "java/lang/invoke/MethodHandle" ∧ yX7_isCard.cls ≠ "java/lang/invoke/VarHandle" ∧ (parseMethodDescriptor yX7_isCard.desc).map (fun d => d.parameters.length) = some 1 := by decide +kernel
set_option maxHeartbeats 4000000 in
set_option maxRecDepth 100000 in
theorem mtX7_isCard {l : Launch} {D : va_G} {cI : Nat → ClassId} {e0 : Nat} {A : Nat → Prop} {ad : Nat → Nat → Nat} {K M : KS} {ap o : Int64} {od : UInt64} {mc ms : Nat} {p1 : Int32} {post : Int32 → Prop} (h : wpX7_isCard post M ap p1) : CM l D cI e0 A yX7_isCard cX7_isCard 2 (some FieldType.boolean) 1 22 mc ms [.ref (ad 3 0), .int p1] (HT D cI e0 A ad K M ap o od) (qP D cI e0 A ad K M ap o od rI post) xN := by
  refine CM.of (by decide) (Nat.le_of_ble_eq_true rfl) (fun p e s m below meth c ls FX hw hS hl => ?_)
  obtain ⟨S, hg, hr, hlk, hnm, hout⟩ := FX
  have hl : lv_has ls 2 [(0, .ref (ad 3 0)), (1, .int p1)] := hl
  unfold wpX7_isCard at h
  refine lv_iload_n S.1 S.2.1 dX7_isCard_0 rfl (lv_at hl 1 rfl) ?_
  refine lv_iconst (v := 0) S.1 S.2.1 dX7_isCard_1 (by decide) ?_
  refine lv_aload_n S.1 S.2.1 dX7_isCard_2 rfl (lv_at hl 0 rfl) ?_
  refine g3_5 S hg hw u1049 dX7_isCard_3 ?_
  refine lv_iconst (v := 1) S.1 S.2.1 dX7_isCard_6 (by decide) ?_
  refine lv_isub S.1 S.2.1 dX7_isCard_7 ?_
  refine r_callS (rest := []) S hg hS (mtX7_in (mc := 0) (ms := 0) h) u1168 u1169 u49 u1170 hdX7_in hw ⟨Nat.le_of_ble_eq_true rfl, Nat.le_of_ble_eq_true rfl⟩ ⟨by show 0 + 0 ≤ mc; omega, by show 0 + 0 ≤ ms; omega⟩ hl.1 (Nat.le_of_ble_eq_true rfl) rfl dX7_isCard_8 (fun E ce q H1 locs1 hx hS1 hc1 hc2 hc3 => hx.elim) (fun rv H locs hq hS => ?_)
  obtain ⟨r1, rfl, h, hw⟩ := hq
  show W p l e _ s m _ below meth c H locs _ _ _ (F0 m 11 ls [.int r1])
  show W p l e _ s m _ below meth c H locs 0 0 _ _
  obtain ⟨g2, h⟩ := h
  exact r_iret (y := yX7_isCard) S hr g2 hlk hS (by omega) (by omega) dX7_isCard_11 ⟨r1, rfl, h, hw⟩

-- X7.ownerOf
theorem dX7_ownerOf_0 : decode cX7_ownerOf 0 = .ok (.aload_n 0, 1) := by decide +kernel
theorem dX7_ownerOf_1 : decode cX7_ownerOf 1 = .ok (.iconst 0, 1) := by decide +kernel
theorem dX7_ownerOf_2 : decode cX7_ownerOf 2 = .ok (.putfield 98, 3) := by decide +kernel
theorem dX7_ownerOf_5 : decode cX7_ownerOf 5 = .ok (.aload_n 0, 1) := by decide +kernel
theorem dX7_ownerOf_6 : decode cX7_ownerOf 6 = .ok (.iload_n 1, 1) := by decide +kernel
theorem dX7_ownerOf_7 : decode cX7_ownerOf 7 = .ok (.invokevirtual 127, 3) := by decide +kernel
theorem dX7_ownerOf_10 : decode cX7_ownerOf 10 = .ok (.ifCond .eq 12, 3) := by decide +kernel
theorem dX7_ownerOf_13 : decode cX7_ownerOf 13 = .ok (.aload_n 0, 1) := by decide +kernel
theorem dX7_ownerOf_14 : decode cX7_ownerOf 14 = .ok (.getfield 16, 3) := by decide +kernel
theorem dX7_ownerOf_17 : decode cX7_ownerOf 17 = .ok (.iload_n 1, 1) := by decide +kernel
theorem dX7_ownerOf_18 : decode cX7_ownerOf 18 = .ok (.iaload, 1) := by decide +kernel
theorem dX7_ownerOf_19 : decode cX7_ownerOf 19 = .ok (.goto 8, 3) := by decide +kernel
theorem dX7_ownerOf_22 : decode cX7_ownerOf 22 = .ok (.aload_n 0, 1) := by decide +kernel
theorem dX7_ownerOf_23 : decode cX7_ownerOf 23 = .ok (.iconst 1, 1) := by decide +kernel
theorem dX7_ownerOf_24 : decode cX7_ownerOf 24 = .ok (.invokevirtual 106, 3) := by decide +kernel
theorem dX7_ownerOf_27 : decode cX7_ownerOf 27 = .ok (.ireturn, 1) := by decide +kernel
def wpX7_ownerOf (post : Int32 → KS → Int64 → Prop) (M : KS) (ap : Int64) (p1 : Int32) : Prop := (wpX7_isCard (fun r1 => ((r1 = 0 → ((wpX7_fails (fun r3 M4 ap5 => post r3 M4 ap5) (k3 M 3 0 0 0) ap 1))) ∧ (¬ r1 = 0 → ((vp_in p1 40) ∧ (post ((k3 M 3 0 0 0) 16 7 p1.toNatClampNeg) (k3 M 3 0 0 0) ap))))) (k3 M 3 0 0 0) ap p1)
theorem hdX7_ownerOf : yX7_ownerOf.cls ≠ "java/lang/invoke/MethodHandle" ∧ yX7_ownerOf.cls ≠ "java/lang/invoke/VarHandle" ∧ (parseMethodDescriptor yX7_ownerOf.desc).map (fun d => d.parameters.length) = some 1 := by decide +kernel
set_option maxHeartbeats 4000000 in
set_option maxRecDepth 100000 in
theorem mtX7_ownerOf {l : Launch} {D : va_G} {cI : Nat → ClassId} {e0 : Nat} {A : Nat → Prop} {ad : Nat → Nat → Nat} {K M : KS} {ap o : Int64} {od : UInt64} {mc ms : Nat} {p1 : Int32} {post : Int32 → KS → Int64 → Prop} (h : wpX7_ownerOf post M ap p1) : CM l D cI e0 A yX7_ownerOf cX7_ownerOf 2 (some FieldType.int) 2 43 mc ms [.ref (ad 3 0), .int p1] (HT D cI e0 A ad K M ap o od) (qM D cI e0 A ad K o od rI post) xN := by
  refine CM.of (by decide) (Nat.le_of_ble_eq_true rfl) (fun p e s m below meth c ls FX hw hS hl => ?_)
  obtain ⟨S, hg, hr, hlk, hnm, hout⟩ := FX
  have hl : lv_has ls 2 [(0, .ref (ad 3 0)), (1, .int p1)] := hl
  unfold wpX7_ownerOf at h
  refine lv_aload_n S.1 S.2.1 dX7_ownerOf_0 rfl (lv_at hl 0 rfl) ?_
  refine lv_iconst (v := 0) S.1 S.2.1 dX7_ownerOf_1 (by decide) ?_
  refine p3_0 S hg hS hw u1044 dX7_ownerOf_2 (fun H locs hw hS => ?_)
  refine lv_aload_n S.1 S.2.1 dX7_ownerOf_5 rfl (lv_at hl 0 rfl) ?_
  refine lv_iload_n S.1 S.2.1 dX7_ownerOf_6 rfl (lv_at hl 1 rfl) ?_
  refine r_call (rest := []) S hg hS (mtX7_isCard (mc := 0) (ms := 0) h) u1191 u1193 u29 u49 u1194 hdX7_isCard (rv3 hg hw) hw ⟨Nat.le_of_ble_eq_true rfl, Nat.le_of_ble_eq_true rfl⟩ ⟨by show 0 + 0 ≤ mc; omega, by show 0 + 0 ≤ ms; omega⟩ hl.1 (Nat.le_of_ble_eq_true rfl) rfl dX7_ownerOf_7 (fun E ce q H1 locs1 hx hS1 hc1 hc2 hc3 => hx.elim) (fun rv H locs hq hS => ?_)
  obtain ⟨r1, rfl, h, hw⟩ := hq
  show W p l e _ s m _ below meth c H locs _ _ _ (F0 m 10 ls [.int r1])
  show W p l e _ s m _ below meth c H locs 0 0 _ _
  refine lv_if_eq (tgt := 22) S.1 S.2.1 dX7_ownerOf_10 (by decide) (fun c2 => ?_) (fun c2 => ?_)
  · have h := h.1 c2
    refine lv_aload_n S.1 S.2.1 dX7_ownerOf_22 rfl (lv_at hl 0 rfl) ?_
    refine lv_iconst (v := 1) S.1 S.2.1 dX7_ownerOf_23 (by decide) ?_
    refine r_call (rest := []) S hg hS (mtX7_fails (mc := 0) (ms := 0) h) u1171 u1173 u26 u49 u1174 hdX7_fails (rv3 hg hw) hw ⟨Nat.le_of_ble_eq_true rfl, Nat.le_of_ble_eq_true rfl⟩ ⟨by show 0 + 0 ≤ mc; omega, by show 0 + 0 ≤ ms; omega⟩ hl.1 (Nat.le_of_ble_eq_true rfl) rfl dX7_ownerOf_24 (fun E ce q H1 locs1 hx hS1 hc1 hc2 hc3 => hx.elim) (fun rv H locs hq hS => ?_)
    obtain ⟨r3, M4, ap5, rfl, h, hw⟩ := hq
    show W p l e _ s m _ below meth c H locs _ _ _ (F0 m 27 ls [.int r3])
    show W p l e _ s m _ below meth c H locs 0 0 _ _
    exact r_iret (y := yX7_ownerOf) S hr rfl hlk hS (by omega) (by omega) dX7_ownerOf_27 ⟨r3, _, _, rfl, h, hw⟩
  · have h := h.2 c2
    refine lv_aload_n S.1 S.2.1 dX7_ownerOf_13 rfl (lv_at hl 0 rfl) ?_
    refine g3_7 S hg hw u1051 dX7_ownerOf_14 ?_
    refine lv_iload_n S.1 S.2.1 dX7_ownerOf_17 rfl (lv_at hl 1 rfl) ?_
    obtain ⟨g6, h⟩ := h
    refine a16 S hg hw rfl g6 dX7_ownerOf_18 ?_
    refine lv_goto (tgt := 27) S.1 S.2.1 dX7_ownerOf_19 (by decide) ?_
    exact r_iret (y := yX7_ownerOf) S hr rfl hlk hS (by omega) (by omega) dX7_ownerOf_27 ⟨((k3 M 3 0 0 0) 16 7 p1.toNatClampNeg), _, _, rfl, h, hw⟩

-- X7.ownerByPostings
theorem dX7_ownerByPostings_0 : decode cX7_ownerByPostings 0 = .ok (.aload_n 0, 1) := by decide +kernel
theorem dX7_ownerByPostings_1 : decode cX7_ownerByPostings 1 = .ok (.iconst 0, 1) := by decide +kernel
theorem dX7_ownerByPostings_2 : decode cX7_ownerByPostings 2 = .ok (.putfield 98, 3) := by decide +kernel
theorem dX7_ownerByPostings_5 : decode cX7_ownerByPostings 5 = .ok (.aload_n 0, 1) := by decide +kernel
theorem dX7_ownerByPostings_6 : decode cX7_ownerByPostings 6 = .ok (.iload_n 1, 1) := by decide +kernel
theorem dX7_ownerByPostings_7 : decode cX7_ownerByPostings 7 = .ok (.invokevirtual 127, 3) := by decide +kernel
theorem dX7_ownerByPostings_10 : decode cX7_ownerByPostings 10 = .ok (.ifCond .ne 9, 3) := by decide +kernel
theorem dX7_ownerByPostings_13 : decode cX7_ownerByPostings 13 = .ok (.aload_n 0, 1) := by decide +kernel
theorem dX7_ownerByPostings_14 : decode cX7_ownerByPostings 14 = .ok (.iconst 1, 1) := by decide +kernel
theorem dX7_ownerByPostings_15 : decode cX7_ownerByPostings 15 = .ok (.invokevirtual 106, 3) := by decide +kernel
theorem dX7_ownerByPostings_18 : decode cX7_ownerByPostings 18 = .ok (.ireturn, 1) := by decide +kernel
theorem dX7_ownerByPostings_19 : decode cX7_ownerByPostings 19 = .ok (.iconst (-1), 1) := by decide +kernel
theorem dX7_ownerByPostings_20 : decode cX7_ownerByPostings 20 = .ok (.istore_n 2, 1) := by decide +kernel
theorem dX7_ownerByPostings_21 : decode cX7_ownerByPostings 21 = .ok (.iconst 0, 1) := by decide +kernel
theorem dX7_ownerByPostings_22 : decode cX7_ownerByPostings 22 = .ok (.istore_n 3, 1) := by decide +kernel
theorem dX7_ownerByPostings_23 : decode cX7_ownerByPostings 23 = .ok (.iload_n 3, 1) := by decide +kernel
theorem dX7_ownerByPostings_24 : decode cX7_ownerByPostings 24 = .ok (.aload_n 0, 1) := by decide +kernel
theorem dX7_ownerByPostings_25 : decode cX7_ownerByPostings 25 = .ok (.getfield 113, 3) := by decide +kernel
theorem dX7_ownerByPostings_28 : decode cX7_ownerByPostings 28 = .ok (.if_icmp .ge 36, 3) := by decide +kernel
theorem dX7_ownerByPostings_31 : decode cX7_ownerByPostings 31 = .ok (.aload_n 0, 1) := by decide +kernel
theorem dX7_ownerByPostings_32 : decode cX7_ownerByPostings 32 = .ok (.getfield 29, 3) := by decide +kernel
theorem dX7_ownerByPostings_35 : decode cX7_ownerByPostings 35 = .ok (.iconst 3, 1) := by decide +kernel
theorem dX7_ownerByPostings_36 : decode cX7_ownerByPostings 36 = .ok (.iload_n 3, 1) := by decide +kernel
theorem dX7_ownerByPostings_37 : decode cX7_ownerByPostings 37 = .ok (.imul, 1) := by decide +kernel
theorem dX7_ownerByPostings_38 : decode cX7_ownerByPostings 38 = .ok (.iaload, 1) := by decide +kernel
theorem dX7_ownerByPostings_39 : decode cX7_ownerByPostings 39 = .ok (.iload_n 1, 1) := by decide +kernel
theorem dX7_ownerByPostings_40 : decode cX7_ownerByPostings 40 = .ok (.if_icmp .ne 16, 3) := by decide +kernel
theorem dX7_ownerByPostings_43 : decode cX7_ownerByPostings 43 = .ok (.aload_n 0, 1) := by decide +kernel
theorem dX7_ownerByPostings_44 : decode cX7_ownerByPostings 44 = .ok (.getfield 29, 3) := by decide +kernel
theorem dX7_ownerByPostings_47 : decode cX7_ownerByPostings 47 = .ok (.iconst 3, 1) := by decide +kernel
theorem dX7_ownerByPostings_48 : decode cX7_ownerByPostings 48 = .ok (.iload_n 3, 1) := by decide +kernel
theorem dX7_ownerByPostings_49 : decode cX7_ownerByPostings 49 = .ok (.imul, 1) := by decide +kernel
theorem dX7_ownerByPostings_50 : decode cX7_ownerByPostings 50 = .ok (.iconst 2, 1) := by decide +kernel
theorem dX7_ownerByPostings_51 : decode cX7_ownerByPostings 51 = .ok (.iadd, 1) := by decide +kernel
theorem dX7_ownerByPostings_52 : decode cX7_ownerByPostings 52 = .ok (.iaload, 1) := by decide +kernel
theorem dX7_ownerByPostings_53 : decode cX7_ownerByPostings 53 = .ok (.goto 4, 3) := by decide +kernel
theorem dX7_ownerByPostings_56 : decode cX7_ownerByPostings 56 = .ok (.iload_n 2, 1) := by decide +kernel
theorem dX7_ownerByPostings_57 : decode cX7_ownerByPostings 57 = .ok (.istore_n 2, 1) := by decide +kernel
theorem dX7_ownerByPostings_58 : decode cX7_ownerByPostings 58 = .ok (.iinc 3 1, 3) := by decide +kernel
theorem dX7_ownerByPostings_61 : decode cX7_ownerByPostings 61 = .ok (.goto (-38), 3) := by decide +kernel
theorem dX7_ownerByPostings_64 : decode cX7_ownerByPostings 64 = .ok (.iload_n 2, 1) := by decide +kernel
theorem dX7_ownerByPostings_65 : decode cX7_ownerByPostings 65 = .ok (.ireturn, 1) := by decide +kernel
def wX7_ownerByPostings_57 (post : Int32 → KS → Int64 → Prop) (bk23 : Int32 → Int32 → Int32 → KS → Int64 → Prop) (l1 : Int32) (l3 : Int32) (t0 : Int32) (M : KS) (ap : Int64) : Prop := bk23 l1 t0 (l3 + 1) M ap
set_option maxHeartbeats 4000000 in
set_option maxRecDepth 100000 in
theorem bX7_ownerByPostings_57 {p : Program} {l : Launch} {e : Env} {s : State} {m : MethodId} {args : Array Value} {below : List Frame} {meth : Method} {c : Code} {D : va_G} {cI : Nat → ClassId} {e0 : Nat} {A : Nat → Prop} {ad : Nat → Nat → Nat} {K : KS} {o : Int64} {od : UInt64} {mc ms : Nat} {post : Int32 → KS → Int64 → Prop} {bk23 : Int32 → Int32 → Int32 → KS → Int64 → Prop} (S : CallFix p m c cX7_ownerByPostings 4 s args WU RX7) (hg : GI D cI e0 A s s.heap) (hr : meth.sig.returnType = (some FieldType.int)) (hlk : meth.locks = false) (hout : ∀ x ∈ c.exceptionTable.toList, False) (hbk23 : ∀ {H : Heap} {locs : List Loc} {ls : Array Slot} {l1 : Int32} {l2 : Int32} {l3 : Int32} {M : KS} {ap : Int64}, va_S A s.heap H locs → HT D cI e0 A ad K M ap o od H → lv_has ls 4 [(0, .ref (ad 3 0)), (1, .int l1), (2, .int l2), (3, .int l3)] → bk23 l1 l2 l3 M ap → W p l e ({ frames := 2, cells := mc, slots := ms, locals := 43 } : Room) s m args below meth c H locs 0 0 (MQQ below (qM D cI e0 A ad K o od rI post) xN args s mc ms A) (F0 m 23 ls [])) {H : Heap} {locs : List Loc} {ls : Array Slot} {l1 : Int32} {l3 : Int32} {t0 : Int32} {M : KS} {ap : Int64} (hS : va_S A s.heap H locs) (hw : HT D cI e0 A ad K M ap o od H) (hl : lv_has ls 4 [(0, .ref (ad 3 0)), (1, .int l1), (3, .int l3)]) (h : wX7_ownerByPostings_57 post bk23 l1 l3 t0 M ap) : W p l e ({ frames := 2, cells := mc, slots := ms, locals := 43 } : Room) s m args below meth c H locs 0 0 (MQQ below (qM D cI e0 A ad K o od rI post) xN args s mc ms A) (F0 m 57 ls [.int t0]) := by
  unfold wX7_ownerByPostings_57 at h
  refine lv_istore_n (lv' := [(2, .int t0), (0, .ref (ad 3 0)), (1, .int l1), (3, .int l3)]) S.1 S.2.1 dX7_ownerByPostings_57 rfl hl (by decide) rfl (fun ls hl => ?_)
  refine lv_iinc (v := l3 + 1) (lv' := [(3, .int (l3 + 1)), (2, .int t0), (0, .ref (ad 3 0)), (1, .int l1)]) S.1 S.2.1 dX7_ownerByPostings_58 hl (k := 3) rfl rfl (by decide) rfl (fun ls hl => ?_)
  refine lv_goto (tgt := 23) S.1 S.2.1 dX7_ownerByPostings_61 (by decide) ?_
  have hl := lv_sub hl (l' := [(0, .ref (ad 3 0)), (1, .int l1), (2, .int t0), (3, .int (l3 + 1))]) [2, 3, 1, 0] rfl
  exact hbk23 hS hw hl h
def wX7_ownerByPostings_23 (post : Int32 → KS → Int64 → Prop) : Nat → Int32 → Int32 → Int32 → KS → Int64 → Prop
  | 0 => fun _ _ _ _ _ => False
  | n + 1 => fun l1 l2 l3 M ap => (((M 3 11 0) ≤ l3 → (post l2 M ap)) ∧ (¬ (M 3 11 0) ≤ l3 → ((vp_in (3 * l3) 12000) ∧ (((¬ (M 16 12 ((3 * l3).toNatClampNeg)) = l1 → (wX7_ownerByPostings_57 post (wX7_ownerByPostings_23 post n) l1 l3 l2 M ap)) ∧ ((M 16 12 ((3 * l3).toNatClampNeg)) = l1 → ((vp_in ((3 * l3) + 2) 12000) ∧ (wX7_ownerByPostings_57 post (wX7_ownerByPostings_23 post n) l1 l3 (M 16 12 (((3 * l3) + 2).toNatClampNeg)) M ap))))))))
set_option maxHeartbeats 4000000 in
set_option maxRecDepth 100000 in
theorem bX7_ownerByPostings_23 {p : Program} {l : Launch} {e : Env} {s : State} {m : MethodId} {args : Array Value} {below : List Frame} {meth : Method} {c : Code} {D : va_G} {cI : Nat → ClassId} {e0 : Nat} {A : Nat → Prop} {ad : Nat → Nat → Nat} {K : KS} {o : Int64} {od : UInt64} {mc ms : Nat} {post : Int32 → KS → Int64 → Prop} (S : CallFix p m c cX7_ownerByPostings 4 s args WU RX7) (hg : GI D cI e0 A s s.heap) (hr : meth.sig.returnType = (some FieldType.int)) (hlk : meth.locks = false) (hout : ∀ x ∈ c.exceptionTable.toList, False) : ∀ n : Nat, ∀ {H : Heap} {locs : List Loc} {ls : Array Slot} {l1 : Int32} {l2 : Int32} {l3 : Int32} {M : KS} {ap : Int64}, va_S A s.heap H locs → HT D cI e0 A ad K M ap o od H → lv_has ls 4 [(0, .ref (ad 3 0)), (1, .int l1), (2, .int l2), (3, .int l3)] → wX7_ownerByPostings_23 post n l1 l2 l3 M ap → W p l e ({ frames := 2, cells := mc, slots := ms, locals := 43 } : Room) s m args below meth c H locs 0 0 (MQQ below (qM D cI e0 A ad K o od rI post) xN args s mc ms A) (F0 m 23 ls []) := by
  intro n
  induction n with
  | zero => intros; exact False.elim (by assumption)
  | succ n ih =>
    intro H locs ls l1 l2 l3 M ap hS hw hl h
    unfold wX7_ownerByPostings_23 at h
    refine lv_iload_n S.1 S.2.1 dX7_ownerByPostings_23 rfl (lv_at hl 3 rfl) ?_
    refine lv_aload_n S.1 S.2.1 dX7_ownerByPostings_24 rfl (lv_at hl 0 rfl) ?_
    refine g3_11 S hg hw u1055 dX7_ownerByPostings_25 ?_
    refine lv_icmp_ge (tgt := 64) S.1 S.2.1 dX7_ownerByPostings_28 (by decide) (fun c3 => ?_) (fun c3 => ?_)
    · have h := h.1 c3
      refine lv_iload_n S.1 S.2.1 dX7_ownerByPostings_64 rfl (lv_at hl 2 rfl) ?_
      exact r_iret (y := yX7_ownerByPostings) S hr rfl hlk hS (by omega) (by omega) dX7_ownerByPostings_65 ⟨l2, _, _, rfl, h, hw⟩
    · have h := h.2 c3
      refine lv_aload_n S.1 S.2.1 dX7_ownerByPostings_31 rfl (lv_at hl 0 rfl) ?_
      refine g3_12 S hg hw u1056 dX7_ownerByPostings_32 ?_
      refine lv_iconst (v := 3) S.1 S.2.1 dX7_ownerByPostings_35 (by decide) ?_
      refine lv_iload_n S.1 S.2.1 dX7_ownerByPostings_36 rfl (lv_at hl 3 rfl) ?_
      refine lv_imul S.1 S.2.1 dX7_ownerByPostings_37 ?_
      obtain ⟨g4, h⟩ := h
      refine a16 S hg hw rfl g4 dX7_ownerByPostings_38 ?_
      refine lv_iload_n S.1 S.2.1 dX7_ownerByPostings_39 rfl (lv_at hl 1 rfl) ?_
      refine lv_icmp_ne (tgt := 56) S.1 S.2.1 dX7_ownerByPostings_40 (by decide) (fun c5 => ?_) (fun c5 => ?_)
      · have h := h.1 c5
        refine lv_iload_n S.1 S.2.1 dX7_ownerByPostings_56 rfl (lv_at hl 2 rfl) ?_
        have hl := lv_sub hl (l' := [(0, .ref (ad 3 0)), (1, .int l1), (3, .int l3)]) [0, 1, 3] rfl
        exact bX7_ownerByPostings_57 S hg hr hlk hout ih hS hw hl h
      · have h := h.2 c5
        refine lv_aload_n S.1 S.2.1 dX7_ownerByPostings_43 rfl (lv_at hl 0 rfl) ?_
        refine g3_12 S hg hw u1056 dX7_ownerByPostings_44 ?_
        refine lv_iconst (v := 3) S.1 S.2.1 dX7_ownerByPostings_47 (by decide) ?_
        refine lv_iload_n S.1 S.2.1 dX7_ownerByPostings_48 rfl (lv_at hl 3 rfl) ?_
        refine lv_imul S.1 S.2.1 dX7_ownerByPostings_49 ?_
        refine lv_iconst (v := 2) S.1 S.2.1 dX7_ownerByPostings_50 (by decide) ?_
        refine lv_iadd S.1 S.2.1 dX7_ownerByPostings_51 ?_
        obtain ⟨g6, h⟩ := h
        refine a16 S hg hw rfl g6 dX7_ownerByPostings_52 ?_
        refine lv_goto (tgt := 57) S.1 S.2.1 dX7_ownerByPostings_53 (by decide) ?_
        have hl := lv_sub hl (l' := [(0, .ref (ad 3 0)), (1, .int l1), (3, .int l3)]) [0, 1, 3] rfl
        exact bX7_ownerByPostings_57 S hg hr hlk hout ih hS hw hl h
def wpX7_ownerByPostings (post : Int32 → KS → Int64 → Prop) (M : KS) (ap : Int64) (p1 : Int32) : Prop := (wpX7_isCard (fun r1 => ((¬ r1 = 0 → (∃ n1 : Nat, wX7_ownerByPostings_23 post n1 p1 (-1) 0 (k3 M 3 0 0 0) ap)) ∧ (r1 = 0 → ((wpX7_fails (fun r7 M8 ap9 => post r7 M8 ap9) (k3 M 3 0 0 0) ap 1))))) (k3 M 3 0 0 0) ap p1)
theorem hdX7_ownerByPostings : yX7_ownerByPostings.cls ≠ "java/lang/invoke/MethodHandle" ∧ yX7_ownerByPostings.cls ≠ "java/lang/invoke/VarHandle" ∧ (parseMethodDescriptor yX7_ownerByPostings.desc).map (fun d => d.parameters.length) = some 1 := by decide +kernel
set_option maxHeartbeats 4000000 in
set_option maxRecDepth 100000 in
theorem mtX7_ownerByPostings {l : Launch} {D : va_G} {cI : Nat → ClassId} {e0 : Nat} {A : Nat → Prop} {ad : Nat → Nat → Nat} {K M : KS} {ap o : Int64} {od : UInt64} {mc ms : Nat} {p1 : Int32} {post : Int32 → KS → Int64 → Prop} (h : wpX7_ownerByPostings post M ap p1) : CM l D cI e0 A yX7_ownerByPostings cX7_ownerByPostings 4 (some FieldType.int) 2 43 mc ms [.ref (ad 3 0), .int p1] (HT D cI e0 A ad K M ap o od) (qM D cI e0 A ad K o od rI post) xN := by
  refine CM.of (by decide) (Nat.le_of_ble_eq_true rfl) (fun p e s m below meth c ls FX hw hS hl => ?_)
  obtain ⟨S, hg, hr, hlk, hnm, hout⟩ := FX
  have hl : lv_has ls 4 [(0, .ref (ad 3 0)), (1, .int p1)] := hl
  unfold wpX7_ownerByPostings at h
  refine lv_aload_n S.1 S.2.1 dX7_ownerByPostings_0 rfl (lv_at hl 0 rfl) ?_
  refine lv_iconst (v := 0) S.1 S.2.1 dX7_ownerByPostings_1 (by decide) ?_
  refine p3_0 S hg hS hw u1044 dX7_ownerByPostings_2 (fun H locs hw hS => ?_)
  refine lv_aload_n S.1 S.2.1 dX7_ownerByPostings_5 rfl (lv_at hl 0 rfl) ?_
  refine lv_iload_n S.1 S.2.1 dX7_ownerByPostings_6 rfl (lv_at hl 1 rfl) ?_
  refine r_call (rest := []) S hg hS (mtX7_isCard (mc := 0) (ms := 0) h) u1191 u1193 u29 u49 u1194 hdX7_isCard (rv3 hg hw) hw ⟨Nat.le_of_ble_eq_true rfl, Nat.le_of_ble_eq_true rfl⟩ ⟨by show 0 + 0 ≤ mc; omega, by show 0 + 0 ≤ ms; omega⟩ hl.1 (Nat.le_of_ble_eq_true rfl) rfl dX7_ownerByPostings_7 (fun E ce q H1 locs1 hx hS1 hc1 hc2 hc3 => hx.elim) (fun rv H locs hq hS => ?_)
  obtain ⟨r1, rfl, h, hw⟩ := hq
  show W p l e _ s m _ below meth c H locs _ _ _ (F0 m 10 ls [.int r1])
  show W p l e _ s m _ below meth c H locs 0 0 _ _
  refine lv_if_ne (tgt := 19) S.1 S.2.1 dX7_ownerByPostings_10 (by decide) (fun c2 => ?_) (fun c2 => ?_)
  · have h := h.1 c2
    refine lv_iconst (v := (-1)) S.1 S.2.1 dX7_ownerByPostings_19 (by decide) ?_
    refine lv_istore_n (lv' := [(2, .int (-1)), (0, .ref (ad 3 0)), (1, .int p1)]) S.1 S.2.1 dX7_ownerByPostings_20 rfl hl (by decide) rfl (fun ls hl => ?_)
    refine lv_iconst (v := 0) S.1 S.2.1 dX7_ownerByPostings_21 (by decide) ?_
    refine lv_istore_n (lv' := [(3, .int 0), (2, .int (-1)), (0, .ref (ad 3 0)), (1, .int p1)]) S.1 S.2.1 dX7_ownerByPostings_22 rfl hl (by decide) rfl (fun ls hl => ?_)
    have hl := lv_sub hl (l' := [(0, .ref (ad 3 0)), (1, .int p1), (2, .int (-1)), (3, .int 0)]) [2, 3, 1, 0] rfl
    obtain ⟨n1, h⟩ := h
    exact bX7_ownerByPostings_23 S hg hr hlk hout n1 hS hw hl h
  · have h := h.2 c2
    refine lv_aload_n S.1 S.2.1 dX7_ownerByPostings_13 rfl (lv_at hl 0 rfl) ?_
    refine lv_iconst (v := 1) S.1 S.2.1 dX7_ownerByPostings_14 (by decide) ?_
    refine r_call (rest := []) S hg hS (mtX7_fails (mc := 0) (ms := 0) h) u1171 u1173 u26 u49 u1174 hdX7_fails (rv3 hg hw) hw ⟨Nat.le_of_ble_eq_true rfl, Nat.le_of_ble_eq_true rfl⟩ ⟨by show 0 + 0 ≤ mc; omega, by show 0 + 0 ≤ ms; omega⟩ hl.1 (Nat.le_of_ble_eq_true rfl) rfl dX7_ownerByPostings_15 (fun E ce q H1 locs1 hx hS1 hc1 hc2 hc3 => hx.elim) (fun rv H locs hq hS => ?_)
    obtain ⟨r7, M8, ap9, rfl, h, hw⟩ := hq
    show W p l e _ s m _ below meth c H locs _ _ _ (F0 m 18 ls [.int r7])
    show W p l e _ s m _ below meth c H locs 0 0 _ _
    exact r_iret (y := yX7_ownerByPostings) S hr rfl hlk hS (by omega) (by omega) dX7_ownerByPostings_18 ⟨r7, _, _, rfl, h, hw⟩

-- X7.stateOf
theorem dX7_stateOf_0 : decode cX7_stateOf 0 = .ok (.aload_n 0, 1) := by decide +kernel
theorem dX7_stateOf_1 : decode cX7_stateOf 1 = .ok (.iconst 0, 1) := by decide +kernel
theorem dX7_stateOf_2 : decode cX7_stateOf 2 = .ok (.putfield 98, 3) := by decide +kernel
theorem dX7_stateOf_5 : decode cX7_stateOf 5 = .ok (.aload_n 0, 1) := by decide +kernel
theorem dX7_stateOf_6 : decode cX7_stateOf 6 = .ok (.iload_n 1, 1) := by decide +kernel
theorem dX7_stateOf_7 : decode cX7_stateOf 7 = .ok (.invokevirtual 127, 3) := by decide +kernel
theorem dX7_stateOf_10 : decode cX7_stateOf 10 = .ok (.ifCond .eq 12, 3) := by decide +kernel
theorem dX7_stateOf_13 : decode cX7_stateOf 13 = .ok (.aload_n 0, 1) := by decide +kernel
theorem dX7_stateOf_14 : decode cX7_stateOf 14 = .ok (.getfield 19, 3) := by decide +kernel
theorem dX7_stateOf_17 : decode cX7_stateOf 17 = .ok (.iload_n 1, 1) := by decide +kernel
theorem dX7_stateOf_18 : decode cX7_stateOf 18 = .ok (.caload, 1) := by decide +kernel
theorem dX7_stateOf_19 : decode cX7_stateOf 19 = .ok (.goto 8, 3) := by decide +kernel
theorem dX7_stateOf_22 : decode cX7_stateOf 22 = .ok (.aload_n 0, 1) := by decide +kernel
theorem dX7_stateOf_23 : decode cX7_stateOf 23 = .ok (.iconst 1, 1) := by decide +kernel
theorem dX7_stateOf_24 : decode cX7_stateOf 24 = .ok (.invokevirtual 130, 3) := by decide +kernel
theorem dX7_stateOf_27 : decode cX7_stateOf 27 = .ok (.ireturn, 1) := by decide +kernel
def wpX7_stateOf (post : Int32 → KS → Int64 → Prop) (M : KS) (ap : Int64) (p1 : Int32) : Prop := (wpX7_isCard (fun r1 => ((r1 = 0 → ((wpX7_failsChar (fun r3 M4 ap5 => (narrow .char (.int r3) = .int r3) ∧ post r3 M4 ap5) (k3 M 3 0 0 0) ap 1))) ∧ (¬ r1 = 0 → ((vp_in p1 40) ∧ ((narrow .char (.int ((k3 M 3 0 0 0) 13 8 p1.toNatClampNeg)) = .int ((k3 M 3 0 0 0) 13 8 p1.toNatClampNeg)) ∧ post ((k3 M 3 0 0 0) 13 8 p1.toNatClampNeg) (k3 M 3 0 0 0) ap))))) (k3 M 3 0 0 0) ap p1)
theorem hdX7_stateOf : yX7_stateOf.cls ≠ "java/lang/invoke/MethodHandle" ∧ yX7_stateOf.cls ≠ "java/lang/invoke/VarHandle" ∧ (parseMethodDescriptor yX7_stateOf.desc).map (fun d => d.parameters.length) = some 1 := by decide +kernel
set_option maxHeartbeats 4000000 in
set_option maxRecDepth 100000 in
theorem mtX7_stateOf {l : Launch} {D : va_G} {cI : Nat → ClassId} {e0 : Nat} {A : Nat → Prop} {ad : Nat → Nat → Nat} {K M : KS} {ap o : Int64} {od : UInt64} {mc ms : Nat} {p1 : Int32} {post : Int32 → KS → Int64 → Prop} (h : wpX7_stateOf post M ap p1) : CM l D cI e0 A yX7_stateOf cX7_stateOf 2 (some FieldType.char) 2 43 mc ms [.ref (ad 3 0), .int p1] (HT D cI e0 A ad K M ap o od) (qM D cI e0 A ad K o od rI post) xN := by
  refine CM.of (by decide) (Nat.le_of_ble_eq_true rfl) (fun p e s m below meth c ls FX hw hS hl => ?_)
  obtain ⟨S, hg, hr, hlk, hnm, hout⟩ := FX
  have hl : lv_has ls 2 [(0, .ref (ad 3 0)), (1, .int p1)] := hl
  unfold wpX7_stateOf at h
  refine lv_aload_n S.1 S.2.1 dX7_stateOf_0 rfl (lv_at hl 0 rfl) ?_
  refine lv_iconst (v := 0) S.1 S.2.1 dX7_stateOf_1 (by decide) ?_
  refine p3_0 S hg hS hw u1044 dX7_stateOf_2 (fun H locs hw hS => ?_)
  refine lv_aload_n S.1 S.2.1 dX7_stateOf_5 rfl (lv_at hl 0 rfl) ?_
  refine lv_iload_n S.1 S.2.1 dX7_stateOf_6 rfl (lv_at hl 1 rfl) ?_
  refine r_call (rest := []) S hg hS (mtX7_isCard (mc := 0) (ms := 0) h) u1191 u1193 u29 u49 u1194 hdX7_isCard (rv3 hg hw) hw ⟨Nat.le_of_ble_eq_true rfl, Nat.le_of_ble_eq_true rfl⟩ ⟨by show 0 + 0 ≤ mc; omega, by show 0 + 0 ≤ ms; omega⟩ hl.1 (Nat.le_of_ble_eq_true rfl) rfl dX7_stateOf_7 (fun E ce q H1 locs1 hx hS1 hc1 hc2 hc3 => hx.elim) (fun rv H locs hq hS => ?_)
  obtain ⟨r1, rfl, h, hw⟩ := hq
  show W p l e _ s m _ below meth c H locs _ _ _ (F0 m 10 ls [.int r1])
  show W p l e _ s m _ below meth c H locs 0 0 _ _
  refine lv_if_eq (tgt := 22) S.1 S.2.1 dX7_stateOf_10 (by decide) (fun c2 => ?_) (fun c2 => ?_)
  · have h := h.1 c2
    refine lv_aload_n S.1 S.2.1 dX7_stateOf_22 rfl (lv_at hl 0 rfl) ?_
    refine lv_iconst (v := 1) S.1 S.2.1 dX7_stateOf_23 (by decide) ?_
    refine r_call (rest := []) S hg hS (mtX7_failsChar (mc := 0) (ms := 0) h) u1203 u1205 u30 u49 u1206 hdX7_failsChar (rv3 hg hw) hw ⟨Nat.le_of_ble_eq_true rfl, Nat.le_of_ble_eq_true rfl⟩ ⟨by show 0 + 0 ≤ mc; omega, by show 0 + 0 ≤ ms; omega⟩ hl.1 (Nat.le_of_ble_eq_true rfl) rfl dX7_stateOf_24 (fun E ce q H1 locs1 hx hS1 hc1 hc2 hc3 => hx.elim) (fun rv H locs hq hS => ?_)
    obtain ⟨r3, M4, ap5, rfl, h, hw⟩ := hq
    show W p l e _ s m _ below meth c H locs _ _ _ (F0 m 27 ls [.int r3])
    show W p l e _ s m _ below meth c H locs 0 0 _ _
    obtain ⟨g6, h⟩ := h
    exact r_iret (y := yX7_stateOf) S hr g6 hlk hS (by omega) (by omega) dX7_stateOf_27 ⟨r3, _, _, rfl, h, hw⟩
  · have h := h.2 c2
    refine lv_aload_n S.1 S.2.1 dX7_stateOf_13 rfl (lv_at hl 0 rfl) ?_
    refine g3_8 S hg hw u1052 dX7_stateOf_14 ?_
    refine lv_iload_n S.1 S.2.1 dX7_stateOf_17 rfl (lv_at hl 1 rfl) ?_
    obtain ⟨g7, h⟩ := h
    refine a13 S hg hw rfl g7 dX7_stateOf_18 ?_
    refine lv_goto (tgt := 27) S.1 S.2.1 dX7_stateOf_19 (by decide) ?_
    obtain ⟨g8, h⟩ := h
    exact r_iret (y := yX7_stateOf) S hr g8 hlk hS (by omega) (by omega) dX7_stateOf_27 ⟨((k3 M 3 0 0 0) 13 8 p1.toNatClampNeg), _, _, rfl, h, hw⟩

-- X7.cardsOf
theorem dX7_cardsOf_0 : decode cX7_cardsOf 0 = .ok (.aload_n 0, 1) := by decide +kernel
theorem dX7_cardsOf_1 : decode cX7_cardsOf 1 = .ok (.iconst 0, 1) := by decide +kernel
theorem dX7_cardsOf_2 : decode cX7_cardsOf 2 = .ok (.putfield 98, 3) := by decide +kernel
theorem dX7_cardsOf_5 : decode cX7_cardsOf 5 = .ok (.aload_n 0, 1) := by decide +kernel
theorem dX7_cardsOf_6 : decode cX7_cardsOf 6 = .ok (.iload_n 1, 1) := by decide +kernel
theorem dX7_cardsOf_7 : decode cX7_cardsOf 7 = .ok (.invokevirtual 116, 3) := by decide +kernel
theorem dX7_cardsOf_10 : decode cX7_cardsOf 10 = .ok (.ifCond .ne 9, 3) := by decide +kernel
theorem dX7_cardsOf_13 : decode cX7_cardsOf 13 = .ok (.aload_n 0, 1) := by decide +kernel
theorem dX7_cardsOf_14 : decode cX7_cardsOf 14 = .ok (.iconst 1, 1) := by decide +kernel
theorem dX7_cardsOf_15 : decode cX7_cardsOf 15 = .ok (.invokevirtual 106, 3) := by decide +kernel
theorem dX7_cardsOf_18 : decode cX7_cardsOf 18 = .ok (.ireturn, 1) := by decide +kernel
theorem dX7_cardsOf_19 : decode cX7_cardsOf 19 = .ok (.iconst 0, 1) := by decide +kernel
theorem dX7_cardsOf_20 : decode cX7_cardsOf 20 = .ok (.istore_n 2, 1) := by decide +kernel
theorem dX7_cardsOf_21 : decode cX7_cardsOf 21 = .ok (.iconst 0, 1) := by decide +kernel
theorem dX7_cardsOf_22 : decode cX7_cardsOf 22 = .ok (.istore_n 3, 1) := by decide +kernel
theorem dX7_cardsOf_23 : decode cX7_cardsOf 23 = .ok (.iload_n 3, 1) := by decide +kernel
theorem dX7_cardsOf_24 : decode cX7_cardsOf 24 = .ok (.aload_n 0, 1) := by decide +kernel
theorem dX7_cardsOf_25 : decode cX7_cardsOf 25 = .ok (.getfield 120, 3) := by decide +kernel
theorem dX7_cardsOf_28 : decode cX7_cardsOf 28 = .ok (.if_icmp .ge 27, 3) := by decide +kernel
theorem dX7_cardsOf_31 : decode cX7_cardsOf 31 = .ok (.iload_n 2, 1) := by decide +kernel
theorem dX7_cardsOf_32 : decode cX7_cardsOf 32 = .ok (.aload_n 0, 1) := by decide +kernel
theorem dX7_cardsOf_33 : decode cX7_cardsOf 33 = .ok (.getfield 16, 3) := by decide +kernel
theorem dX7_cardsOf_36 : decode cX7_cardsOf 36 = .ok (.iload_n 3, 1) := by decide +kernel
theorem dX7_cardsOf_37 : decode cX7_cardsOf 37 = .ok (.iaload, 1) := by decide +kernel
theorem dX7_cardsOf_38 : decode cX7_cardsOf 38 = .ok (.iload_n 1, 1) := by decide +kernel
theorem dX7_cardsOf_39 : decode cX7_cardsOf 39 = .ok (.if_icmp .ne 7, 3) := by decide +kernel
theorem dX7_cardsOf_42 : decode cX7_cardsOf 42 = .ok (.iconst 1, 1) := by decide +kernel
theorem dX7_cardsOf_43 : decode cX7_cardsOf 43 = .ok (.goto 4, 3) := by decide +kernel
theorem dX7_cardsOf_46 : decode cX7_cardsOf 46 = .ok (.iconst 0, 1) := by decide +kernel
theorem dX7_cardsOf_47 : decode cX7_cardsOf 47 = .ok (.iadd, 1) := by decide +kernel
theorem dX7_cardsOf_48 : decode cX7_cardsOf 48 = .ok (.istore_n 2, 1) := by decide +kernel
theorem dX7_cardsOf_49 : decode cX7_cardsOf 49 = .ok (.iinc 3 1, 3) := by decide +kernel
theorem dX7_cardsOf_52 : decode cX7_cardsOf 52 = .ok (.goto (-29), 3) := by decide +kernel
theorem dX7_cardsOf_55 : decode cX7_cardsOf 55 = .ok (.iload_n 2, 1) := by decide +kernel
theorem dX7_cardsOf_56 : decode cX7_cardsOf 56 = .ok (.ireturn, 1) := by decide +kernel
def wX7_cardsOf_47 (post : Int32 → KS → Int64 → Prop) (bk23 : Int32 → Int32 → Int32 → KS → Int64 → Prop) (l1 : Int32) (l3 : Int32) (t0 : Int32) (t1 : Int32) (M : KS) (ap : Int64) : Prop := bk23 l1 (t1 + t0) (l3 + 1) M ap
set_option maxHeartbeats 4000000 in
set_option maxRecDepth 100000 in
theorem bX7_cardsOf_47 {p : Program} {l : Launch} {e : Env} {s : State} {m : MethodId} {args : Array Value} {below : List Frame} {meth : Method} {c : Code} {D : va_G} {cI : Nat → ClassId} {e0 : Nat} {A : Nat → Prop} {ad : Nat → Nat → Nat} {K : KS} {o : Int64} {od : UInt64} {mc ms : Nat} {post : Int32 → KS → Int64 → Prop} {bk23 : Int32 → Int32 → Int32 → KS → Int64 → Prop} (S : CallFix p m c cX7_cardsOf 4 s args WU RX7) (hg : GI D cI e0 A s s.heap) (hr : meth.sig.returnType = (some FieldType.int)) (hlk : meth.locks = false) (hout : ∀ x ∈ c.exceptionTable.toList, False) (hbk23 : ∀ {H : Heap} {locs : List Loc} {ls : Array Slot} {l1 : Int32} {l2 : Int32} {l3 : Int32} {M : KS} {ap : Int64}, va_S A s.heap H locs → HT D cI e0 A ad K M ap o od H → lv_has ls 4 [(0, .ref (ad 3 0)), (1, .int l1), (2, .int l2), (3, .int l3)] → bk23 l1 l2 l3 M ap → W p l e ({ frames := 2, cells := mc, slots := ms, locals := 43 } : Room) s m args below meth c H locs 0 0 (MQQ below (qM D cI e0 A ad K o od rI post) xN args s mc ms A) (F0 m 23 ls [])) {H : Heap} {locs : List Loc} {ls : Array Slot} {l1 : Int32} {l3 : Int32} {t0 : Int32} {t1 : Int32} {M : KS} {ap : Int64} (hS : va_S A s.heap H locs) (hw : HT D cI e0 A ad K M ap o od H) (hl : lv_has ls 4 [(0, .ref (ad 3 0)), (1, .int l1), (3, .int l3)]) (h : wX7_cardsOf_47 post bk23 l1 l3 t0 t1 M ap) : W p l e ({ frames := 2, cells := mc, slots := ms, locals := 43 } : Room) s m args below meth c H locs 0 0 (MQQ below (qM D cI e0 A ad K o od rI post) xN args s mc ms A) (F0 m 47 ls [.int t0, .int t1]) := by
  unfold wX7_cardsOf_47 at h
  refine lv_iadd S.1 S.2.1 dX7_cardsOf_47 ?_
  refine lv_istore_n (lv' := [(2, .int (t1 + t0)), (0, .ref (ad 3 0)), (1, .int l1), (3, .int l3)]) S.1 S.2.1 dX7_cardsOf_48 rfl hl (by decide) rfl (fun ls hl => ?_)
  refine lv_iinc (v := l3 + 1) (lv' := [(3, .int (l3 + 1)), (2, .int (t1 + t0)), (0, .ref (ad 3 0)), (1, .int l1)]) S.1 S.2.1 dX7_cardsOf_49 hl (k := 3) rfl rfl (by decide) rfl (fun ls hl => ?_)
  refine lv_goto (tgt := 23) S.1 S.2.1 dX7_cardsOf_52 (by decide) ?_
  have hl := lv_sub hl (l' := [(0, .ref (ad 3 0)), (1, .int l1), (2, .int (t1 + t0)), (3, .int (l3 + 1))]) [2, 3, 1, 0] rfl
  exact hbk23 hS hw hl h
def wX7_cardsOf_23 (post : Int32 → KS → Int64 → Prop) : Nat → Int32 → Int32 → Int32 → KS → Int64 → Prop
  | 0 => fun _ _ _ _ _ => False
  | n + 1 => fun l1 l2 l3 M ap => (((M 3 5 0) ≤ l3 → (post l2 M ap)) ∧ (¬ (M 3 5 0) ≤ l3 → ((vp_in l3 40) ∧ (((¬ (M 16 7 l3.toNatClampNeg) = l1 → (wX7_cardsOf_47 post (wX7_cardsOf_23 post n) l1 l3 0 l2 M ap)) ∧ ((M 16 7 l3.toNatClampNeg) = l1 → (wX7_cardsOf_47 post (wX7_cardsOf_23 post n) l1 l3 1 l2 M ap)))))))
set_option maxHeartbeats 4000000 in
set_option maxRecDepth 100000 in
theorem bX7_cardsOf_23 {p : Program} {l : Launch} {e : Env} {s : State} {m : MethodId} {args : Array Value} {below : List Frame} {meth : Method} {c : Code} {D : va_G} {cI : Nat → ClassId} {e0 : Nat} {A : Nat → Prop} {ad : Nat → Nat → Nat} {K : KS} {o : Int64} {od : UInt64} {mc ms : Nat} {post : Int32 → KS → Int64 → Prop} (S : CallFix p m c cX7_cardsOf 4 s args WU RX7) (hg : GI D cI e0 A s s.heap) (hr : meth.sig.returnType = (some FieldType.int)) (hlk : meth.locks = false) (hout : ∀ x ∈ c.exceptionTable.toList, False) : ∀ n : Nat, ∀ {H : Heap} {locs : List Loc} {ls : Array Slot} {l1 : Int32} {l2 : Int32} {l3 : Int32} {M : KS} {ap : Int64}, va_S A s.heap H locs → HT D cI e0 A ad K M ap o od H → lv_has ls 4 [(0, .ref (ad 3 0)), (1, .int l1), (2, .int l2), (3, .int l3)] → wX7_cardsOf_23 post n l1 l2 l3 M ap → W p l e ({ frames := 2, cells := mc, slots := ms, locals := 43 } : Room) s m args below meth c H locs 0 0 (MQQ below (qM D cI e0 A ad K o od rI post) xN args s mc ms A) (F0 m 23 ls []) := by
  intro n
  induction n with
  | zero => intros; exact False.elim (by assumption)
  | succ n ih =>
    intro H locs ls l1 l2 l3 M ap hS hw hl h
    unfold wX7_cardsOf_23 at h
    refine lv_iload_n S.1 S.2.1 dX7_cardsOf_23 rfl (lv_at hl 3 rfl) ?_
    refine lv_aload_n S.1 S.2.1 dX7_cardsOf_24 rfl (lv_at hl 0 rfl) ?_
    refine g3_5 S hg hw u1049 dX7_cardsOf_25 ?_
    refine lv_icmp_ge (tgt := 55) S.1 S.2.1 dX7_cardsOf_28 (by decide) (fun c3 => ?_) (fun c3 => ?_)
    · have h := h.1 c3
      refine lv_iload_n S.1 S.2.1 dX7_cardsOf_55 rfl (lv_at hl 2 rfl) ?_
      exact r_iret (y := yX7_cardsOf) S hr rfl hlk hS (by omega) (by omega) dX7_cardsOf_56 ⟨l2, _, _, rfl, h, hw⟩
    · have h := h.2 c3
      refine lv_iload_n S.1 S.2.1 dX7_cardsOf_31 rfl (lv_at hl 2 rfl) ?_
      refine lv_aload_n S.1 S.2.1 dX7_cardsOf_32 rfl (lv_at hl 0 rfl) ?_
      refine g3_7 S hg hw u1051 dX7_cardsOf_33 ?_
      refine lv_iload_n S.1 S.2.1 dX7_cardsOf_36 rfl (lv_at hl 3 rfl) ?_
      obtain ⟨g4, h⟩ := h
      refine a16 S hg hw rfl g4 dX7_cardsOf_37 ?_
      refine lv_iload_n S.1 S.2.1 dX7_cardsOf_38 rfl (lv_at hl 1 rfl) ?_
      refine lv_icmp_ne (tgt := 46) S.1 S.2.1 dX7_cardsOf_39 (by decide) (fun c5 => ?_) (fun c5 => ?_)
      · have h := h.1 c5
        refine lv_iconst (v := 0) S.1 S.2.1 dX7_cardsOf_46 (by decide) ?_
        have hl := lv_sub hl (l' := [(0, .ref (ad 3 0)), (1, .int l1), (3, .int l3)]) [0, 1, 3] rfl
        exact bX7_cardsOf_47 S hg hr hlk hout ih hS hw hl h
      · have h := h.2 c5
        refine lv_iconst (v := 1) S.1 S.2.1 dX7_cardsOf_42 (by decide) ?_
        refine lv_goto (tgt := 47) S.1 S.2.1 dX7_cardsOf_43 (by decide) ?_
        have hl := lv_sub hl (l' := [(0, .ref (ad 3 0)), (1, .int l1), (3, .int l3)]) [0, 1, 3] rfl
        exact bX7_cardsOf_47 S hg hr hlk hout ih hS hw hl h
def wpX7_cardsOf (post : Int32 → KS → Int64 → Prop) (M : KS) (ap : Int64) (p1 : Int32) : Prop := (wpX7_isPlayer (fun r1 => ((¬ r1 = 0 → (∃ n1 : Nat, wX7_cardsOf_23 post n1 p1 0 0 (k3 M 3 0 0 0) ap)) ∧ (r1 = 0 → ((wpX7_fails (fun r6 M7 ap8 => post r6 M7 ap8) (k3 M 3 0 0 0) ap 1))))) (k3 M 3 0 0 0) ap p1)
theorem hdX7_cardsOf : yX7_cardsOf.cls ≠ "java/lang/invoke/MethodHandle" ∧ yX7_cardsOf.cls ≠ "java/lang/invoke/VarHandle" ∧ (parseMethodDescriptor yX7_cardsOf.desc).map (fun d => d.parameters.length) = some 1 := by decide +kernel
set_option maxHeartbeats 4000000 in
set_option maxRecDepth 100000 in
theorem mtX7_cardsOf {l : Launch} {D : va_G} {cI : Nat → ClassId} {e0 : Nat} {A : Nat → Prop} {ad : Nat → Nat → Nat} {K M : KS} {ap o : Int64} {od : UInt64} {mc ms : Nat} {p1 : Int32} {post : Int32 → KS → Int64 → Prop} (h : wpX7_cardsOf post M ap p1) : CM l D cI e0 A yX7_cardsOf cX7_cardsOf 4 (some FieldType.int) 2 43 mc ms [.ref (ad 3 0), .int p1] (HT D cI e0 A ad K M ap o od) (qM D cI e0 A ad K o od rI post) xN := by
  refine CM.of (by decide) (Nat.le_of_ble_eq_true rfl) (fun p e s m below meth c ls FX hw hS hl => ?_)
  obtain ⟨S, hg, hr, hlk, hnm, hout⟩ := FX
  have hl : lv_has ls 4 [(0, .ref (ad 3 0)), (1, .int p1)] := hl
  unfold wpX7_cardsOf at h
  refine lv_aload_n S.1 S.2.1 dX7_cardsOf_0 rfl (lv_at hl 0 rfl) ?_
  refine lv_iconst (v := 0) S.1 S.2.1 dX7_cardsOf_1 (by decide) ?_
  refine p3_0 S hg hS hw u1044 dX7_cardsOf_2 (fun H locs hw hS => ?_)
  refine lv_aload_n S.1 S.2.1 dX7_cardsOf_5 rfl (lv_at hl 0 rfl) ?_
  refine lv_iload_n S.1 S.2.1 dX7_cardsOf_6 rfl (lv_at hl 1 rfl) ?_
  refine r_call (rest := []) S hg hS (mtX7_isPlayer (mc := 0) (ms := 0) h) u1179 u1181 u27 u49 u1182 hdX7_isPlayer (rv3 hg hw) hw ⟨Nat.le_of_ble_eq_true rfl, Nat.le_of_ble_eq_true rfl⟩ ⟨by show 0 + 0 ≤ mc; omega, by show 0 + 0 ≤ ms; omega⟩ hl.1 (Nat.le_of_ble_eq_true rfl) rfl dX7_cardsOf_7 (fun E ce q H1 locs1 hx hS1 hc1 hc2 hc3 => hx.elim) (fun rv H locs hq hS => ?_)
  obtain ⟨r1, rfl, h, hw⟩ := hq
  show W p l e _ s m _ below meth c H locs _ _ _ (F0 m 10 ls [.int r1])
  show W p l e _ s m _ below meth c H locs 0 0 _ _
  refine lv_if_ne (tgt := 19) S.1 S.2.1 dX7_cardsOf_10 (by decide) (fun c2 => ?_) (fun c2 => ?_)
  · have h := h.1 c2
    refine lv_iconst (v := 0) S.1 S.2.1 dX7_cardsOf_19 (by decide) ?_
    refine lv_istore_n (lv' := [(2, .int 0), (0, .ref (ad 3 0)), (1, .int p1)]) S.1 S.2.1 dX7_cardsOf_20 rfl hl (by decide) rfl (fun ls hl => ?_)
    refine lv_iconst (v := 0) S.1 S.2.1 dX7_cardsOf_21 (by decide) ?_
    refine lv_istore_n (lv' := [(3, .int 0), (2, .int 0), (0, .ref (ad 3 0)), (1, .int p1)]) S.1 S.2.1 dX7_cardsOf_22 rfl hl (by decide) rfl (fun ls hl => ?_)
    have hl := lv_sub hl (l' := [(0, .ref (ad 3 0)), (1, .int p1), (2, .int 0), (3, .int 0)]) [2, 3, 1, 0] rfl
    obtain ⟨n1, h⟩ := h
    exact bX7_cardsOf_23 S hg hr hlk hout n1 hS hw hl h
  · have h := h.2 c2
    refine lv_aload_n S.1 S.2.1 dX7_cardsOf_13 rfl (lv_at hl 0 rfl) ?_
    refine lv_iconst (v := 1) S.1 S.2.1 dX7_cardsOf_14 (by decide) ?_
    refine r_call (rest := []) S hg hS (mtX7_fails (mc := 0) (ms := 0) h) u1171 u1173 u26 u49 u1174 hdX7_fails (rv3 hg hw) hw ⟨Nat.le_of_ble_eq_true rfl, Nat.le_of_ble_eq_true rfl⟩ ⟨by show 0 + 0 ≤ mc; omega, by show 0 + 0 ≤ ms; omega⟩ hl.1 (Nat.le_of_ble_eq_true rfl) rfl dX7_cardsOf_15 (fun E ce q H1 locs1 hx hS1 hc1 hc2 hc3 => hx.elim) (fun rv H locs hq hS => ?_)
    obtain ⟨r6, M7, ap8, rfl, h, hw⟩ := hq
    show W p l e _ s m _ below meth c H locs _ _ _ (F0 m 18 ls [.int r6])
    show W p l e _ s m _ below meth c H locs 0 0 _ _
    exact r_iret (y := yX7_cardsOf) S hr rfl hlk hS (by omega) (by omega) dX7_cardsOf_18 ⟨r6, _, _, rfl, h, hw⟩

-- X7.coinsOf
theorem dX7_coinsOf_0 : decode cX7_coinsOf 0 = .ok (.aload_n 0, 1) := by decide +kernel
theorem dX7_coinsOf_1 : decode cX7_coinsOf 1 = .ok (.iconst 0, 1) := by decide +kernel
theorem dX7_coinsOf_2 : decode cX7_coinsOf 2 = .ok (.putfield 98, 3) := by decide +kernel
theorem dX7_coinsOf_5 : decode cX7_coinsOf 5 = .ok (.aload_n 0, 1) := by decide +kernel
theorem dX7_coinsOf_6 : decode cX7_coinsOf 6 = .ok (.iload_n 1, 1) := by decide +kernel
theorem dX7_coinsOf_7 : decode cX7_coinsOf 7 = .ok (.invokevirtual 116, 3) := by decide +kernel
theorem dX7_coinsOf_10 : decode cX7_coinsOf 10 = .ok (.ifCond .eq 12, 3) := by decide +kernel
theorem dX7_coinsOf_13 : decode cX7_coinsOf 13 = .ok (.aload_n 0, 1) := by decide +kernel
theorem dX7_coinsOf_14 : decode cX7_coinsOf 14 = .ok (.getfield 7, 3) := by decide +kernel
theorem dX7_coinsOf_17 : decode cX7_coinsOf 17 = .ok (.iload_n 1, 1) := by decide +kernel
theorem dX7_coinsOf_18 : decode cX7_coinsOf 18 = .ok (.iaload, 1) := by decide +kernel
theorem dX7_coinsOf_19 : decode cX7_coinsOf 19 = .ok (.goto 8, 3) := by decide +kernel
theorem dX7_coinsOf_22 : decode cX7_coinsOf 22 = .ok (.aload_n 0, 1) := by decide +kernel
theorem dX7_coinsOf_23 : decode cX7_coinsOf 23 = .ok (.iconst 1, 1) := by decide +kernel
theorem dX7_coinsOf_24 : decode cX7_coinsOf 24 = .ok (.invokevirtual 106, 3) := by decide +kernel
theorem dX7_coinsOf_27 : decode cX7_coinsOf 27 = .ok (.ireturn, 1) := by decide +kernel
def wpX7_coinsOf (post : Int32 → KS → Int64 → Prop) (M : KS) (ap : Int64) (p1 : Int32) : Prop := (wpX7_isPlayer (fun r1 => ((r1 = 0 → ((wpX7_fails (fun r3 M4 ap5 => post r3 M4 ap5) (k3 M 3 0 0 0) ap 1))) ∧ (¬ r1 = 0 → ((vp_in p1 6) ∧ (post ((k3 M 3 0 0 0) 16 2 p1.toNatClampNeg) (k3 M 3 0 0 0) ap))))) (k3 M 3 0 0 0) ap p1)
theorem hdX7_coinsOf : yX7_coinsOf.cls ≠ "java/lang/invoke/MethodHandle" ∧ yX7_coinsOf.cls ≠ "java/lang/invoke/VarHandle" ∧ (parseMethodDescriptor yX7_coinsOf.desc).map (fun d => d.parameters.length) = some 1 := by decide +kernel
set_option maxHeartbeats 4000000 in
set_option maxRecDepth 100000 in
theorem mtX7_coinsOf {l : Launch} {D : va_G} {cI : Nat → ClassId} {e0 : Nat} {A : Nat → Prop} {ad : Nat → Nat → Nat} {K M : KS} {ap o : Int64} {od : UInt64} {mc ms : Nat} {p1 : Int32} {post : Int32 → KS → Int64 → Prop} (h : wpX7_coinsOf post M ap p1) : CM l D cI e0 A yX7_coinsOf cX7_coinsOf 2 (some FieldType.int) 2 43 mc ms [.ref (ad 3 0), .int p1] (HT D cI e0 A ad K M ap o od) (qM D cI e0 A ad K o od rI post) xN := by
  refine CM.of (by decide) (Nat.le_of_ble_eq_true rfl) (fun p e s m below meth c ls FX hw hS hl => ?_)
  obtain ⟨S, hg, hr, hlk, hnm, hout⟩ := FX
  have hl : lv_has ls 2 [(0, .ref (ad 3 0)), (1, .int p1)] := hl
  unfold wpX7_coinsOf at h
  refine lv_aload_n S.1 S.2.1 dX7_coinsOf_0 rfl (lv_at hl 0 rfl) ?_
  refine lv_iconst (v := 0) S.1 S.2.1 dX7_coinsOf_1 (by decide) ?_
  refine p3_0 S hg hS hw u1044 dX7_coinsOf_2 (fun H locs hw hS => ?_)
  refine lv_aload_n S.1 S.2.1 dX7_coinsOf_5 rfl (lv_at hl 0 rfl) ?_
  refine lv_iload_n S.1 S.2.1 dX7_coinsOf_6 rfl (lv_at hl 1 rfl) ?_
  refine r_call (rest := []) S hg hS (mtX7_isPlayer (mc := 0) (ms := 0) h) u1179 u1181 u27 u49 u1182 hdX7_isPlayer (rv3 hg hw) hw ⟨Nat.le_of_ble_eq_true rfl, Nat.le_of_ble_eq_true rfl⟩ ⟨by show 0 + 0 ≤ mc; omega, by show 0 + 0 ≤ ms; omega⟩ hl.1 (Nat.le_of_ble_eq_true rfl) rfl dX7_coinsOf_7 (fun E ce q H1 locs1 hx hS1 hc1 hc2 hc3 => hx.elim) (fun rv H locs hq hS => ?_)
  obtain ⟨r1, rfl, h, hw⟩ := hq
  show W p l e _ s m _ below meth c H locs _ _ _ (F0 m 10 ls [.int r1])
  show W p l e _ s m _ below meth c H locs 0 0 _ _
  refine lv_if_eq (tgt := 22) S.1 S.2.1 dX7_coinsOf_10 (by decide) (fun c2 => ?_) (fun c2 => ?_)
  · have h := h.1 c2
    refine lv_aload_n S.1 S.2.1 dX7_coinsOf_22 rfl (lv_at hl 0 rfl) ?_
    refine lv_iconst (v := 1) S.1 S.2.1 dX7_coinsOf_23 (by decide) ?_
    refine r_call (rest := []) S hg hS (mtX7_fails (mc := 0) (ms := 0) h) u1171 u1173 u26 u49 u1174 hdX7_fails (rv3 hg hw) hw ⟨Nat.le_of_ble_eq_true rfl, Nat.le_of_ble_eq_true rfl⟩ ⟨by show 0 + 0 ≤ mc; omega, by show 0 + 0 ≤ ms; omega⟩ hl.1 (Nat.le_of_ble_eq_true rfl) rfl dX7_coinsOf_24 (fun E ce q H1 locs1 hx hS1 hc1 hc2 hc3 => hx.elim) (fun rv H locs hq hS => ?_)
    obtain ⟨r3, M4, ap5, rfl, h, hw⟩ := hq
    show W p l e _ s m _ below meth c H locs _ _ _ (F0 m 27 ls [.int r3])
    show W p l e _ s m _ below meth c H locs 0 0 _ _
    exact r_iret (y := yX7_coinsOf) S hr rfl hlk hS (by omega) (by omega) dX7_coinsOf_27 ⟨r3, _, _, rfl, h, hw⟩
  · have h := h.2 c2
    refine lv_aload_n S.1 S.2.1 dX7_coinsOf_13 rfl (lv_at hl 0 rfl) ?_
    refine g3_2 S hg hw u1046 dX7_coinsOf_14 ?_
    refine lv_iload_n S.1 S.2.1 dX7_coinsOf_17 rfl (lv_at hl 1 rfl) ?_
    obtain ⟨g6, h⟩ := h
    refine a16 S hg hw rfl g6 dX7_coinsOf_18 ?_
    refine lv_goto (tgt := 27) S.1 S.2.1 dX7_coinsOf_19 (by decide) ?_
    exact r_iret (y := yX7_coinsOf) S hr rfl hlk hS (by omega) (by omega) dX7_coinsOf_27 ⟨((k3 M 3 0 0 0) 16 2 p1.toNatClampNeg), _, _, rfl, h, hw⟩

-- X7.postings
theorem dX7_postings_0 : decode cX7_postings 0 = .ok (.aload_n 0, 1) := by decide +kernel
theorem dX7_postings_1 : decode cX7_postings 1 = .ok (.iconst 0, 1) := by decide +kernel
theorem dX7_postings_2 : decode cX7_postings 2 = .ok (.putfield 98, 3) := by decide +kernel
theorem dX7_postings_5 : decode cX7_postings 5 = .ok (.aload_n 0, 1) := by decide +kernel
theorem dX7_postings_6 : decode cX7_postings 6 = .ok (.getfield 113, 3) := by decide +kernel
theorem dX7_postings_9 : decode cX7_postings 9 = .ok (.ireturn, 1) := by decide +kernel
def wpX7_postings (post : Int32 → KS → Int64 → Prop) (M : KS) (ap : Int64) : Prop := post ((k3 M 3 0 0 0) 3 11 0) (k3 M 3 0 0 0) ap
theorem hdX7_postings : yX7_postings.cls ≠ "java/lang/invoke/MethodHandle" ∧ yX7_postings.cls ≠ "java/lang/invoke/VarHandle" ∧ (parseMethodDescriptor yX7_postings.desc).map (fun d => d.parameters.length) = some 0 := by decide +kernel
set_option maxHeartbeats 4000000 in
set_option maxRecDepth 100000 in
theorem mtX7_postings {l : Launch} {D : va_G} {cI : Nat → ClassId} {e0 : Nat} {A : Nat → Prop} {ad : Nat → Nat → Nat} {K M : KS} {ap o : Int64} {od : UInt64} {mc ms : Nat} {post : Int32 → KS → Int64 → Prop} (h : wpX7_postings post M ap) : CM l D cI e0 A yX7_postings cX7_postings 1 (some FieldType.int) 0 0 mc ms [.ref (ad 3 0)] (HT D cI e0 A ad K M ap o od) (qM D cI e0 A ad K o od rI post) xN := by
  refine CM.of (by decide) (Nat.le_of_ble_eq_true rfl) (fun p e s m below meth c ls FX hw hS hl => ?_)
  obtain ⟨S, hg, hr, hlk, hnm, hout⟩ := FX
  have hl : lv_has ls 1 [(0, .ref (ad 3 0))] := hl
  unfold wpX7_postings at h
  refine lv_aload_n S.1 S.2.1 dX7_postings_0 rfl (lv_at hl 0 rfl) ?_
  refine lv_iconst (v := 0) S.1 S.2.1 dX7_postings_1 (by decide) ?_
  refine p3_0 S hg hS hw u1044 dX7_postings_2 (fun H locs hw hS => ?_)
  refine lv_aload_n S.1 S.2.1 dX7_postings_5 rfl (lv_at hl 0 rfl) ?_
  refine g3_11 S hg hw u1055 dX7_postings_6 ?_
  exact r_iret (y := yX7_postings) S hr rfl hlk hS (by omega) (by omega) dX7_postings_9 ⟨((k3 M 3 0 0 0) 3 11 0), _, _, rfl, h, hw⟩

-- X7.posting
theorem dX7_posting_0 : decode cX7_posting 0 = .ok (.aload_n 0, 1) := by decide +kernel
theorem dX7_posting_1 : decode cX7_posting 1 = .ok (.iconst 0, 1) := by decide +kernel
theorem dX7_posting_2 : decode cX7_posting 2 = .ok (.putfield 98, 3) := by decide +kernel
theorem dX7_posting_5 : decode cX7_posting 5 = .ok (.iload_n 1, 1) := by decide +kernel
theorem dX7_posting_6 : decode cX7_posting 6 = .ok (.iconst 0, 1) := by decide +kernel
theorem dX7_posting_7 : decode cX7_posting 7 = .ok (.aload_n 0, 1) := by decide +kernel
theorem dX7_posting_8 : decode cX7_posting 8 = .ok (.getfield 113, 3) := by decide +kernel
theorem dX7_posting_11 : decode cX7_posting 11 = .ok (.iconst 1, 1) := by decide +kernel
theorem dX7_posting_12 : decode cX7_posting 12 = .ok (.isub, 1) := by decide +kernel
theorem dX7_posting_13 : decode cX7_posting 13 = .ok (.invokestatic 102, 3) := by decide +kernel
theorem dX7_posting_16 : decode cX7_posting 16 = .ok (.ifCond .ne 9, 3) := by decide +kernel
theorem dX7_posting_19 : decode cX7_posting 19 = .ok (.aload_n 0, 1) := by decide +kernel
theorem dX7_posting_20 : decode cX7_posting 20 = .ok (.iconst 1, 1) := by decide +kernel
theorem dX7_posting_21 : decode cX7_posting 21 = .ok (.invokevirtual 106, 3) := by decide +kernel
theorem dX7_posting_24 : decode cX7_posting 24 = .ok (.ireturn, 1) := by decide +kernel
theorem dX7_posting_25 : decode cX7_posting 25 = .ok (.iload_n 2, 1) := by decide +kernel
theorem dX7_posting_26 : decode cX7_posting 26 = .ok (.bipush 99, 2) := by decide +kernel
theorem dX7_posting_28 : decode cX7_posting 28 = .ok (.if_icmp .eq 21, 3) := by decide +kernel
theorem dX7_posting_31 : decode cX7_posting 31 = .ok (.iload_n 2, 1) := by decide +kernel
theorem dX7_posting_32 : decode cX7_posting 32 = .ok (.bipush 102, 2) := by decide +kernel
theorem dX7_posting_34 : decode cX7_posting 34 = .ok (.if_icmp .eq 15, 3) := by decide +kernel
theorem dX7_posting_37 : decode cX7_posting 37 = .ok (.iload_n 2, 1) := by decide +kernel
theorem dX7_posting_38 : decode cX7_posting 38 = .ok (.bipush 116, 2) := by decide +kernel
theorem dX7_posting_40 : decode cX7_posting 40 = .ok (.if_icmp .eq 9, 3) := by decide +kernel
theorem dX7_posting_43 : decode cX7_posting 43 = .ok (.aload_n 0, 1) := by decide +kernel
theorem dX7_posting_44 : decode cX7_posting 44 = .ok (.iconst 2, 1) := by decide +kernel
theorem dX7_posting_45 : decode cX7_posting 45 = .ok (.invokevirtual 106, 3) := by decide +kernel
theorem dX7_posting_48 : decode cX7_posting 48 = .ok (.ireturn, 1) := by decide +kernel
theorem dX7_posting_49 : decode cX7_posting 49 = .ok (.aload_n 0, 1) := by decide +kernel
theorem dX7_posting_50 : decode cX7_posting 50 = .ok (.getfield 29, 3) := by decide +kernel
theorem dX7_posting_53 : decode cX7_posting 53 = .ok (.iconst 3, 1) := by decide +kernel
theorem dX7_posting_54 : decode cX7_posting 54 = .ok (.iload_n 1, 1) := by decide +kernel
theorem dX7_posting_55 : decode cX7_posting 55 = .ok (.imul, 1) := by decide +kernel
theorem dX7_posting_56 : decode cX7_posting 56 = .ok (.iload_n 2, 1) := by decide +kernel
theorem dX7_posting_57 : decode cX7_posting 57 = .ok (.bipush 99, 2) := by decide +kernel
theorem dX7_posting_59 : decode cX7_posting 59 = .ok (.if_icmp .ne 7, 3) := by decide +kernel
theorem dX7_posting_62 : decode cX7_posting 62 = .ok (.iconst 0, 1) := by decide +kernel
theorem dX7_posting_63 : decode cX7_posting 63 = .ok (.goto 14, 3) := by decide +kernel
theorem dX7_posting_66 : decode cX7_posting 66 = .ok (.iload_n 2, 1) := by decide +kernel
theorem dX7_posting_67 : decode cX7_posting 67 = .ok (.bipush 102, 2) := by decide +kernel
theorem dX7_posting_69 : decode cX7_posting 69 = .ok (.if_icmp .ne 7, 3) := by decide +kernel
theorem dX7_posting_72 : decode cX7_posting 72 = .ok (.iconst 1, 1) := by decide +kernel
theorem dX7_posting_73 : decode cX7_posting 73 = .ok (.goto 4, 3) := by decide +kernel
theorem dX7_posting_76 : decode cX7_posting 76 = .ok (.iconst 2, 1) := by decide +kernel
theorem dX7_posting_77 : decode cX7_posting 77 = .ok (.iadd, 1) := by decide +kernel
theorem dX7_posting_78 : decode cX7_posting 78 = .ok (.iaload, 1) := by decide +kernel
theorem dX7_posting_79 : decode cX7_posting 79 = .ok (.ireturn, 1) := by decide +kernel
def wX7_posting_49 (post : Int32 → KS → Int64 → Prop) (l1 : Int32) (l2 : Int32) (M : KS) (ap : Int64) : Prop := ((¬ l2 = 99 → (((¬ l2 = 102 → ((vp_in ((3 * l1) + 2) 12000) ∧ (post (M 16 12 (((3 * l1) + 2).toNatClampNeg)) M ap))) ∧ (l2 = 102 → ((vp_in ((3 * l1) + 1) 12000) ∧ (post (M 16 12 (((3 * l1) + 1).toNatClampNeg)) M ap)))))) ∧ (l2 = 99 → ((vp_in ((3 * l1) + 0) 12000) ∧ (post (M 16 12 (((3 * l1) + 0).toNatClampNeg)) M ap))))
set_option maxHeartbeats 4000000 in
set_option maxRecDepth 100000 in
theorem bX7_posting_49 {p : Program} {l : Launch} {e : Env} {s : State} {m : MethodId} {args : Array Value} {below : List Frame} {meth : Method} {c : Code} {D : va_G} {cI : Nat → ClassId} {e0 : Nat} {A : Nat → Prop} {ad : Nat → Nat → Nat} {K : KS} {o : Int64} {od : UInt64} {mc ms : Nat} {post : Int32 → KS → Int64 → Prop} (S : CallFix p m c cX7_posting 3 s args WU RX7) (hg : GI D cI e0 A s s.heap) (hr : meth.sig.returnType = (some FieldType.int)) (hlk : meth.locks = false) (hout : ∀ x ∈ c.exceptionTable.toList, False) {H : Heap} {locs : List Loc} {ls : Array Slot} {l1 : Int32} {l2 : Int32} {M : KS} {ap : Int64} (hS : va_S A s.heap H locs) (hw : HT D cI e0 A ad K M ap o od H) (hl : lv_has ls 3 [(0, .ref (ad 3 0)), (1, .int l1), (2, .int l2)]) (h : wX7_posting_49 post l1 l2 M ap) : W p l e ({ frames := 1, cells := mc, slots := ms, locals := 22 } : Room) s m args below meth c H locs 0 0 (MQQ below (qM D cI e0 A ad K o od rI post) xN args s mc ms A) (F0 m 49 ls []) := by
  unfold wX7_posting_49 at h
  refine lv_aload_n S.1 S.2.1 dX7_posting_49 rfl (lv_at hl 0 rfl) ?_
  refine g3_12 S hg hw u1056 dX7_posting_50 ?_
  refine lv_iconst (v := 3) S.1 S.2.1 dX7_posting_53 (by decide) ?_
  refine lv_iload_n S.1 S.2.1 dX7_posting_54 rfl (lv_at hl 1 rfl) ?_
  refine lv_imul S.1 S.2.1 dX7_posting_55 ?_
  refine lv_iload_n S.1 S.2.1 dX7_posting_56 rfl (lv_at hl 2 rfl) ?_
  refine lv_bipush (v := 99) S.1 S.2.1 dX7_posting_57 (by decide) ?_
  refine lv_icmp_ne (tgt := 66) S.1 S.2.1 dX7_posting_59 (by decide) (fun c4 => ?_) (fun c4 => ?_)
  · have h := h.1 c4
    refine lv_iload_n S.1 S.2.1 dX7_posting_66 rfl (lv_at hl 2 rfl) ?_
    refine lv_bipush (v := 102) S.1 S.2.1 dX7_posting_67 (by decide) ?_
    refine lv_icmp_ne (tgt := 76) S.1 S.2.1 dX7_posting_69 (by decide) (fun c5 => ?_) (fun c5 => ?_)
    · have h := h.1 c5
      refine lv_iconst (v := 2) S.1 S.2.1 dX7_posting_76 (by decide) ?_
      refine lv_iadd S.1 S.2.1 dX7_posting_77 ?_
      obtain ⟨g6, h⟩ := h
      refine a16 S hg hw rfl g6 dX7_posting_78 ?_
      exact r_iret (y := yX7_posting) S hr rfl hlk hS (by omega) (by omega) dX7_posting_79 ⟨(M 16 12 (((3 * l1) + 2).toNatClampNeg)), _, _, rfl, h, hw⟩
    · have h := h.2 c5
      refine lv_iconst (v := 1) S.1 S.2.1 dX7_posting_72 (by decide) ?_
      refine lv_goto (tgt := 77) S.1 S.2.1 dX7_posting_73 (by decide) ?_
      refine lv_iadd S.1 S.2.1 dX7_posting_77 ?_
      obtain ⟨g7, h⟩ := h
      refine a16 S hg hw rfl g7 dX7_posting_78 ?_
      exact r_iret (y := yX7_posting) S hr rfl hlk hS (by omega) (by omega) dX7_posting_79 ⟨(M 16 12 (((3 * l1) + 1).toNatClampNeg)), _, _, rfl, h, hw⟩
  · have h := h.2 c4
    refine lv_iconst (v := 0) S.1 S.2.1 dX7_posting_62 (by decide) ?_
    refine lv_goto (tgt := 77) S.1 S.2.1 dX7_posting_63 (by decide) ?_
    refine lv_iadd S.1 S.2.1 dX7_posting_77 ?_
    obtain ⟨g8, h⟩ := h
    refine a16 S hg hw rfl g8 dX7_posting_78 ?_
    exact r_iret (y := yX7_posting) S hr rfl hlk hS (by omega) (by omega) dX7_posting_79 ⟨(M 16 12 (((3 * l1) + 0).toNatClampNeg)), _, _, rfl, h, hw⟩
def wpX7_posting (post : Int32 → KS → Int64 → Prop) (M : KS) (ap : Int64) (p1 : Int32) (p2 : Int32) : Prop := (wpX7_in (fun r1 => ((¬ r1 = 0 → (((p2 = 99 → (wX7_posting_49 post p1 p2 (k3 M 3 0 0 0) ap)) ∧ (¬ p2 = 99 → (((p2 = 102 → (wX7_posting_49 post p1 p2 (k3 M 3 0 0 0) ap)) ∧ (¬ p2 = 102 → (((p2 = 116 → (wX7_posting_49 post p1 p2 (k3 M 3 0 0 0) ap)) ∧ (¬ p2 = 116 → ((wpX7_fails (fun r11 M12 ap13 => post r11 M12 ap13) (k3 M 3 0 0 0) ap 2)))))))))))) ∧ (r1 = 0 → ((wpX7_fails (fun r14 M15 ap16 => post r14 M15 ap16) (k3 M 3 0 0 0) ap 1))))) (k3 M 3 0 0 0) ap p1 0 (((k3 M 3 0 0 0) 3 11 0) - 1))
theorem hdX7_posting : yX7_posting.cls ≠ "java/lang/invoke/MethodHandle" ∧ yX7_posting.cls ≠ "java/lang/invoke/VarHandle" ∧ (parseMethodDescriptor yX7_posting.desc).map (fun d => d.parameters.length) = some 2 := by decide +kernel
set_option maxHeartbeats 4000000 in
set_option maxRecDepth 100000 in
theorem mtX7_posting {l : Launch} {D : va_G} {cI : Nat → ClassId} {e0 : Nat} {A : Nat → Prop} {ad : Nat → Nat → Nat} {K M : KS} {ap o : Int64} {od : UInt64} {mc ms : Nat} {p1 : Int32} {p2 : Int32} {post : Int32 → KS → Int64 → Prop} (h : wpX7_posting post M ap p1 p2) : CM l D cI e0 A yX7_posting cX7_posting 3 (some FieldType.int) 1 22 mc ms [.ref (ad 3 0), .int p1, .int p2] (HT D cI e0 A ad K M ap o od) (qM D cI e0 A ad K o od rI post) xN := by
  refine CM.of (by decide) (Nat.le_of_ble_eq_true rfl) (fun p e s m below meth c ls FX hw hS hl => ?_)
  obtain ⟨S, hg, hr, hlk, hnm, hout⟩ := FX
  have hl : lv_has ls 3 [(0, .ref (ad 3 0)), (1, .int p1), (2, .int p2)] := hl
  unfold wpX7_posting at h
  refine lv_aload_n S.1 S.2.1 dX7_posting_0 rfl (lv_at hl 0 rfl) ?_
  refine lv_iconst (v := 0) S.1 S.2.1 dX7_posting_1 (by decide) ?_
  refine p3_0 S hg hS hw u1044 dX7_posting_2 (fun H locs hw hS => ?_)
  refine lv_iload_n S.1 S.2.1 dX7_posting_5 rfl (lv_at hl 1 rfl) ?_
  refine lv_iconst (v := 0) S.1 S.2.1 dX7_posting_6 (by decide) ?_
  refine lv_aload_n S.1 S.2.1 dX7_posting_7 rfl (lv_at hl 0 rfl) ?_
  refine g3_11 S hg hw u1055 dX7_posting_8 ?_
  refine lv_iconst (v := 1) S.1 S.2.1 dX7_posting_11 (by decide) ?_
  refine lv_isub S.1 S.2.1 dX7_posting_12 ?_
  refine r_callS (rest := []) S hg hS (mtX7_in (mc := 0) (ms := 0) h) u1168 u1169 u49 u1170 hdX7_in hw ⟨Nat.le_of_ble_eq_true rfl, Nat.le_of_ble_eq_true rfl⟩ ⟨by show 0 + 0 ≤ mc; omega, by show 0 + 0 ≤ ms; omega⟩ hl.1 (Nat.le_of_ble_eq_true rfl) rfl dX7_posting_13 (fun E ce q H1 locs1 hx hS1 hc1 hc2 hc3 => hx.elim) (fun rv H locs hq hS => ?_)
  obtain ⟨r1, rfl, h, hw⟩ := hq
  show W p l e _ s m _ below meth c H locs _ _ _ (F0 m 16 ls [.int r1])
  show W p l e _ s m _ below meth c H locs 0 0 _ _
  refine lv_if_ne (tgt := 25) S.1 S.2.1 dX7_posting_16 (by decide) (fun c2 => ?_) (fun c2 => ?_)
  · have h := h.1 c2
    refine lv_iload_n S.1 S.2.1 dX7_posting_25 rfl (lv_at hl 2 rfl) ?_
    refine lv_bipush (v := 99) S.1 S.2.1 dX7_posting_26 (by decide) ?_
    refine lv_icmp_eq (tgt := 49) S.1 S.2.1 dX7_posting_28 (by decide) (fun c3 => ?_) (fun c3 => ?_)
    · have h := h.1 c3
      have hl := lv_sub hl (l' := [(0, .ref (ad 3 0)), (1, .int p1), (2, .int p2)]) [0, 1, 2] rfl
      exact bX7_posting_49 S hg hr hlk hout hS hw hl h
    · have h := h.2 c3
      refine lv_iload_n S.1 S.2.1 dX7_posting_31 rfl (lv_at hl 2 rfl) ?_
      refine lv_bipush (v := 102) S.1 S.2.1 dX7_posting_32 (by decide) ?_
      refine lv_icmp_eq (tgt := 49) S.1 S.2.1 dX7_posting_34 (by decide) (fun c9 => ?_) (fun c9 => ?_)
      · have h := h.1 c9
        have hl := lv_sub hl (l' := [(0, .ref (ad 3 0)), (1, .int p1), (2, .int p2)]) [0, 1, 2] rfl
        exact bX7_posting_49 S hg hr hlk hout hS hw hl h
      · have h := h.2 c9
        refine lv_iload_n S.1 S.2.1 dX7_posting_37 rfl (lv_at hl 2 rfl) ?_
        refine lv_bipush (v := 116) S.1 S.2.1 dX7_posting_38 (by decide) ?_
        refine lv_icmp_eq (tgt := 49) S.1 S.2.1 dX7_posting_40 (by decide) (fun c10 => ?_) (fun c10 => ?_)
        · have h := h.1 c10
          have hl := lv_sub hl (l' := [(0, .ref (ad 3 0)), (1, .int p1), (2, .int p2)]) [0, 1, 2] rfl
          exact bX7_posting_49 S hg hr hlk hout hS hw hl h
        · have h := h.2 c10
          refine lv_aload_n S.1 S.2.1 dX7_posting_43 rfl (lv_at hl 0 rfl) ?_
          refine lv_iconst (v := 2) S.1 S.2.1 dX7_posting_44 (by decide) ?_
          refine r_call (rest := []) S hg hS (mtX7_fails (mc := 0) (ms := 0) h) u1171 u1173 u26 u49 u1174 hdX7_fails (rv3 hg hw) hw ⟨Nat.le_of_ble_eq_true rfl, Nat.le_of_ble_eq_true rfl⟩ ⟨by show 0 + 0 ≤ mc; omega, by show 0 + 0 ≤ ms; omega⟩ hl.1 (Nat.le_of_ble_eq_true rfl) rfl dX7_posting_45 (fun E ce q H1 locs1 hx hS1 hc1 hc2 hc3 => hx.elim) (fun rv H locs hq hS => ?_)
          obtain ⟨r11, M12, ap13, rfl, h, hw⟩ := hq
          show W p l e _ s m _ below meth c H locs _ _ _ (F0 m 48 ls [.int r11])
          show W p l e _ s m _ below meth c H locs 0 0 _ _
          exact r_iret (y := yX7_posting) S hr rfl hlk hS (by omega) (by omega) dX7_posting_48 ⟨r11, _, _, rfl, h, hw⟩
  · have h := h.2 c2
    refine lv_aload_n S.1 S.2.1 dX7_posting_19 rfl (lv_at hl 0 rfl) ?_
    refine lv_iconst (v := 1) S.1 S.2.1 dX7_posting_20 (by decide) ?_
    refine r_call (rest := []) S hg hS (mtX7_fails (mc := 0) (ms := 0) h) u1171 u1173 u26 u49 u1174 hdX7_fails (rv3 hg hw) hw ⟨Nat.le_of_ble_eq_true rfl, Nat.le_of_ble_eq_true rfl⟩ ⟨by show 0 + 0 ≤ mc; omega, by show 0 + 0 ≤ ms; omega⟩ hl.1 (Nat.le_of_ble_eq_true rfl) rfl dX7_posting_21 (fun E ce q H1 locs1 hx hS1 hc1 hc2 hc3 => hx.elim) (fun rv H locs hq hS => ?_)
    obtain ⟨r14, M15, ap16, rfl, h, hw⟩ := hq
    show W p l e _ s m _ below meth c H locs _ _ _ (F0 m 24 ls [.int r14])
    show W p l e _ s m _ below meth c H locs 0 0 _ _
    exact r_iret (y := yX7_posting) S hr rfl hlk hS (by omega) (by omega) dX7_posting_24 ⟨r14, _, _, rfl, h, hw⟩

-- X7.isDuel
theorem dX7_isDuel_0 : decode cX7_isDuel 0 = .ok (.iload_n 1, 1) := by decide +kernel
theorem dX7_isDuel_1 : decode cX7_isDuel 1 = .ok (.iconst 0, 1) := by decide +kernel
theorem dX7_isDuel_2 : decode cX7_isDuel 2 = .ok (.aload_n 0, 1) := by decide +kernel
theorem dX7_isDuel_3 : decode cX7_isDuel 3 = .ok (.getfield 134, 3) := by decide +kernel
theorem dX7_isDuel_6 : decode cX7_isDuel 6 = .ok (.iconst 1, 1) := by decide +kernel
theorem dX7_isDuel_7 : decode cX7_isDuel 7 = .ok (.isub, 1) := by decide +kernel
theorem dX7_isDuel_8 : decode cX7_isDuel 8 = .ok (.invokestatic 102, 3) := by decide +kernel
theorem dX7_isDuel_11 : decode cX7_isDuel 11 = .ok (.ireturn, 1) := by decide +kernel
def wpX7_isDuel (post : Int32 → Prop) (M : KS) (ap : Int64) (p1 : Int32) : Prop := (wpX7_in (fun r1 => (narrow .boolean (.int r1) = .int r1) ∧ post r1) M ap p1 0 ((M 3 13 0) - 1))
theorem hdX7_isDuel : yX7_isDuel.cls ≠ "java/lang/invoke/MethodHandle" ∧ yX7_isDuel.cls ≠ "java/lang/invoke/VarHandle" ∧ (parseMethodDescriptor yX7_isDuel.desc).map (fun d => d.parameters.length) = some 1 := by decide +kernel
set_option maxHeartbeats 4000000 in
set_option maxRecDepth 100000 in
theorem mtX7_isDuel {l : Launch} {D : va_G} {cI : Nat → ClassId} {e0 : Nat} {A : Nat → Prop} {ad : Nat → Nat → Nat} {K M : KS} {ap o : Int64} {od : UInt64} {mc ms : Nat} {p1 : Int32} {post : Int32 → Prop} (h : wpX7_isDuel post M ap p1) : CM l D cI e0 A yX7_isDuel cX7_isDuel 2 (some FieldType.boolean) 1 22 mc ms [.ref (ad 3 0), .int p1] (HT D cI e0 A ad K M ap o od) (qP D cI e0 A ad K M ap o od rI post) xN := by
  refine CM.of (by decide) (Nat.le_of_ble_eq_true rfl) (fun p e s m below meth c ls FX hw hS hl => ?_)
  obtain ⟨S, hg, hr, hlk, hnm, hout⟩ := FX
  have hl : lv_has ls 2 [(0, .ref (ad 3 0)), (1, .int p1)] := hl
  unfold wpX7_isDuel at h
  refine lv_iload_n S.1 S.2.1 dX7_isDuel_0 rfl (lv_at hl 1 rfl) ?_
  refine lv_iconst (v := 0) S.1 S.2.1 dX7_isDuel_1 (by decide) ?_
  refine lv_aload_n S.1 S.2.1 dX7_isDuel_2 rfl (lv_at hl 0 rfl) ?_
  refine g3_13 S hg hw u1057 dX7_isDuel_3 ?_
  refine lv_iconst (v := 1) S.1 S.2.1 dX7_isDuel_6 (by decide) ?_
  refine lv_isub S.1 S.2.1 dX7_isDuel_7 ?_
  refine r_callS (rest := []) S hg hS (mtX7_in (mc := 0) (ms := 0) h) u1168 u1169 u49 u1170 hdX7_in hw ⟨Nat.le_of_ble_eq_true rfl, Nat.le_of_ble_eq_true rfl⟩ ⟨by show 0 + 0 ≤ mc; omega, by show 0 + 0 ≤ ms; omega⟩ hl.1 (Nat.le_of_ble_eq_true rfl) rfl dX7_isDuel_8 (fun E ce q H1 locs1 hx hS1 hc1 hc2 hc3 => hx.elim) (fun rv H locs hq hS => ?_)
  obtain ⟨r1, rfl, h, hw⟩ := hq
  show W p l e _ s m _ below meth c H locs _ _ _ (F0 m 11 ls [.int r1])
  show W p l e _ s m _ below meth c H locs 0 0 _ _
  obtain ⟨g2, h⟩ := h
  exact r_iret (y := yX7_isDuel) S hr g2 hlk hS (by omega) (by omega) dX7_isDuel_11 ⟨r1, rfl, h, hw⟩

-- X7.isBusy
theorem dX7_isBusy_0 : decode cX7_isBusy 0 = .ok (.iconst 0, 1) := by decide +kernel
theorem dX7_isBusy_1 : decode cX7_isBusy 1 = .ok (.istore_n 3, 1) := by decide +kernel
theorem dX7_isBusy_2 : decode cX7_isBusy 2 = .ok (.iload_n 3, 1) := by decide +kernel
theorem dX7_isBusy_3 : decode cX7_isBusy 3 = .ok (.aload_n 0, 1) := by decide +kernel
theorem dX7_isBusy_4 : decode cX7_isBusy 4 = .ok (.getfield 134, 3) := by decide +kernel
theorem dX7_isBusy_7 : decode cX7_isBusy 7 = .ok (.if_icmp .ge 70, 3) := by decide +kernel
theorem dX7_isBusy_10 : decode cX7_isBusy 10 = .ok (.aload_n 0, 1) := by decide +kernel
theorem dX7_isBusy_11 : decode cX7_isBusy 11 = .ok (.getfield 32, 3) := by decide +kernel
theorem dX7_isBusy_14 : decode cX7_isBusy 14 = .ok (.iload_n 3, 1) := by decide +kernel
theorem dX7_isBusy_15 : decode cX7_isBusy 15 = .ok (.iaload, 1) := by decide +kernel
theorem dX7_isBusy_16 : decode cX7_isBusy 16 = .ok (.iload_n 1, 1) := by decide +kernel
theorem dX7_isBusy_17 : decode cX7_isBusy 17 = .ok (.if_icmp .eq 13, 3) := by decide +kernel
theorem dX7_isBusy_20 : decode cX7_isBusy 20 = .ok (.aload_n 0, 1) := by decide +kernel
theorem dX7_isBusy_21 : decode cX7_isBusy 21 = .ok (.getfield 35, 3) := by decide +kernel
theorem dX7_isBusy_24 : decode cX7_isBusy 24 = .ok (.iload_n 3, 1) := by decide +kernel
theorem dX7_isBusy_25 : decode cX7_isBusy 25 = .ok (.iaload, 1) := by decide +kernel
theorem dX7_isBusy_26 : decode cX7_isBusy 26 = .ok (.iload_n 1, 1) := by decide +kernel
theorem dX7_isBusy_27 : decode cX7_isBusy 27 = .ok (.if_icmp .ne 7, 3) := by decide +kernel
theorem dX7_isBusy_30 : decode cX7_isBusy 30 = .ok (.iconst 1, 1) := by decide +kernel
theorem dX7_isBusy_31 : decode cX7_isBusy 31 = .ok (.goto 4, 3) := by decide +kernel
theorem dX7_isBusy_34 : decode cX7_isBusy 34 = .ok (.iconst 0, 1) := by decide +kernel
theorem dX7_isBusy_35 : decode cX7_isBusy 35 = .ok (.istore 4, 2) := by decide +kernel
theorem dX7_isBusy_37 : decode cX7_isBusy 37 = .ok (.iload_n 3, 1) := by decide +kernel
theorem dX7_isBusy_38 : decode cX7_isBusy 38 = .ok (.iload_n 2, 1) := by decide +kernel
theorem dX7_isBusy_39 : decode cX7_isBusy 39 = .ok (.if_icmp .eq 32, 3) := by decide +kernel
theorem dX7_isBusy_42 : decode cX7_isBusy 42 = .ok (.iload 4, 2) := by decide +kernel
theorem dX7_isBusy_44 : decode cX7_isBusy 44 = .ok (.ifCond .eq 27, 3) := by decide +kernel
theorem dX7_isBusy_47 : decode cX7_isBusy 47 = .ok (.aload_n 0, 1) := by decide +kernel
theorem dX7_isBusy_48 : decode cX7_isBusy 48 = .ok (.getfield 38, 3) := by decide +kernel
theorem dX7_isBusy_51 : decode cX7_isBusy 51 = .ok (.iload_n 3, 1) := by decide +kernel
theorem dX7_isBusy_52 : decode cX7_isBusy 52 = .ok (.caload, 1) := by decide +kernel
theorem dX7_isBusy_53 : decode cX7_isBusy 53 = .ok (.bipush 111, 2) := by decide +kernel
theorem dX7_isBusy_55 : decode cX7_isBusy 55 = .ok (.if_icmp .eq 14, 3) := by decide +kernel
theorem dX7_isBusy_58 : decode cX7_isBusy 58 = .ok (.aload_n 0, 1) := by decide +kernel
theorem dX7_isBusy_59 : decode cX7_isBusy 59 = .ok (.getfield 38, 3) := by decide +kernel
theorem dX7_isBusy_62 : decode cX7_isBusy 62 = .ok (.iload_n 3, 1) := by decide +kernel
theorem dX7_isBusy_63 : decode cX7_isBusy 63 = .ok (.caload, 1) := by decide +kernel
theorem dX7_isBusy_64 : decode cX7_isBusy 64 = .ok (.bipush 103, 2) := by decide +kernel
theorem dX7_isBusy_66 : decode cX7_isBusy 66 = .ok (.if_icmp .ne 5, 3) := by decide +kernel
theorem dX7_isBusy_69 : decode cX7_isBusy 69 = .ok (.iconst 1, 1) := by decide +kernel
theorem dX7_isBusy_70 : decode cX7_isBusy 70 = .ok (.ireturn, 1) := by decide +kernel
theorem dX7_isBusy_71 : decode cX7_isBusy 71 = .ok (.iinc 3 1, 3) := by decide +kernel
theorem dX7_isBusy_74 : decode cX7_isBusy 74 = .ok (.goto (-72), 3) := by decide +kernel
theorem dX7_isBusy_77 : decode cX7_isBusy 77 = .ok (.iconst 0, 1) := by decide +kernel
theorem dX7_isBusy_78 : decode cX7_isBusy 78 = .ok (.ireturn, 1) := by decide +kernel
def wX7_isBusy_71 (post : Int32 → Prop) (bk2 : Int32 → Int32 → Int32 → KS → Int64 → Prop) (l1 : Int32) (l2 : Int32) (l3 : Int32) (M : KS) (ap : Int64) : Prop := bk2 l1 l2 (l3 + 1) M ap
set_option maxHeartbeats 4000000 in
set_option maxRecDepth 100000 in
theorem bX7_isBusy_71 {p : Program} {l : Launch} {e : Env} {s : State} {m : MethodId} {args : Array Value} {below : List Frame} {meth : Method} {c : Code} {D : va_G} {cI : Nat → ClassId} {e0 : Nat} {A : Nat → Prop} {ad : Nat → Nat → Nat} {K : KS} {o : Int64} {od : UInt64} {mc ms : Nat} {M : KS} {ap : Int64} {post : Int32 → Prop} {bk2 : Int32 → Int32 → Int32 → KS → Int64 → Prop} (S : CallFix p m c cX7_isBusy 5 s args WU RX7) (hg : GI D cI e0 A s s.heap) (hr : meth.sig.returnType = (some FieldType.boolean)) (hlk : meth.locks = false) (hout : ∀ x ∈ c.exceptionTable.toList, False) (hbk2 : ∀ {H : Heap} {locs : List Loc} {ls : Array Slot} {l1 : Int32} {l2 : Int32} {l3 : Int32}, va_S A s.heap H locs → HT D cI e0 A ad K M ap o od H → lv_has ls 5 [(0, .ref (ad 3 0)), (1, .int l1), (2, .int l2), (3, .int l3)] → bk2 l1 l2 l3 M ap → W p l e ({ frames := 0, cells := mc, slots := ms, locals := 0 } : Room) s m args below meth c H locs 0 0 (MQQ below (qP D cI e0 A ad K M ap o od rI post) xN args s mc ms A) (F0 m 2 ls [])) {H : Heap} {locs : List Loc} {ls : Array Slot} {l1 : Int32} {l2 : Int32} {l3 : Int32} (hS : va_S A s.heap H locs) (hw : HT D cI e0 A ad K M ap o od H) (hl : lv_has ls 5 [(0, .ref (ad 3 0)), (1, .int l1), (2, .int l2), (3, .int l3)]) (h : wX7_isBusy_71 post bk2 l1 l2 l3 M ap) : W p l e ({ frames := 0, cells := mc, slots := ms, locals := 0 } : Room) s m args below meth c H locs 0 0 (MQQ below (qP D cI e0 A ad K M ap o od rI post) xN args s mc ms A) (F0 m 71 ls []) := by
  unfold wX7_isBusy_71 at h
  refine lv_iinc (v := l3 + 1) (lv' := [(3, .int (l3 + 1)), (0, .ref (ad 3 0)), (1, .int l1), (2, .int l2)]) S.1 S.2.1 dX7_isBusy_71 hl (k := 3) rfl rfl (by decide) rfl (fun ls hl => ?_)
  refine lv_goto (tgt := 2) S.1 S.2.1 dX7_isBusy_74 (by decide) ?_
  have hl := lv_sub hl (l' := [(0, .ref (ad 3 0)), (1, .int l1), (2, .int l2), (3, .int (l3 + 1))]) [1, 2, 3, 0] rfl
  exact hbk2 hS hw hl h
def wX7_isBusy_35 (post : Int32 → Prop) (bk2 : Int32 → Int32 → Int32 → KS → Int64 → Prop) (l1 : Int32) (l2 : Int32) (l3 : Int32) (t0 : Int32) (M : KS) (ap : Int64) : Prop := ((l3 = l2 → (wX7_isBusy_71 post bk2 l1 l2 l3 M ap)) ∧ (¬ l3 = l2 → (((t0 = 0 → (wX7_isBusy_71 post bk2 l1 l2 l3 M ap)) ∧ (¬ t0 = 0 → ((vp_in l3 8) ∧ ((((M 13 16 l3.toNatClampNeg) = 111 → (post 1)) ∧ (¬ (M 13 16 l3.toNatClampNeg) = 111 → (((¬ (M 13 16 l3.toNatClampNeg) = 103 → (wX7_isBusy_71 post bk2 l1 l2 l3 M ap)) ∧ ((M 13 16 l3.toNatClampNeg) = 103 → (post 1)))))))))))))
set_option maxHeartbeats 4000000 in
set_option maxRecDepth 100000 in
theorem bX7_isBusy_35 {p : Program} {l : Launch} {e : Env} {s : State} {m : MethodId} {args : Array Value} {below : List Frame} {meth : Method} {c : Code} {D : va_G} {cI : Nat → ClassId} {e0 : Nat} {A : Nat → Prop} {ad : Nat → Nat → Nat} {K : KS} {o : Int64} {od : UInt64} {mc ms : Nat} {M : KS} {ap : Int64} {post : Int32 → Prop} {bk2 : Int32 → Int32 → Int32 → KS → Int64 → Prop} (S : CallFix p m c cX7_isBusy 5 s args WU RX7) (hg : GI D cI e0 A s s.heap) (hr : meth.sig.returnType = (some FieldType.boolean)) (hlk : meth.locks = false) (hout : ∀ x ∈ c.exceptionTable.toList, False) (hbk2 : ∀ {H : Heap} {locs : List Loc} {ls : Array Slot} {l1 : Int32} {l2 : Int32} {l3 : Int32}, va_S A s.heap H locs → HT D cI e0 A ad K M ap o od H → lv_has ls 5 [(0, .ref (ad 3 0)), (1, .int l1), (2, .int l2), (3, .int l3)] → bk2 l1 l2 l3 M ap → W p l e ({ frames := 0, cells := mc, slots := ms, locals := 0 } : Room) s m args below meth c H locs 0 0 (MQQ below (qP D cI e0 A ad K M ap o od rI post) xN args s mc ms A) (F0 m 2 ls [])) {H : Heap} {locs : List Loc} {ls : Array Slot} {l1 : Int32} {l2 : Int32} {l3 : Int32} {t0 : Int32} (hS : va_S A s.heap H locs) (hw : HT D cI e0 A ad K M ap o od H) (hl : lv_has ls 5 [(0, .ref (ad 3 0)), (1, .int l1), (2, .int l2), (3, .int l3)]) (h : wX7_isBusy_35 post bk2 l1 l2 l3 t0 M ap) : W p l e ({ frames := 0, cells := mc, slots := ms, locals := 0 } : Room) s m args below meth c H locs 0 0 (MQQ below (qP D cI e0 A ad K M ap o od rI post) xN args s mc ms A) (F0 m 35 ls [.int t0]) := by
  unfold wX7_isBusy_35 at h
  refine lv_istore (lv' := [(4, .int t0), (0, .ref (ad 3 0)), (1, .int l1), (2, .int l2), (3, .int l3)]) S.1 S.2.1 dX7_isBusy_35 hl (by decide) rfl (fun ls hl => ?_)
  refine lv_iload_n S.1 S.2.1 dX7_isBusy_37 rfl (lv_at hl 4 rfl) ?_
  refine lv_iload_n S.1 S.2.1 dX7_isBusy_38 rfl (lv_at hl 3 rfl) ?_
  refine lv_icmp_eq (tgt := 71) S.1 S.2.1 dX7_isBusy_39 (by decide) (fun c4 => ?_) (fun c4 => ?_)
  · have h := h.1 c4
    have hl := lv_sub hl (l' := [(0, .ref (ad 3 0)), (1, .int l1), (2, .int l2), (3, .int l3)]) [1, 2, 3, 4] rfl
    exact bX7_isBusy_71 S hg hr hlk hout hbk2 hS hw hl h
  · have h := h.2 c4
    refine lv_iload S.1 S.2.1 dX7_isBusy_42 (lv_at hl 0 rfl) ?_
    refine lv_if_eq (tgt := 71) S.1 S.2.1 dX7_isBusy_44 (by decide) (fun c5 => ?_) (fun c5 => ?_)
    · have h := h.1 c5
      have hl := lv_sub hl (l' := [(0, .ref (ad 3 0)), (1, .int l1), (2, .int l2), (3, .int l3)]) [1, 2, 3, 4] rfl
      exact bX7_isBusy_71 S hg hr hlk hout hbk2 hS hw hl h
    · have h := h.2 c5
      refine lv_aload_n S.1 S.2.1 dX7_isBusy_47 rfl (lv_at hl 1 rfl) ?_
      refine g3_16 S hg hw u1060 dX7_isBusy_48 ?_
      refine lv_iload_n S.1 S.2.1 dX7_isBusy_51 rfl (lv_at hl 4 rfl) ?_
      obtain ⟨g6, h⟩ := h
      refine a13 S hg hw rfl g6 dX7_isBusy_52 ?_
      refine lv_bipush (v := 111) S.1 S.2.1 dX7_isBusy_53 (by decide) ?_
      refine lv_icmp_eq (tgt := 69) S.1 S.2.1 dX7_isBusy_55 (by decide) (fun c7 => ?_) (fun c7 => ?_)
      · have h := h.1 c7
        refine lv_iconst (v := 1) S.1 S.2.1 dX7_isBusy_69 (by decide) ?_
        exact r_iret (y := yX7_isBusy) S hr rfl hlk hS (by omega) (by omega) dX7_isBusy_70 ⟨1, rfl, h, hw⟩
      · have h := h.2 c7
        refine lv_aload_n S.1 S.2.1 dX7_isBusy_58 rfl (lv_at hl 1 rfl) ?_
        refine g3_16 S hg hw u1060 dX7_isBusy_59 ?_
        refine lv_iload_n S.1 S.2.1 dX7_isBusy_62 rfl (lv_at hl 4 rfl) ?_
        refine a13 S hg hw rfl g6 dX7_isBusy_63 ?_
        refine lv_bipush (v := 103) S.1 S.2.1 dX7_isBusy_64 (by decide) ?_
        refine lv_icmp_ne (tgt := 71) S.1 S.2.1 dX7_isBusy_66 (by decide) (fun c8 => ?_) (fun c8 => ?_)
        · have h := h.1 c8
          have hl := lv_sub hl (l' := [(0, .ref (ad 3 0)), (1, .int l1), (2, .int l2), (3, .int l3)]) [1, 2, 3, 4] rfl
          exact bX7_isBusy_71 S hg hr hlk hout hbk2 hS hw hl h
        · have h := h.2 c8
          refine lv_iconst (v := 1) S.1 S.2.1 dX7_isBusy_69 (by decide) ?_
          exact r_iret (y := yX7_isBusy) S hr rfl hlk hS (by omega) (by omega) dX7_isBusy_70 ⟨1, rfl, h, hw⟩
def wX7_isBusy_30 (post : Int32 → Prop) (bk2 : Int32 → Int32 → Int32 → KS → Int64 → Prop) (l1 : Int32) (l2 : Int32) (l3 : Int32) (M : KS) (ap : Int64) : Prop := wX7_isBusy_35 post bk2 l1 l2 l3 1 M ap
set_option maxHeartbeats 4000000 in
set_option maxRecDepth 100000 in
theorem bX7_isBusy_30 {p : Program} {l : Launch} {e : Env} {s : State} {m : MethodId} {args : Array Value} {below : List Frame} {meth : Method} {c : Code} {D : va_G} {cI : Nat → ClassId} {e0 : Nat} {A : Nat → Prop} {ad : Nat → Nat → Nat} {K : KS} {o : Int64} {od : UInt64} {mc ms : Nat} {M : KS} {ap : Int64} {post : Int32 → Prop} {bk2 : Int32 → Int32 → Int32 → KS → Int64 → Prop} (S : CallFix p m c cX7_isBusy 5 s args WU RX7) (hg : GI D cI e0 A s s.heap) (hr : meth.sig.returnType = (some FieldType.boolean)) (hlk : meth.locks = false) (hout : ∀ x ∈ c.exceptionTable.toList, False) (hbk2 : ∀ {H : Heap} {locs : List Loc} {ls : Array Slot} {l1 : Int32} {l2 : Int32} {l3 : Int32}, va_S A s.heap H locs → HT D cI e0 A ad K M ap o od H → lv_has ls 5 [(0, .ref (ad 3 0)), (1, .int l1), (2, .int l2), (3, .int l3)] → bk2 l1 l2 l3 M ap → W p l e ({ frames := 0, cells := mc, slots := ms, locals := 0 } : Room) s m args below meth c H locs 0 0 (MQQ below (qP D cI e0 A ad K M ap o od rI post) xN args s mc ms A) (F0 m 2 ls [])) {H : Heap} {locs : List Loc} {ls : Array Slot} {l1 : Int32} {l2 : Int32} {l3 : Int32} (hS : va_S A s.heap H locs) (hw : HT D cI e0 A ad K M ap o od H) (hl : lv_has ls 5 [(0, .ref (ad 3 0)), (1, .int l1), (2, .int l2), (3, .int l3)]) (h : wX7_isBusy_30 post bk2 l1 l2 l3 M ap) : W p l e ({ frames := 0, cells := mc, slots := ms, locals := 0 } : Room) s m args below meth c H locs 0 0 (MQQ below (qP D cI e0 A ad K M ap o od rI post) xN args s mc ms A) (F0 m 30 ls []) := by
  unfold wX7_isBusy_30 at h
  refine lv_iconst (v := 1) S.1 S.2.1 dX7_isBusy_30 (by decide) ?_
  refine lv_goto (tgt := 35) S.1 S.2.1 dX7_isBusy_31 (by decide) ?_
  have hl := lv_sub hl (l' := [(0, .ref (ad 3 0)), (1, .int l1), (2, .int l2), (3, .int l3)]) [0, 1, 2, 3] rfl
  exact bX7_isBusy_35 S hg hr hlk hout hbk2 hS hw hl h
def wX7_isBusy_2 (post : Int32 → Prop) : Nat → Int32 → Int32 → Int32 → KS → Int64 → Prop
  | 0 => fun _ _ _ _ _ => False
  | n + 1 => fun l1 l2 l3 M ap => (((M 3 13 0) ≤ l3 → (post 0)) ∧ (¬ (M 3 13 0) ≤ l3 → ((vp_in l3 8) ∧ ((((M 16 14 l3.toNatClampNeg) = l1 → (wX7_isBusy_30 post (wX7_isBusy_2 post n) l1 l2 l3 M ap)) ∧ (¬ (M 16 14 l3.toNatClampNeg) = l1 → ((vp_in l3 8) ∧ (((¬ (M 16 15 l3.toNatClampNeg) = l1 → (wX7_isBusy_35 post (wX7_isBusy_2 post n) l1 l2 l3 0 M ap)) ∧ ((M 16 15 l3.toNatClampNeg) = l1 → (wX7_isBusy_30 post (wX7_isBusy_2 post n) l1 l2 l3 M ap)))))))))))
set_option maxHeartbeats 4000000 in
set_option maxRecDepth 100000 in
theorem bX7_isBusy_2 {p : Program} {l : Launch} {e : Env} {s : State} {m : MethodId} {args : Array Value} {below : List Frame} {meth : Method} {c : Code} {D : va_G} {cI : Nat → ClassId} {e0 : Nat} {A : Nat → Prop} {ad : Nat → Nat → Nat} {K : KS} {o : Int64} {od : UInt64} {mc ms : Nat} {M : KS} {ap : Int64} {post : Int32 → Prop} (S : CallFix p m c cX7_isBusy 5 s args WU RX7) (hg : GI D cI e0 A s s.heap) (hr : meth.sig.returnType = (some FieldType.boolean)) (hlk : meth.locks = false) (hout : ∀ x ∈ c.exceptionTable.toList, False) : ∀ n : Nat, ∀ {H : Heap} {locs : List Loc} {ls : Array Slot} {l1 : Int32} {l2 : Int32} {l3 : Int32}, va_S A s.heap H locs → HT D cI e0 A ad K M ap o od H → lv_has ls 5 [(0, .ref (ad 3 0)), (1, .int l1), (2, .int l2), (3, .int l3)] → wX7_isBusy_2 post n l1 l2 l3 M ap → W p l e ({ frames := 0, cells := mc, slots := ms, locals := 0 } : Room) s m args below meth c H locs 0 0 (MQQ below (qP D cI e0 A ad K M ap o od rI post) xN args s mc ms A) (F0 m 2 ls []) := by
  intro n
  induction n with
  | zero => intros; exact False.elim (by assumption)
  | succ n ih =>
    intro H locs ls l1 l2 l3 hS hw hl h
    unfold wX7_isBusy_2 at h
    refine lv_iload_n S.1 S.2.1 dX7_isBusy_2 rfl (lv_at hl 3 rfl) ?_
    refine lv_aload_n S.1 S.2.1 dX7_isBusy_3 rfl (lv_at hl 0 rfl) ?_
    refine g3_13 S hg hw u1057 dX7_isBusy_4 ?_
    refine lv_icmp_ge (tgt := 77) S.1 S.2.1 dX7_isBusy_7 (by decide) (fun c1 => ?_) (fun c1 => ?_)
    · have h := h.1 c1
      refine lv_iconst (v := 0) S.1 S.2.1 dX7_isBusy_77 (by decide) ?_
      exact r_iret (y := yX7_isBusy) S hr rfl hlk hS (by omega) (by omega) dX7_isBusy_78 ⟨0, rfl, h, hw⟩
    · have h := h.2 c1
      refine lv_aload_n S.1 S.2.1 dX7_isBusy_10 rfl (lv_at hl 0 rfl) ?_
      refine g3_14 S hg hw u1058 dX7_isBusy_11 ?_
      refine lv_iload_n S.1 S.2.1 dX7_isBusy_14 rfl (lv_at hl 3 rfl) ?_
      obtain ⟨g2, h⟩ := h
      refine a16 S hg hw rfl g2 dX7_isBusy_15 ?_
      refine lv_iload_n S.1 S.2.1 dX7_isBusy_16 rfl (lv_at hl 1 rfl) ?_
      refine lv_icmp_eq (tgt := 30) S.1 S.2.1 dX7_isBusy_17 (by decide) (fun c3 => ?_) (fun c3 => ?_)
      · have h := h.1 c3
        have hl := lv_sub hl (l' := [(0, .ref (ad 3 0)), (1, .int l1), (2, .int l2), (3, .int l3)]) [0, 1, 2, 3] rfl
        exact bX7_isBusy_30 S hg hr hlk hout ih hS hw hl h
      · have h := h.2 c3
        refine lv_aload_n S.1 S.2.1 dX7_isBusy_20 rfl (lv_at hl 0 rfl) ?_
        refine g3_15 S hg hw u1059 dX7_isBusy_21 ?_
        refine lv_iload_n S.1 S.2.1 dX7_isBusy_24 rfl (lv_at hl 3 rfl) ?_
        obtain ⟨g9, h⟩ := h
        refine a16 S hg hw rfl g9 dX7_isBusy_25 ?_
        refine lv_iload_n S.1 S.2.1 dX7_isBusy_26 rfl (lv_at hl 1 rfl) ?_
        refine lv_icmp_ne (tgt := 34) S.1 S.2.1 dX7_isBusy_27 (by decide) (fun c10 => ?_) (fun c10 => ?_)
        · have h := h.1 c10
          refine lv_iconst (v := 0) S.1 S.2.1 dX7_isBusy_34 (by decide) ?_
          have hl := lv_sub hl (l' := [(0, .ref (ad 3 0)), (1, .int l1), (2, .int l2), (3, .int l3)]) [0, 1, 2, 3] rfl
          exact bX7_isBusy_35 S hg hr hlk hout ih hS hw hl h
        · have h := h.2 c10
          have hl := lv_sub hl (l' := [(0, .ref (ad 3 0)), (1, .int l1), (2, .int l2), (3, .int l3)]) [0, 1, 2, 3] rfl
          exact bX7_isBusy_30 S hg hr hlk hout ih hS hw hl h
def wpX7_isBusy (post : Int32 → Prop) (M : KS) (ap : Int64) (p1 : Int32) (p2 : Int32) : Prop := ∃ n1 : Nat, wX7_isBusy_2 post n1 p1 p2 0 M ap
theorem hdX7_isBusy : yX7_isBusy.cls ≠ "java/lang/invoke/MethodHandle" ∧ yX7_isBusy.cls ≠ "java/lang/invoke/VarHandle" ∧ (parseMethodDescriptor yX7_isBusy.desc).map (fun d => d.parameters.length) = some 2 := by decide +kernel
set_option maxHeartbeats 4000000 in
set_option maxRecDepth 100000 in
theorem mtX7_isBusy {l : Launch} {D : va_G} {cI : Nat → ClassId} {e0 : Nat} {A : Nat → Prop} {ad : Nat → Nat → Nat} {K M : KS} {ap o : Int64} {od : UInt64} {mc ms : Nat} {p1 : Int32} {p2 : Int32} {post : Int32 → Prop} (h : wpX7_isBusy post M ap p1 p2) : CM l D cI e0 A yX7_isBusy cX7_isBusy 5 (some FieldType.boolean) 0 0 mc ms [.ref (ad 3 0), .int p1, .int p2] (HT D cI e0 A ad K M ap o od) (qP D cI e0 A ad K M ap o od rI post) xN := by
  refine CM.of (by decide) (Nat.le_of_ble_eq_true rfl) (fun p e s m below meth c ls FX hw hS hl => ?_)
  obtain ⟨S, hg, hr, hlk, hnm, hout⟩ := FX
  have hl : lv_has ls 5 [(0, .ref (ad 3 0)), (1, .int p1), (2, .int p2)] := hl
  unfold wpX7_isBusy at h
  refine lv_iconst (v := 0) S.1 S.2.1 dX7_isBusy_0 (by decide) ?_
  refine lv_istore_n (lv' := [(3, .int 0), (0, .ref (ad 3 0)), (1, .int p1), (2, .int p2)]) S.1 S.2.1 dX7_isBusy_1 rfl hl (by decide) rfl (fun ls hl => ?_)
  have hl := lv_sub hl (l' := [(0, .ref (ad 3 0)), (1, .int p1), (2, .int p2), (3, .int 0)]) [1, 2, 3, 0] rfl
  obtain ⟨n1, h⟩ := h
  exact bX7_isBusy_2 S hg hr hlk hout n1 hS hw hl h

-- X7.duel
theorem dX7_duel_0 : decode cX7_duel 0 = .ok (.aload_n 0, 1) := by decide +kernel
theorem dX7_duel_1 : decode cX7_duel 1 = .ok (.iconst 0, 1) := by decide +kernel
theorem dX7_duel_2 : decode cX7_duel 2 = .ok (.putfield 98, 3) := by decide +kernel
theorem dX7_duel_5 : decode cX7_duel 5 = .ok (.aload_n 0, 1) := by decide +kernel
theorem dX7_duel_6 : decode cX7_duel 6 = .ok (.iload_n 1, 1) := by decide +kernel
theorem dX7_duel_7 : decode cX7_duel 7 = .ok (.invokevirtual 116, 3) := by decide +kernel
theorem dX7_duel_10 : decode cX7_duel 10 = .ok (.ifCond .eq 11, 3) := by decide +kernel
theorem dX7_duel_13 : decode cX7_duel 13 = .ok (.aload_n 0, 1) := by decide +kernel
theorem dX7_duel_14 : decode cX7_duel 14 = .ok (.iload_n 2, 1) := by decide +kernel
theorem dX7_duel_15 : decode cX7_duel 15 = .ok (.invokevirtual 116, 3) := by decide +kernel
theorem dX7_duel_18 : decode cX7_duel 18 = .ok (.ifCond .ne 9, 3) := by decide +kernel
theorem dX7_duel_21 : decode cX7_duel 21 = .ok (.aload_n 0, 1) := by decide +kernel
theorem dX7_duel_22 : decode cX7_duel 22 = .ok (.iconst 1, 1) := by decide +kernel
theorem dX7_duel_23 : decode cX7_duel 23 = .ok (.invokevirtual 106, 3) := by decide +kernel
theorem dX7_duel_26 : decode cX7_duel 26 = .ok (.ireturn, 1) := by decide +kernel
theorem dX7_duel_27 : decode cX7_duel 27 = .ok (.iload_n 1, 1) := by decide +kernel
theorem dX7_duel_28 : decode cX7_duel 28 = .ok (.iload_n 2, 1) := by decide +kernel
theorem dX7_duel_29 : decode cX7_duel 29 = .ok (.if_icmp .ne 9, 3) := by decide +kernel
theorem dX7_duel_32 : decode cX7_duel 32 = .ok (.aload_n 0, 1) := by decide +kernel
theorem dX7_duel_33 : decode cX7_duel 33 = .ok (.iconst 2, 1) := by decide +kernel
theorem dX7_duel_34 : decode cX7_duel 34 = .ok (.invokevirtual 106, 3) := by decide +kernel
theorem dX7_duel_37 : decode cX7_duel 37 = .ok (.ireturn, 1) := by decide +kernel
theorem dX7_duel_38 : decode cX7_duel 38 = .ok (.aload_n 0, 1) := by decide +kernel
theorem dX7_duel_39 : decode cX7_duel 39 = .ok (.iload_n 1, 1) := by decide +kernel
theorem dX7_duel_40 : decode cX7_duel 40 = .ok (.iconst (-1), 1) := by decide +kernel
theorem dX7_duel_41 : decode cX7_duel 41 = .ok (.invokevirtual 137, 3) := by decide +kernel
theorem dX7_duel_44 : decode cX7_duel 44 = .ok (.ifCond .ne 21, 3) := by decide +kernel
theorem dX7_duel_47 : decode cX7_duel 47 = .ok (.aload_n 0, 1) := by decide +kernel
theorem dX7_duel_48 : decode cX7_duel 48 = .ok (.iload_n 2, 1) := by decide +kernel
theorem dX7_duel_49 : decode cX7_duel 49 = .ok (.iconst (-1), 1) := by decide +kernel
theorem dX7_duel_50 : decode cX7_duel 50 = .ok (.invokevirtual 137, 3) := by decide +kernel
theorem dX7_duel_53 : decode cX7_duel 53 = .ok (.ifCond .ne 12, 3) := by decide +kernel
theorem dX7_duel_56 : decode cX7_duel 56 = .ok (.aload_n 0, 1) := by decide +kernel
theorem dX7_duel_57 : decode cX7_duel 57 = .ok (.getfield 134, 3) := by decide +kernel
theorem dX7_duel_60 : decode cX7_duel 60 = .ok (.bipush 8, 2) := by decide +kernel
theorem dX7_duel_62 : decode cX7_duel 62 = .ok (.if_icmp .ne 9, 3) := by decide +kernel
theorem dX7_duel_65 : decode cX7_duel 65 = .ok (.aload_n 0, 1) := by decide +kernel
theorem dX7_duel_66 : decode cX7_duel 66 = .ok (.iconst 3, 1) := by decide +kernel
theorem dX7_duel_67 : decode cX7_duel 67 = .ok (.invokevirtual 106, 3) := by decide +kernel
theorem dX7_duel_70 : decode cX7_duel 70 = .ok (.ireturn, 1) := by decide +kernel
theorem dX7_duel_71 : decode cX7_duel 71 = .ok (.aload_n 0, 1) := by decide +kernel
theorem dX7_duel_72 : decode cX7_duel 72 = .ok (.getfield 32, 3) := by decide +kernel
theorem dX7_duel_75 : decode cX7_duel 75 = .ok (.aload_n 0, 1) := by decide +kernel
theorem dX7_duel_76 : decode cX7_duel 76 = .ok (.getfield 134, 3) := by decide +kernel
theorem dX7_duel_79 : decode cX7_duel 79 = .ok (.iload_n 1, 1) := by decide +kernel
theorem dX7_duel_80 : decode cX7_duel 80 = .ok (.iastore, 1) := by decide +kernel
theorem dX7_duel_81 : decode cX7_duel 81 = .ok (.aload_n 0, 1) := by decide +kernel
theorem dX7_duel_82 : decode cX7_duel 82 = .ok (.getfield 35, 3) := by decide +kernel
theorem dX7_duel_85 : decode cX7_duel 85 = .ok (.aload_n 0, 1) := by decide +kernel
theorem dX7_duel_86 : decode cX7_duel 86 = .ok (.getfield 134, 3) := by decide +kernel
theorem dX7_duel_89 : decode cX7_duel 89 = .ok (.iload_n 2, 1) := by decide +kernel
theorem dX7_duel_90 : decode cX7_duel 90 = .ok (.iastore, 1) := by decide +kernel
theorem dX7_duel_91 : decode cX7_duel 91 = .ok (.aload_n 0, 1) := by decide +kernel
theorem dX7_duel_92 : decode cX7_duel 92 = .ok (.getfield 38, 3) := by decide +kernel
theorem dX7_duel_95 : decode cX7_duel 95 = .ok (.aload_n 0, 1) := by decide +kernel
theorem dX7_duel_96 : decode cX7_duel 96 = .ok (.getfield 134, 3) := by decide +kernel
theorem dX7_duel_99 : decode cX7_duel 99 = .ok (.bipush 111, 2) := by decide +kernel
theorem dX7_duel_101 : decode cX7_duel 101 = .ok (.castore, 1) := by decide +kernel
theorem dX7_duel_102 : decode cX7_duel 102 = .ok (.aload_n 0, 1) := by decide +kernel
theorem dX7_duel_103 : decode cX7_duel 103 = .ok (.getfield 44, 3) := by decide +kernel
theorem dX7_duel_106 : decode cX7_duel 106 = .ok (.iconst 2, 1) := by decide +kernel
theorem dX7_duel_107 : decode cX7_duel 107 = .ok (.aload_n 0, 1) := by decide +kernel
theorem dX7_duel_108 : decode cX7_duel 108 = .ok (.getfield 134, 3) := by decide +kernel
theorem dX7_duel_111 : decode cX7_duel 111 = .ok (.imul, 1) := by decide +kernel
theorem dX7_duel_112 : decode cX7_duel 112 = .ok (.bipush 10, 2) := by decide +kernel
theorem dX7_duel_114 : decode cX7_duel 114 = .ok (.iastore, 1) := by decide +kernel
theorem dX7_duel_115 : decode cX7_duel 115 = .ok (.aload_n 0, 1) := by decide +kernel
theorem dX7_duel_116 : decode cX7_duel 116 = .ok (.getfield 44, 3) := by decide +kernel
theorem dX7_duel_119 : decode cX7_duel 119 = .ok (.iconst 2, 1) := by decide +kernel
theorem dX7_duel_120 : decode cX7_duel 120 = .ok (.aload_n 0, 1) := by decide +kernel
theorem dX7_duel_121 : decode cX7_duel 121 = .ok (.getfield 134, 3) := by decide +kernel
theorem dX7_duel_124 : decode cX7_duel 124 = .ok (.imul, 1) := by decide +kernel
theorem dX7_duel_125 : decode cX7_duel 125 = .ok (.iconst 1, 1) := by decide +kernel
theorem dX7_duel_126 : decode cX7_duel 126 = .ok (.iadd, 1) := by decide +kernel
theorem dX7_duel_127 : decode cX7_duel 127 = .ok (.bipush 10, 2) := by decide +kernel
theorem dX7_duel_129 : decode cX7_duel 129 = .ok (.iastore, 1) := by decide +kernel
theorem dX7_duel_130 : decode cX7_duel 130 = .ok (.aload_n 0, 1) := by decide +kernel
theorem dX7_duel_131 : decode cX7_duel 131 = .ok (.dup, 1) := by decide +kernel
theorem dX7_duel_132 : decode cX7_duel 132 = .ok (.getfield 134, 3) := by decide +kernel
theorem dX7_duel_135 : decode cX7_duel 135 = .ok (.iconst 1, 1) := by decide +kernel
theorem dX7_duel_136 : decode cX7_duel 136 = .ok (.iadd, 1) := by decide +kernel
theorem dX7_duel_137 : decode cX7_duel 137 = .ok (.putfield 134, 3) := by decide +kernel
theorem dX7_duel_140 : decode cX7_duel 140 = .ok (.aload_n 0, 1) := by decide +kernel
theorem dX7_duel_141 : decode cX7_duel 141 = .ok (.getfield 134, 3) := by decide +kernel
theorem dX7_duel_144 : decode cX7_duel 144 = .ok (.iconst 1, 1) := by decide +kernel
theorem dX7_duel_145 : decode cX7_duel 145 = .ok (.isub, 1) := by decide +kernel
theorem dX7_duel_146 : decode cX7_duel 146 = .ok (.ireturn, 1) := by decide +kernel
def wpX7_duel (post : Int32 → KS → Int64 → Prop) (M : KS) (ap : Int64) (p1 : Int32) (p2 : Int32) : Prop := (wpX7_isPlayer (fun r1 => ((r1 = 0 → ((wpX7_fails (fun r3 M4 ap5 => post r3 M4 ap5) (k3 M 3 0 0 0) ap 1))) ∧ (¬ r1 = 0 → ((wpX7_isPlayer (fun r6 => ((¬ r6 = 0 → (((¬ p1 = p2 → ((wpX7_isBusy (fun r9 => ((¬ r9 = 0 → ((wpX7_fails (fun r11 M12 ap13 => post r11 M12 ap13) (k3 M 3 0 0 0) ap 3))) ∧ (r9 = 0 → ((wpX7_isBusy (fun r14 => ((¬ r14 = 0 → ((wpX7_fails (fun r16 M17 ap18 => post r16 M17 ap18) (k3 M 3 0 0 0) ap 3))) ∧ (r14 = 0 → (((¬ ((k3 M 3 0 0 0) 3 13 0) = 8 → ((vp_in ((k3 M 3 0 0 0) 3 13 0) 8) ∧ ((vp_in ((k3 (k3 M 3 0 0 0) 16 14 (((k3 M 3 0 0 0) 3 13 0).toNatClampNeg) p1) 3 13 0) 8) ∧ ((vp_in ((k3 (k3 (k3 M 3 0 0 0) 16 14 (((k3 M 3 0 0 0) 3 13 0).toNatClampNeg) p1) 16 15 (((k3 (k3 M 3 0 0 0) 16 14 (((k3 M 3 0 0 0) 3 13 0).toNatClampNeg) p1) 3 13 0).toNatClampNeg) p2) 3 13 0) 8) ∧ ((vp_in (2 * ((k3 (k3 (k3 (k3 M 3 0 0 0) 16 14 (((k3 M 3 0 0 0) 3 13 0).toNatClampNeg) p1) 16 15 (((k3 (k3 M 3 0 0 0) 16 14 (((k3 M 3 0 0 0) 3 13 0).toNatClampNeg) p1) 3 13 0).toNatClampNeg) p2) 13 16 (((k3 (k3 (k3 M 3 0 0 0) 16 14 (((k3 M 3 0 0 0) 3 13 0).toNatClampNeg) p1) 16 15 (((k3 (k3 M 3 0 0 0) 16 14 (((k3 M 3 0 0 0) 3 13 0).toNatClampNeg) p1) 3 13 0).toNatClampNeg) p2) 3 13 0).toNatClampNeg) 111) 3 13 0)) 16) ∧ ((vp_in ((2 * ((k3 (k3 (k3 (k3 (k3 M 3 0 0 0) 16 14 (((k3 M 3 0 0 0) 3 13 0).toNatClampNeg) p1) 16 15 (((k3 (k3 M 3 0 0 0) 16 14 (((k3 M 3 0 0 0) 3 13 0).toNatClampNeg) p1) 3 13 0).toNatClampNeg) p2) 13 16 (((k3 (k3 (k3 M 3 0 0 0) 16 14 (((k3 M 3 0 0 0) 3 13 0).toNatClampNeg) p1) 16 15 (((k3 (k3 M 3 0 0 0) 16 14 (((k3 M 3 0 0 0) 3 13 0).toNatClampNeg) p1) 3 13 0).toNatClampNeg) p2) 3 13 0).toNatClampNeg) 111) 16 18 ((2 * ((k3 (k3 (k3 (k3 M 3 0 0 0) 16 14 (((k3 M 3 0 0 0) 3 13 0).toNatClampNeg) p1) 16 15 (((k3 (k3 M 3 0 0 0) 16 14 (((k3 M 3 0 0 0) 3 13 0).toNatClampNeg) p1) 3 13 0).toNatClampNeg) p2) 13 16 (((k3 (k3 (k3 M 3 0 0 0) 16 14 (((k3 M 3 0 0 0) 3 13 0).toNatClampNeg) p1) 16 15 (((k3 (k3 M 3 0 0 0) 16 14 (((k3 M 3 0 0 0) 3 13 0).toNatClampNeg) p1) 3 13 0).toNatClampNeg) p2) 3 13 0).toNatClampNeg) 111) 3 13 0)).toNatClampNeg) 10) 3 13 0)) + 1) 16) ∧ (post (((k3 (k3 (k3 (k3 (k3 (k3 (k3 M 3 0 0 0) 16 14 (((k3 M 3 0 0 0) 3 13 0).toNatClampNeg) p1) 16 15 (((k3 (k3 M 3 0 0 0) 16 14 (((k3 M 3 0 0 0) 3 13 0).toNatClampNeg) p1) 3 13 0).toNatClampNeg) p2) 13 16 (((k3 (k3 (k3 M 3 0 0 0) 16 14 (((k3 M 3 0 0 0) 3 13 0).toNatClampNeg) p1) 16 15 (((k3 (k3 M 3 0 0 0) 16 14 (((k3 M 3 0 0 0) 3 13 0).toNatClampNeg) p1) 3 13 0).toNatClampNeg) p2) 3 13 0).toNatClampNeg) 111) 16 18 ((2 * ((k3 (k3 (k3 (k3 M 3 0 0 0) 16 14 (((k3 M 3 0 0 0) 3 13 0).toNatClampNeg) p1) 16 15 (((k3 (k3 M 3 0 0 0) 16 14 (((k3 M 3 0 0 0) 3 13 0).toNatClampNeg) p1) 3 13 0).toNatClampNeg) p2) 13 16 (((k3 (k3 (k3 M 3 0 0 0) 16 14 (((k3 M 3 0 0 0) 3 13 0).toNatClampNeg) p1) 16 15 (((k3 (k3 M 3 0 0 0) 16 14 (((k3 M 3 0 0 0) 3 13 0).toNatClampNeg) p1) 3 13 0).toNatClampNeg) p2) 3 13 0).toNatClampNeg) 111) 3 13 0)).toNatClampNeg) 10) 16 18 (((2 * ((k3 (k3 (k3 (k3 (k3 M 3 0 0 0) 16 14 (((k3 M 3 0 0 0) 3 13 0).toNatClampNeg) p1) 16 15 (((k3 (k3 M 3 0 0 0) 16 14 (((k3 M 3 0 0 0) 3 13 0).toNatClampNeg) p1) 3 13 0).toNatClampNeg) p2) 13 16 (((k3 (k3 (k3 M 3 0 0 0) 16 14 (((k3 M 3 0 0 0) 3 13 0).toNatClampNeg) p1) 16 15 (((k3 (k3 M 3 0 0 0) 16 14 (((k3 M 3 0 0 0) 3 13 0).toNatClampNeg) p1) 3 13 0).toNatClampNeg) p2) 3 13 0).toNatClampNeg) 111) 16 18 ((2 * ((k3 (k3 (k3 (k3 M 3 0 0 0) 16 14 (((k3 M 3 0 0 0) 3 13 0).toNatClampNeg) p1) 16 15 (((k3 (k3 M 3 0 0 0) 16 14 (((k3 M 3 0 0 0) 3 13 0).toNatClampNeg) p1) 3 13 0).toNatClampNeg) p2) 13 16 (((k3 (k3 (k3 M 3 0 0 0) 16 14 (((k3 M 3 0 0 0) 3 13 0).toNatClampNeg) p1) 16 15 (((k3 (k3 M 3 0 0 0) 16 14 (((k3 M 3 0 0 0) 3 13 0).toNatClampNeg) p1) 3 13 0).toNatClampNeg) p2) 3 13 0).toNatClampNeg) 111) 3 13 0)).toNatClampNeg) 10) 3 13 0)) + 1).toNatClampNeg) 10) 3 13 0 (((k3 (k3 (k3 (k3 (k3 (k3 M 3 0 0 0) 16 14 (((k3 M 3 0 0 0) 3 13 0).toNatClampNeg) p1) 16 15 (((k3 (k3 M 3 0 0 0) 16 14 (((k3 M 3 0 0 0) 3 13 0).toNatClampNeg) p1) 3 13 0).toNatClampNeg) p2) 13 16 (((k3 (k3 (k3 M 3 0 0 0) 16 14 (((k3 M 3 0 0 0) 3 13 0).toNatClampNeg) p1) 16 15 (((k3 (k3 M 3 0 0 0) 16 14 (((k3 M 3 0 0 0) 3 13 0).toNatClampNeg) p1) 3 13 0).toNatClampNeg) p2) 3 13 0).toNatClampNeg) 111) 16 18 ((2 * ((k3 (k3 (k3 (k3 M 3 0 0 0) 16 14 (((k3 M 3 0 0 0) 3 13 0).toNatClampNeg) p1) 16 15 (((k3 (k3 M 3 0 0 0) 16 14 (((k3 M 3 0 0 0) 3 13 0).toNatClampNeg) p1) 3 13 0).toNatClampNeg) p2) 13 16 (((k3 (k3 (k3 M 3 0 0 0) 16 14 (((k3 M 3 0 0 0) 3 13 0).toNatClampNeg) p1) 16 15 (((k3 (k3 M 3 0 0 0) 16 14 (((k3 M 3 0 0 0) 3 13 0).toNatClampNeg) p1) 3 13 0).toNatClampNeg) p2) 3 13 0).toNatClampNeg) 111) 3 13 0)).toNatClampNeg) 10) 16 18 (((2 * ((k3 (k3 (k3 (k3 (k3 M 3 0 0 0) 16 14 (((k3 M 3 0 0 0) 3 13 0).toNatClampNeg) p1) 16 15 (((k3 (k3 M 3 0 0 0) 16 14 (((k3 M 3 0 0 0) 3 13 0).toNatClampNeg) p1) 3 13 0).toNatClampNeg) p2) 13 16 (((k3 (k3 (k3 M 3 0 0 0) 16 14 (((k3 M 3 0 0 0) 3 13 0).toNatClampNeg) p1) 16 15 (((k3 (k3 M 3 0 0 0) 16 14 (((k3 M 3 0 0 0) 3 13 0).toNatClampNeg) p1) 3 13 0).toNatClampNeg) p2) 3 13 0).toNatClampNeg) 111) 16 18 ((2 * ((k3 (k3 (k3 (k3 M 3 0 0 0) 16 14 (((k3 M 3 0 0 0) 3 13 0).toNatClampNeg) p1) 16 15 (((k3 (k3 M 3 0 0 0) 16 14 (((k3 M 3 0 0 0) 3 13 0).toNatClampNeg) p1) 3 13 0).toNatClampNeg) p2) 13 16 (((k3 (k3 (k3 M 3 0 0 0) 16 14 (((k3 M 3 0 0 0) 3 13 0).toNatClampNeg) p1) 16 15 (((k3 (k3 M 3 0 0 0) 16 14 (((k3 M 3 0 0 0) 3 13 0).toNatClampNeg) p1) 3 13 0).toNatClampNeg) p2) 3 13 0).toNatClampNeg) 111) 3 13 0)).toNatClampNeg) 10) 3 13 0)) + 1).toNatClampNeg) 10) 3 13 0) + 1)) 3 13 0) - 1) (k3 (k3 (k3 (k3 (k3 (k3 (k3 M 3 0 0 0) 16 14 (((k3 M 3 0 0 0) 3 13 0).toNatClampNeg) p1) 16 15 (((k3 (k3 M 3 0 0 0) 16 14 (((k3 M 3 0 0 0) 3 13 0).toNatClampNeg) p1) 3 13 0).toNatClampNeg) p2) 13 16 (((k3 (k3 (k3 M 3 0 0 0) 16 14 (((k3 M 3 0 0 0) 3 13 0).toNatClampNeg) p1) 16 15 (((k3 (k3 M 3 0 0 0) 16 14 (((k3 M 3 0 0 0) 3 13 0).toNatClampNeg) p1) 3 13 0).toNatClampNeg) p2) 3 13 0).toNatClampNeg) 111) 16 18 ((2 * ((k3 (k3 (k3 (k3 M 3 0 0 0) 16 14 (((k3 M 3 0 0 0) 3 13 0).toNatClampNeg) p1) 16 15 (((k3 (k3 M 3 0 0 0) 16 14 (((k3 M 3 0 0 0) 3 13 0).toNatClampNeg) p1) 3 13 0).toNatClampNeg) p2) 13 16 (((k3 (k3 (k3 M 3 0 0 0) 16 14 (((k3 M 3 0 0 0) 3 13 0).toNatClampNeg) p1) 16 15 (((k3 (k3 M 3 0 0 0) 16 14 (((k3 M 3 0 0 0) 3 13 0).toNatClampNeg) p1) 3 13 0).toNatClampNeg) p2) 3 13 0).toNatClampNeg) 111) 3 13 0)).toNatClampNeg) 10) 16 18 (((2 * ((k3 (k3 (k3 (k3 (k3 M 3 0 0 0) 16 14 (((k3 M 3 0 0 0) 3 13 0).toNatClampNeg) p1) 16 15 (((k3 (k3 M 3 0 0 0) 16 14 (((k3 M 3 0 0 0) 3 13 0).toNatClampNeg) p1) 3 13 0).toNatClampNeg) p2) 13 16 (((k3 (k3 (k3 M 3 0 0 0) 16 14 (((k3 M 3 0 0 0) 3 13 0).toNatClampNeg) p1) 16 15 (((k3 (k3 M 3 0 0 0) 16 14 (((k3 M 3 0 0 0) 3 13 0).toNatClampNeg) p1) 3 13 0).toNatClampNeg) p2) 3 13 0).toNatClampNeg) 111) 16 18 ((2 * ((k3 (k3 (k3 (k3 M 3 0 0 0) 16 14 (((k3 M 3 0 0 0) 3 13 0).toNatClampNeg) p1) 16 15 (((k3 (k3 M 3 0 0 0) 16 14 (((k3 M 3 0 0 0) 3 13 0).toNatClampNeg) p1) 3 13 0).toNatClampNeg) p2) 13 16 (((k3 (k3 (k3 M 3 0 0 0) 16 14 (((k3 M 3 0 0 0) 3 13 0).toNatClampNeg) p1) 16 15 (((k3 (k3 M 3 0 0 0) 16 14 (((k3 M 3 0 0 0) 3 13 0).toNatClampNeg) p1) 3 13 0).toNatClampNeg) p2) 3 13 0).toNatClampNeg) 111) 3 13 0)).toNatClampNeg) 10) 3 13 0)) + 1).toNatClampNeg) 10) 3 13 0 (((k3 (k3 (k3 (k3 (k3 (k3 M 3 0 0 0) 16 14 (((k3 M 3 0 0 0) 3 13 0).toNatClampNeg) p1) 16 15 (((k3 (k3 M 3 0 0 0) 16 14 (((k3 M 3 0 0 0) 3 13 0).toNatClampNeg) p1) 3 13 0).toNatClampNeg) p2) 13 16 (((k3 (k3 (k3 M 3 0 0 0) 16 14 (((k3 M 3 0 0 0) 3 13 0).toNatClampNeg) p1) 16 15 (((k3 (k3 M 3 0 0 0) 16 14 (((k3 M 3 0 0 0) 3 13 0).toNatClampNeg) p1) 3 13 0).toNatClampNeg) p2) 3 13 0).toNatClampNeg) 111) 16 18 ((2 * ((k3 (k3 (k3 (k3 M 3 0 0 0) 16 14 (((k3 M 3 0 0 0) 3 13 0).toNatClampNeg) p1) 16 15 (((k3 (k3 M 3 0 0 0) 16 14 (((k3 M 3 0 0 0) 3 13 0).toNatClampNeg) p1) 3 13 0).toNatClampNeg) p2) 13 16 (((k3 (k3 (k3 M 3 0 0 0) 16 14 (((k3 M 3 0 0 0) 3 13 0).toNatClampNeg) p1) 16 15 (((k3 (k3 M 3 0 0 0) 16 14 (((k3 M 3 0 0 0) 3 13 0).toNatClampNeg) p1) 3 13 0).toNatClampNeg) p2) 3 13 0).toNatClampNeg) 111) 3 13 0)).toNatClampNeg) 10) 16 18 (((2 * ((k3 (k3 (k3 (k3 (k3 M 3 0 0 0) 16 14 (((k3 M 3 0 0 0) 3 13 0).toNatClampNeg) p1) 16 15 (((k3 (k3 M 3 0 0 0) 16 14 (((k3 M 3 0 0 0) 3 13 0).toNatClampNeg) p1) 3 13 0).toNatClampNeg) p2) 13 16 (((k3 (k3 (k3 M 3 0 0 0) 16 14 (((k3 M 3 0 0 0) 3 13 0).toNatClampNeg) p1) 16 15 (((k3 (k3 M 3 0 0 0) 16 14 (((k3 M 3 0 0 0) 3 13 0).toNatClampNeg) p1) 3 13 0).toNatClampNeg) p2) 3 13 0).toNatClampNeg) 111) 16 18 ((2 * ((k3 (k3 (k3 (k3 M 3 0 0 0) 16 14 (((k3 M 3 0 0 0) 3 13 0).toNatClampNeg) p1) 16 15 (((k3 (k3 M 3 0 0 0) 16 14 (((k3 M 3 0 0 0) 3 13 0).toNatClampNeg) p1) 3 13 0).toNatClampNeg) p2) 13 16 (((k3 (k3 (k3 M 3 0 0 0) 16 14 (((k3 M 3 0 0 0) 3 13 0).toNatClampNeg) p1) 16 15 (((k3 (k3 M 3 0 0 0) 16 14 (((k3 M 3 0 0 0) 3 13 0).toNatClampNeg) p1) 3 13 0).toNatClampNeg) p2) 3 13 0).toNatClampNeg) 111) 3 13 0)).toNatClampNeg) 10) 3 13 0)) + 1).toNatClampNeg) 10) 3 13 0) + 1)) ap))))))) ∧ (((k3 M 3 0 0 0) 3 13 0) = 8 → ((wpX7_fails (fun r25 M26 ap27 => post r25 M26 ap27) (k3 M 3 0 0 0) ap 3)))))))) (k3 M 3 0 0 0) ap p2 (-1)))))) (k3 M 3 0 0 0) ap p1 (-1)))) ∧ (p1 = p2 → ((wpX7_fails (fun r28 M29 ap30 => post r28 M29 ap30) (k3 M 3 0 0 0) ap 2)))))) ∧ (r6 = 0 → ((wpX7_fails (fun r31 M32 ap33 => post r31 M32 ap33) (k3 M 3 0 0 0) ap 1))))) (k3 M 3 0 0 0) ap p2))))) (k3 M 3 0 0 0) ap p1)
theorem hdX7_duel : yX7_duel.cls ≠ "java/lang/invoke/MethodHandle" ∧ yX7_duel.cls ≠ "java/lang/invoke/VarHandle" ∧ (parseMethodDescriptor yX7_duel.desc).map (fun d => d.parameters.length) = some 2 := by decide +kernel
set_option maxHeartbeats 4000000 in
set_option maxRecDepth 100000 in
theorem mtX7_duel {l : Launch} {D : va_G} {cI : Nat → ClassId} {e0 : Nat} {A : Nat → Prop} {ad : Nat → Nat → Nat} {K M : KS} {ap o : Int64} {od : UInt64} {mc ms : Nat} {p1 : Int32} {p2 : Int32} {post : Int32 → KS → Int64 → Prop} (h : wpX7_duel post M ap p1 p2) : CM l D cI e0 A yX7_duel cX7_duel 3 (some FieldType.int) 2 43 mc ms [.ref (ad 3 0), .int p1, .int p2] (HT D cI e0 A ad K M ap o od) (qM D cI e0 A ad K o od rI post) xN := by
  refine CM.of (by decide) (Nat.le_of_ble_eq_true rfl) (fun p e s m below meth c ls FX hw hS hl => ?_)
  obtain ⟨S, hg, hr, hlk, hnm, hout⟩ := FX
  have hl : lv_has ls 3 [(0, .ref (ad 3 0)), (1, .int p1), (2, .int p2)] := hl
  unfold wpX7_duel at h
  refine lv_aload_n S.1 S.2.1 dX7_duel_0 rfl (lv_at hl 0 rfl) ?_
  refine lv_iconst (v := 0) S.1 S.2.1 dX7_duel_1 (by decide) ?_
  refine p3_0 S hg hS hw u1044 dX7_duel_2 (fun H locs hw hS => ?_)
  refine lv_aload_n S.1 S.2.1 dX7_duel_5 rfl (lv_at hl 0 rfl) ?_
  refine lv_iload_n S.1 S.2.1 dX7_duel_6 rfl (lv_at hl 1 rfl) ?_
  refine r_call (rest := []) S hg hS (mtX7_isPlayer (mc := 0) (ms := 0) h) u1179 u1181 u27 u49 u1182 hdX7_isPlayer (rv3 hg hw) hw ⟨Nat.le_of_ble_eq_true rfl, Nat.le_of_ble_eq_true rfl⟩ ⟨by show 0 + 0 ≤ mc; omega, by show 0 + 0 ≤ ms; omega⟩ hl.1 (Nat.le_of_ble_eq_true rfl) rfl dX7_duel_7 (fun E ce q H1 locs1 hx hS1 hc1 hc2 hc3 => hx.elim) (fun rv H locs hq hS => ?_)
  obtain ⟨r1, rfl, h, hw⟩ := hq
  show W p l e _ s m _ below meth c H locs _ _ _ (F0 m 10 ls [.int r1])
  show W p l e _ s m _ below meth c H locs 0 0 _ _
  refine lv_if_eq (tgt := 21) S.1 S.2.1 dX7_duel_10 (by decide) (fun c2 => ?_) (fun c2 => ?_)
  · have h := h.1 c2
    refine lv_aload_n S.1 S.2.1 dX7_duel_21 rfl (lv_at hl 0 rfl) ?_
    refine lv_iconst (v := 1) S.1 S.2.1 dX7_duel_22 (by decide) ?_
    refine r_call (rest := []) S hg hS (mtX7_fails (mc := 0) (ms := 0) h) u1171 u1173 u26 u49 u1174 hdX7_fails (rv3 hg hw) hw ⟨Nat.le_of_ble_eq_true rfl, Nat.le_of_ble_eq_true rfl⟩ ⟨by show 0 + 0 ≤ mc; omega, by show 0 + 0 ≤ ms; omega⟩ hl.1 (Nat.le_of_ble_eq_true rfl) rfl dX7_duel_23 (fun E ce q H1 locs1 hx hS1 hc1 hc2 hc3 => hx.elim) (fun rv H locs hq hS => ?_)
    obtain ⟨r3, M4, ap5, rfl, h, hw⟩ := hq
    show W p l e _ s m _ below meth c H locs _ _ _ (F0 m 26 ls [.int r3])
    show W p l e _ s m _ below meth c H locs 0 0 _ _
    exact r_iret (y := yX7_duel) S hr rfl hlk hS (by omega) (by omega) dX7_duel_26 ⟨r3, _, _, rfl, h, hw⟩
  · have h := h.2 c2
    refine lv_aload_n S.1 S.2.1 dX7_duel_13 rfl (lv_at hl 0 rfl) ?_
    refine lv_iload_n S.1 S.2.1 dX7_duel_14 rfl (lv_at hl 2 rfl) ?_
    refine r_call (rest := []) S hg hS (mtX7_isPlayer (mc := 0) (ms := 0) h) u1179 u1181 u27 u49 u1182 hdX7_isPlayer (rv3 hg hw) hw ⟨Nat.le_of_ble_eq_true rfl, Nat.le_of_ble_eq_true rfl⟩ ⟨by show 0 + 0 ≤ mc; omega, by show 0 + 0 ≤ ms; omega⟩ hl.1 (Nat.le_of_ble_eq_true rfl) rfl dX7_duel_15 (fun E ce q H1 locs1 hx hS1 hc1 hc2 hc3 => hx.elim) (fun rv H locs hq hS => ?_)
    obtain ⟨r6, rfl, h, hw⟩ := hq
    show W p l e _ s m _ below meth c H locs _ _ _ (F0 m 18 ls [.int r6])
    show W p l e _ s m _ below meth c H locs 0 0 _ _
    refine lv_if_ne (tgt := 27) S.1 S.2.1 dX7_duel_18 (by decide) (fun c7 => ?_) (fun c7 => ?_)
    · have h := h.1 c7
      refine lv_iload_n S.1 S.2.1 dX7_duel_27 rfl (lv_at hl 1 rfl) ?_
      refine lv_iload_n S.1 S.2.1 dX7_duel_28 rfl (lv_at hl 2 rfl) ?_
      refine lv_icmp_ne (tgt := 38) S.1 S.2.1 dX7_duel_29 (by decide) (fun c8 => ?_) (fun c8 => ?_)
      · have h := h.1 c8
        refine lv_aload_n S.1 S.2.1 dX7_duel_38 rfl (lv_at hl 0 rfl) ?_
        refine lv_iload_n S.1 S.2.1 dX7_duel_39 rfl (lv_at hl 1 rfl) ?_
        refine lv_iconst (v := (-1)) S.1 S.2.1 dX7_duel_40 (by decide) ?_
        refine r_call (rest := []) S hg hS (mtX7_isBusy (mc := 0) (ms := 0) h) u1227 u1229 u31 u49 u1230 hdX7_isBusy (rv3 hg hw) hw ⟨Nat.le_of_ble_eq_true rfl, Nat.le_of_ble_eq_true rfl⟩ ⟨by show 0 + 0 ≤ mc; omega, by show 0 + 0 ≤ ms; omega⟩ hl.1 (Nat.le_of_ble_eq_true rfl) rfl dX7_duel_41 (fun E ce q H1 locs1 hx hS1 hc1 hc2 hc3 => hx.elim) (fun rv H locs hq hS => ?_)
        obtain ⟨r9, rfl, h, hw⟩ := hq
        show W p l e _ s m _ below meth c H locs _ _ _ (F0 m 44 ls [.int r9])
        show W p l e _ s m _ below meth c H locs 0 0 _ _
        refine lv_if_ne (tgt := 65) S.1 S.2.1 dX7_duel_44 (by decide) (fun c10 => ?_) (fun c10 => ?_)
        · have h := h.1 c10
          refine lv_aload_n S.1 S.2.1 dX7_duel_65 rfl (lv_at hl 0 rfl) ?_
          refine lv_iconst (v := 3) S.1 S.2.1 dX7_duel_66 (by decide) ?_
          refine r_call (rest := []) S hg hS (mtX7_fails (mc := 0) (ms := 0) h) u1171 u1173 u26 u49 u1174 hdX7_fails (rv3 hg hw) hw ⟨Nat.le_of_ble_eq_true rfl, Nat.le_of_ble_eq_true rfl⟩ ⟨by show 0 + 0 ≤ mc; omega, by show 0 + 0 ≤ ms; omega⟩ hl.1 (Nat.le_of_ble_eq_true rfl) rfl dX7_duel_67 (fun E ce q H1 locs1 hx hS1 hc1 hc2 hc3 => hx.elim) (fun rv H locs hq hS => ?_)
          obtain ⟨r11, M12, ap13, rfl, h, hw⟩ := hq
          show W p l e _ s m _ below meth c H locs _ _ _ (F0 m 70 ls [.int r11])
          show W p l e _ s m _ below meth c H locs 0 0 _ _
          exact r_iret (y := yX7_duel) S hr rfl hlk hS (by omega) (by omega) dX7_duel_70 ⟨r11, _, _, rfl, h, hw⟩
        · have h := h.2 c10
          refine lv_aload_n S.1 S.2.1 dX7_duel_47 rfl (lv_at hl 0 rfl) ?_
          refine lv_iload_n S.1 S.2.1 dX7_duel_48 rfl (lv_at hl 2 rfl) ?_
          refine lv_iconst (v := (-1)) S.1 S.2.1 dX7_duel_49 (by decide) ?_
          refine r_call (rest := []) S hg hS (mtX7_isBusy (mc := 0) (ms := 0) h) u1227 u1229 u31 u49 u1230 hdX7_isBusy (rv3 hg hw) hw ⟨Nat.le_of_ble_eq_true rfl, Nat.le_of_ble_eq_true rfl⟩ ⟨by show 0 + 0 ≤ mc; omega, by show 0 + 0 ≤ ms; omega⟩ hl.1 (Nat.le_of_ble_eq_true rfl) rfl dX7_duel_50 (fun E ce q H1 locs1 hx hS1 hc1 hc2 hc3 => hx.elim) (fun rv H locs hq hS => ?_)
          obtain ⟨r14, rfl, h, hw⟩ := hq
          show W p l e _ s m _ below meth c H locs _ _ _ (F0 m 53 ls [.int r14])
          show W p l e _ s m _ below meth c H locs 0 0 _ _
          refine lv_if_ne (tgt := 65) S.1 S.2.1 dX7_duel_53 (by decide) (fun c15 => ?_) (fun c15 => ?_)
          · have h := h.1 c15
            refine lv_aload_n S.1 S.2.1 dX7_duel_65 rfl (lv_at hl 0 rfl) ?_
            refine lv_iconst (v := 3) S.1 S.2.1 dX7_duel_66 (by decide) ?_
            refine r_call (rest := []) S hg hS (mtX7_fails (mc := 0) (ms := 0) h) u1171 u1173 u26 u49 u1174 hdX7_fails (rv3 hg hw) hw ⟨Nat.le_of_ble_eq_true rfl, Nat.le_of_ble_eq_true rfl⟩ ⟨by show 0 + 0 ≤ mc; omega, by show 0 + 0 ≤ ms; omega⟩ hl.1 (Nat.le_of_ble_eq_true rfl) rfl dX7_duel_67 (fun E ce q H1 locs1 hx hS1 hc1 hc2 hc3 => hx.elim) (fun rv H locs hq hS => ?_)
            obtain ⟨r16, M17, ap18, rfl, h, hw⟩ := hq
            show W p l e _ s m _ below meth c H locs _ _ _ (F0 m 70 ls [.int r16])
            show W p l e _ s m _ below meth c H locs 0 0 _ _
            exact r_iret (y := yX7_duel) S hr rfl hlk hS (by omega) (by omega) dX7_duel_70 ⟨r16, _, _, rfl, h, hw⟩
          · have h := h.2 c15
            refine lv_aload_n S.1 S.2.1 dX7_duel_56 rfl (lv_at hl 0 rfl) ?_
            refine g3_13 S hg hw u1057 dX7_duel_57 ?_
            refine lv_bipush (v := 8) S.1 S.2.1 dX7_duel_60 (by decide) ?_
            refine lv_icmp_ne (tgt := 71) S.1 S.2.1 dX7_duel_62 (by decide) (fun c19 => ?_) (fun c19 => ?_)
            · have h := h.1 c19
              refine lv_aload_n S.1 S.2.1 dX7_duel_71 rfl (lv_at hl 0 rfl) ?_
              refine g3_14 S hg hw u1058 dX7_duel_72 ?_
              refine lv_aload_n S.1 S.2.1 dX7_duel_75 rfl (lv_at hl 0 rfl) ?_
              refine g3_13 S hg hw u1057 dX7_duel_76 ?_
              refine lv_iload_n S.1 S.2.1 dX7_duel_79 rfl (lv_at hl 1 rfl) ?_
              obtain ⟨g20, h⟩ := h
              refine s16 S hg hS hw rfl g20 dX7_duel_80 (fun H locs hw hS => ?_)
              refine lv_aload_n S.1 S.2.1 dX7_duel_81 rfl (lv_at hl 0 rfl) ?_
              refine g3_15 S hg hw u1059 dX7_duel_82 ?_
              refine lv_aload_n S.1 S.2.1 dX7_duel_85 rfl (lv_at hl 0 rfl) ?_
              refine g3_13 S hg hw u1057 dX7_duel_86 ?_
              refine lv_iload_n S.1 S.2.1 dX7_duel_89 rfl (lv_at hl 2 rfl) ?_
              obtain ⟨g21, h⟩ := h
              refine s16 S hg hS hw rfl g21 dX7_duel_90 (fun H locs hw hS => ?_)
              refine lv_aload_n S.1 S.2.1 dX7_duel_91 rfl (lv_at hl 0 rfl) ?_
              refine g3_16 S hg hw u1060 dX7_duel_92 ?_
              refine lv_aload_n S.1 S.2.1 dX7_duel_95 rfl (lv_at hl 0 rfl) ?_
              refine g3_13 S hg hw u1057 dX7_duel_96 ?_
              refine lv_bipush (v := 111) S.1 S.2.1 dX7_duel_99 (by decide) ?_
              obtain ⟨g22, h⟩ := h
              refine s13 S hg hS hw rfl g22 (by decide) dX7_duel_101 (fun H locs hw hS => ?_)
              refine lv_aload_n S.1 S.2.1 dX7_duel_102 rfl (lv_at hl 0 rfl) ?_
              refine g3_18 S hg hw u1062 dX7_duel_103 ?_
              refine lv_iconst (v := 2) S.1 S.2.1 dX7_duel_106 (by decide) ?_
              refine lv_aload_n S.1 S.2.1 dX7_duel_107 rfl (lv_at hl 0 rfl) ?_
              refine g3_13 S hg hw u1057 dX7_duel_108 ?_
              refine lv_imul S.1 S.2.1 dX7_duel_111 ?_
              refine lv_bipush (v := 10) S.1 S.2.1 dX7_duel_112 (by decide) ?_
              obtain ⟨g23, h⟩ := h
              refine s16 S hg hS hw rfl g23 dX7_duel_114 (fun H locs hw hS => ?_)
              refine lv_aload_n S.1 S.2.1 dX7_duel_115 rfl (lv_at hl 0 rfl) ?_
              refine g3_18 S hg hw u1062 dX7_duel_116 ?_
              refine lv_iconst (v := 2) S.1 S.2.1 dX7_duel_119 (by decide) ?_
              refine lv_aload_n S.1 S.2.1 dX7_duel_120 rfl (lv_at hl 0 rfl) ?_
              refine g3_13 S hg hw u1057 dX7_duel_121 ?_
              refine lv_imul S.1 S.2.1 dX7_duel_124 ?_
              refine lv_iconst (v := 1) S.1 S.2.1 dX7_duel_125 (by decide) ?_
              refine lv_iadd S.1 S.2.1 dX7_duel_126 ?_
              refine lv_bipush (v := 10) S.1 S.2.1 dX7_duel_127 (by decide) ?_
              obtain ⟨g24, h⟩ := h
              refine s16 S hg hS hw rfl g24 dX7_duel_129 (fun H locs hw hS => ?_)
              refine lv_aload_n S.1 S.2.1 dX7_duel_130 rfl (lv_at hl 0 rfl) ?_
              refine lv_dup S.1 S.2.1 dX7_duel_131 rfl ?_
              refine g3_13 S hg hw u1057 dX7_duel_132 ?_
              refine lv_iconst (v := 1) S.1 S.2.1 dX7_duel_135 (by decide) ?_
              refine lv_iadd S.1 S.2.1 dX7_duel_136 ?_
              refine p3_13 S hg hS hw u1057 dX7_duel_137 (fun H locs hw hS => ?_)
              refine lv_aload_n S.1 S.2.1 dX7_duel_140 rfl (lv_at hl 0 rfl) ?_
              refine g3_13 S hg hw u1057 dX7_duel_141 ?_
              refine lv_iconst (v := 1) S.1 S.2.1 dX7_duel_144 (by decide) ?_
              refine lv_isub S.1 S.2.1 dX7_duel_145 ?_
              exact r_iret (y := yX7_duel) S hr rfl hlk hS (by omega) (by omega) dX7_duel_146 ⟨(((k3 (k3 (k3 (k3 (k3 (k3 (k3 M 3 0 0 0) 16 14 (((k3 M 3 0 0 0) 3 13 0).toNatClampNeg) p1) 16 15 (((k3 (k3 M 3 0 0 0) 16 14 (((k3 M 3 0 0 0) 3 13 0).toNatClampNeg) p1) 3 13 0).toNatClampNeg) p2) 13 16 (((k3 (k3 (k3 M 3 0 0 0) 16 14 (((k3 M 3 0 0 0) 3 13 0).toNatClampNeg) p1) 16 15 (((k3 (k3 M 3 0 0 0) 16 14 (((k3 M 3 0 0 0) 3 13 0).toNatClampNeg) p1) 3 13 0).toNatClampNeg) p2) 3 13 0).toNatClampNeg) 111) 16 18 ((2 * ((k3 (k3 (k3 (k3 M 3 0 0 0) 16 14 (((k3 M 3 0 0 0) 3 13 0).toNatClampNeg) p1) 16 15 (((k3 (k3 M 3 0 0 0) 16 14 (((k3 M 3 0 0 0) 3 13 0).toNatClampNeg) p1) 3 13 0).toNatClampNeg) p2) 13 16 (((k3 (k3 (k3 M 3 0 0 0) 16 14 (((k3 M 3 0 0 0) 3 13 0).toNatClampNeg) p1) 16 15 (((k3 (k3 M 3 0 0 0) 16 14 (((k3 M 3 0 0 0) 3 13 0).toNatClampNeg) p1) 3 13 0).toNatClampNeg) p2) 3 13 0).toNatClampNeg) 111) 3 13 0)).toNatClampNeg) 10) 16 18 (((2 * ((k3 (k3 (k3 (k3 (k3 M 3 0 0 0) 16 14 (((k3 M 3 0 0 0) 3 13 0).toNatClampNeg) p1) 16 15 (((k3 (k3 M 3 0 0 0) 16 14 (((k3 M 3 0 0 0) 3 13 0).toNatClampNeg) p1) 3 13 0).toNatClampNeg) p2) 13 16 (((k3 (k3 (k3 M 3 0 0 0) 16 14 (((k3 M 3 0 0 0) 3 13 0).toNatClampNeg) p1) 16 15 (((k3 (k3 M 3 0 0 0) 16 14 (((k3 M 3 0 0 0) 3 13 0).toNatClampNeg) p1) 3 13 0).toNatClampNeg) p2) 3 13 0).toNatClampNeg) 111) 16 18 ((2 * ((k3 (k3 (k3 (k3 M 3 0 0 0) 16 14 (((k3 M 3 0 0 0) 3 13 0).toNatClampNeg) p1) 16 15 (((k3 (k3 M 3 0 0 0) 16 14 (((k3 M 3 0 0 0) 3 13 0).toNatClampNeg) p1) 3 13 0).toNatClampNeg) p2) 13 16 (((k3 (k3 (k3 M 3 0 0 0) 16 14 (((k3 M 3 0 0 0) 3 13 0).toNatClampNeg) p1) 16 15 (((k3 (k3 M 3 0 0 0) 16 14 (((k3 M 3 0 0 0) 3 13 0).toNatClampNeg) p1) 3 13 0).toNatClampNeg) p2) 3 13 0).toNatClampNeg) 111) 3 13 0)).toNatClampNeg) 10) 3 13 0)) + 1).toNatClampNeg) 10) 3 13 0 (((k3 (k3 (k3 (k3 (k3 (k3 M 3 0 0 0) 16 14 (((k3 M 3 0 0 0) 3 13 0).toNatClampNeg) p1) 16 15 (((k3 (k3 M 3 0 0 0) 16 14 (((k3 M 3 0 0 0) 3 13 0).toNatClampNeg) p1) 3 13 0).toNatClampNeg) p2) 13 16 (((k3 (k3 (k3 M 3 0 0 0) 16 14 (((k3 M 3 0 0 0) 3 13 0).toNatClampNeg) p1) 16 15 (((k3 (k3 M 3 0 0 0) 16 14 (((k3 M 3 0 0 0) 3 13 0).toNatClampNeg) p1) 3 13 0).toNatClampNeg) p2) 3 13 0).toNatClampNeg) 111) 16 18 ((2 * ((k3 (k3 (k3 (k3 M 3 0 0 0) 16 14 (((k3 M 3 0 0 0) 3 13 0).toNatClampNeg) p1) 16 15 (((k3 (k3 M 3 0 0 0) 16 14 (((k3 M 3 0 0 0) 3 13 0).toNatClampNeg) p1) 3 13 0).toNatClampNeg) p2) 13 16 (((k3 (k3 (k3 M 3 0 0 0) 16 14 (((k3 M 3 0 0 0) 3 13 0).toNatClampNeg) p1) 16 15 (((k3 (k3 M 3 0 0 0) 16 14 (((k3 M 3 0 0 0) 3 13 0).toNatClampNeg) p1) 3 13 0).toNatClampNeg) p2) 3 13 0).toNatClampNeg) 111) 3 13 0)).toNatClampNeg) 10) 16 18 (((2 * ((k3 (k3 (k3 (k3 (k3 M 3 0 0 0) 16 14 (((k3 M 3 0 0 0) 3 13 0).toNatClampNeg) p1) 16 15 (((k3 (k3 M 3 0 0 0) 16 14 (((k3 M 3 0 0 0) 3 13 0).toNatClampNeg) p1) 3 13 0).toNatClampNeg) p2) 13 16 (((k3 (k3 (k3 M 3 0 0 0) 16 14 (((k3 M 3 0 0 0) 3 13 0).toNatClampNeg) p1) 16 15 (((k3 (k3 M 3 0 0 0) 16 14 (((k3 M 3 0 0 0) 3 13 0).toNatClampNeg) p1) 3 13 0).toNatClampNeg) p2) 3 13 0).toNatClampNeg) 111) 16 18 ((2 * ((k3 (k3 (k3 (k3 M 3 0 0 0) 16 14 (((k3 M 3 0 0 0) 3 13 0).toNatClampNeg) p1) 16 15 (((k3 (k3 M 3 0 0 0) 16 14 (((k3 M 3 0 0 0) 3 13 0).toNatClampNeg) p1) 3 13 0).toNatClampNeg) p2) 13 16 (((k3 (k3 (k3 M 3 0 0 0) 16 14 (((k3 M 3 0 0 0) 3 13 0).toNatClampNeg) p1) 16 15 (((k3 (k3 M 3 0 0 0) 16 14 (((k3 M 3 0 0 0) 3 13 0).toNatClampNeg) p1) 3 13 0).toNatClampNeg) p2) 3 13 0).toNatClampNeg) 111) 3 13 0)).toNatClampNeg) 10) 3 13 0)) + 1).toNatClampNeg) 10) 3 13 0) + 1)) 3 13 0) - 1), _, _, rfl, h, hw⟩
            · have h := h.2 c19
              refine lv_aload_n S.1 S.2.1 dX7_duel_65 rfl (lv_at hl 0 rfl) ?_
              refine lv_iconst (v := 3) S.1 S.2.1 dX7_duel_66 (by decide) ?_
              refine r_call (rest := []) S hg hS (mtX7_fails (mc := 0) (ms := 0) h) u1171 u1173 u26 u49 u1174 hdX7_fails (rv3 hg hw) hw ⟨Nat.le_of_ble_eq_true rfl, Nat.le_of_ble_eq_true rfl⟩ ⟨by show 0 + 0 ≤ mc; omega, by show 0 + 0 ≤ ms; omega⟩ hl.1 (Nat.le_of_ble_eq_true rfl) rfl dX7_duel_67 (fun E ce q H1 locs1 hx hS1 hc1 hc2 hc3 => hx.elim) (fun rv H locs hq hS => ?_)
              obtain ⟨r25, M26, ap27, rfl, h, hw⟩ := hq
              show W p l e _ s m _ below meth c H locs _ _ _ (F0 m 70 ls [.int r25])
              show W p l e _ s m _ below meth c H locs 0 0 _ _
              exact r_iret (y := yX7_duel) S hr rfl hlk hS (by omega) (by omega) dX7_duel_70 ⟨r25, _, _, rfl, h, hw⟩
      · have h := h.2 c8
        refine lv_aload_n S.1 S.2.1 dX7_duel_32 rfl (lv_at hl 0 rfl) ?_
        refine lv_iconst (v := 2) S.1 S.2.1 dX7_duel_33 (by decide) ?_
        refine r_call (rest := []) S hg hS (mtX7_fails (mc := 0) (ms := 0) h) u1171 u1173 u26 u49 u1174 hdX7_fails (rv3 hg hw) hw ⟨Nat.le_of_ble_eq_true rfl, Nat.le_of_ble_eq_true rfl⟩ ⟨by show 0 + 0 ≤ mc; omega, by show 0 + 0 ≤ ms; omega⟩ hl.1 (Nat.le_of_ble_eq_true rfl) rfl dX7_duel_34 (fun E ce q H1 locs1 hx hS1 hc1 hc2 hc3 => hx.elim) (fun rv H locs hq hS => ?_)
        obtain ⟨r28, M29, ap30, rfl, h, hw⟩ := hq
        show W p l e _ s m _ below meth c H locs _ _ _ (F0 m 37 ls [.int r28])
        show W p l e _ s m _ below meth c H locs 0 0 _ _
        exact r_iret (y := yX7_duel) S hr rfl hlk hS (by omega) (by omega) dX7_duel_37 ⟨r28, _, _, rfl, h, hw⟩
    · have h := h.2 c7
      refine lv_aload_n S.1 S.2.1 dX7_duel_21 rfl (lv_at hl 0 rfl) ?_
      refine lv_iconst (v := 1) S.1 S.2.1 dX7_duel_22 (by decide) ?_
      refine r_call (rest := []) S hg hS (mtX7_fails (mc := 0) (ms := 0) h) u1171 u1173 u26 u49 u1174 hdX7_fails (rv3 hg hw) hw ⟨Nat.le_of_ble_eq_true rfl, Nat.le_of_ble_eq_true rfl⟩ ⟨by show 0 + 0 ≤ mc; omega, by show 0 + 0 ≤ ms; omega⟩ hl.1 (Nat.le_of_ble_eq_true rfl) rfl dX7_duel_23 (fun E ce q H1 locs1 hx hS1 hc1 hc2 hc3 => hx.elim) (fun rv H locs hq hS => ?_)
      obtain ⟨r31, M32, ap33, rfl, h, hw⟩ := hq
      show W p l e _ s m _ below meth c H locs _ _ _ (F0 m 26 ls [.int r31])
      show W p l e _ s m _ below meth c H locs 0 0 _ _
      exact r_iret (y := yX7_duel) S hr rfl hlk hS (by omega) (by omega) dX7_duel_26 ⟨r31, _, _, rfl, h, hw⟩

-- X7.stake
theorem dX7_stake_0 : decode cX7_stake 0 = .ok (.aload_n 0, 1) := by decide +kernel
theorem dX7_stake_1 : decode cX7_stake 1 = .ok (.iconst 0, 1) := by decide +kernel
theorem dX7_stake_2 : decode cX7_stake 2 = .ok (.putfield 98, 3) := by decide +kernel
theorem dX7_stake_5 : decode cX7_stake 5 = .ok (.aload_n 0, 1) := by decide +kernel
theorem dX7_stake_6 : decode cX7_stake 6 = .ok (.iload_n 1, 1) := by decide +kernel
theorem dX7_stake_7 : decode cX7_stake 7 = .ok (.invokevirtual 141, 3) := by decide +kernel
theorem dX7_stake_10 : decode cX7_stake 10 = .ok (.ifCond .eq 11, 3) := by decide +kernel
theorem dX7_stake_13 : decode cX7_stake 13 = .ok (.aload_n 0, 1) := by decide +kernel
theorem dX7_stake_14 : decode cX7_stake 14 = .ok (.iload_n 2, 1) := by decide +kernel
theorem dX7_stake_15 : decode cX7_stake 15 = .ok (.invokevirtual 127, 3) := by decide +kernel
theorem dX7_stake_18 : decode cX7_stake 18 = .ok (.ifCond .ne 9, 3) := by decide +kernel
theorem dX7_stake_21 : decode cX7_stake 21 = .ok (.aload_n 0, 1) := by decide +kernel
theorem dX7_stake_22 : decode cX7_stake 22 = .ok (.iconst 1, 1) := by decide +kernel
theorem dX7_stake_23 : decode cX7_stake 23 = .ok (.invokevirtual 106, 3) := by decide +kernel
theorem dX7_stake_26 : decode cX7_stake 26 = .ok (.ireturn, 1) := by decide +kernel
theorem dX7_stake_27 : decode cX7_stake 27 = .ok (.aload_n 0, 1) := by decide +kernel
theorem dX7_stake_28 : decode cX7_stake 28 = .ok (.getfield 16, 3) := by decide +kernel
theorem dX7_stake_31 : decode cX7_stake 31 = .ok (.iload_n 2, 1) := by decide +kernel
theorem dX7_stake_32 : decode cX7_stake 32 = .ok (.iaload, 1) := by decide +kernel
theorem dX7_stake_33 : decode cX7_stake 33 = .ok (.aload_n 0, 1) := by decide +kernel
theorem dX7_stake_34 : decode cX7_stake 34 = .ok (.getfield 32, 3) := by decide +kernel
theorem dX7_stake_37 : decode cX7_stake 37 = .ok (.iload_n 1, 1) := by decide +kernel
theorem dX7_stake_38 : decode cX7_stake 38 = .ok (.iaload, 1) := by decide +kernel
theorem dX7_stake_39 : decode cX7_stake 39 = .ok (.if_icmp .ne 7, 3) := by decide +kernel
theorem dX7_stake_42 : decode cX7_stake 42 = .ok (.iconst 0, 1) := by decide +kernel
theorem dX7_stake_43 : decode cX7_stake 43 = .ok (.goto 23, 3) := by decide +kernel
theorem dX7_stake_46 : decode cX7_stake 46 = .ok (.aload_n 0, 1) := by decide +kernel
theorem dX7_stake_47 : decode cX7_stake 47 = .ok (.getfield 16, 3) := by decide +kernel
theorem dX7_stake_50 : decode cX7_stake 50 = .ok (.iload_n 2, 1) := by decide +kernel
theorem dX7_stake_51 : decode cX7_stake 51 = .ok (.iaload, 1) := by decide +kernel
theorem dX7_stake_52 : decode cX7_stake 52 = .ok (.aload_n 0, 1) := by decide +kernel
theorem dX7_stake_53 : decode cX7_stake 53 = .ok (.getfield 35, 3) := by decide +kernel
theorem dX7_stake_56 : decode cX7_stake 56 = .ok (.iload_n 1, 1) := by decide +kernel
theorem dX7_stake_57 : decode cX7_stake 57 = .ok (.iaload, 1) := by decide +kernel
theorem dX7_stake_58 : decode cX7_stake 58 = .ok (.if_icmp .ne 7, 3) := by decide +kernel
theorem dX7_stake_61 : decode cX7_stake 61 = .ok (.iconst 1, 1) := by decide +kernel
theorem dX7_stake_62 : decode cX7_stake 62 = .ok (.goto 4, 3) := by decide +kernel
theorem dX7_stake_65 : decode cX7_stake 65 = .ok (.iconst (-1), 1) := by decide +kernel
theorem dX7_stake_66 : decode cX7_stake 66 = .ok (.istore_n 3, 1) := by decide +kernel
theorem dX7_stake_67 : decode cX7_stake 67 = .ok (.aload_n 0, 1) := by decide +kernel
theorem dX7_stake_68 : decode cX7_stake 68 = .ok (.getfield 38, 3) := by decide +kernel
theorem dX7_stake_71 : decode cX7_stake 71 = .ok (.iload_n 1, 1) := by decide +kernel
theorem dX7_stake_72 : decode cX7_stake 72 = .ok (.caload, 1) := by decide +kernel
theorem dX7_stake_73 : decode cX7_stake 73 = .ok (.bipush 111, 2) := by decide +kernel
theorem dX7_stake_75 : decode cX7_stake 75 = .ok (.if_icmp .ne 8, 3) := by decide +kernel
theorem dX7_stake_78 : decode cX7_stake 78 = .ok (.iload_n 3, 1) := by decide +kernel
theorem dX7_stake_79 : decode cX7_stake 79 = .ok (.iconst (-1), 1) := by decide +kernel
theorem dX7_stake_80 : decode cX7_stake 80 = .ok (.if_icmp .ne 9, 3) := by decide +kernel
theorem dX7_stake_83 : decode cX7_stake 83 = .ok (.aload_n 0, 1) := by decide +kernel
theorem dX7_stake_84 : decode cX7_stake 84 = .ok (.iconst 2, 1) := by decide +kernel
theorem dX7_stake_85 : decode cX7_stake 85 = .ok (.invokevirtual 106, 3) := by decide +kernel
theorem dX7_stake_88 : decode cX7_stake 88 = .ok (.ireturn, 1) := by decide +kernel
theorem dX7_stake_89 : decode cX7_stake 89 = .ok (.iconst 2, 1) := by decide +kernel
theorem dX7_stake_90 : decode cX7_stake 90 = .ok (.iload_n 1, 1) := by decide +kernel
theorem dX7_stake_91 : decode cX7_stake 91 = .ok (.imul, 1) := by decide +kernel
theorem dX7_stake_92 : decode cX7_stake 92 = .ok (.iload_n 3, 1) := by decide +kernel
theorem dX7_stake_93 : decode cX7_stake 93 = .ok (.iadd, 1) := by decide +kernel
theorem dX7_stake_94 : decode cX7_stake 94 = .ok (.istore 4, 2) := by decide +kernel
theorem dX7_stake_96 : decode cX7_stake 96 = .ok (.aload_n 0, 1) := by decide +kernel
theorem dX7_stake_97 : decode cX7_stake 97 = .ok (.getfield 19, 3) := by decide +kernel
theorem dX7_stake_100 : decode cX7_stake 100 = .ok (.iload_n 2, 1) := by decide +kernel
theorem dX7_stake_101 : decode cX7_stake 101 = .ok (.caload, 1) := by decide +kernel
theorem dX7_stake_102 : decode cX7_stake 102 = .ok (.bipush 45, 2) := by decide +kernel
theorem dX7_stake_104 : decode cX7_stake 104 = .ok (.if_icmp .ne 25, 3) := by decide +kernel
theorem dX7_stake_107 : decode cX7_stake 107 = .ok (.aload_n 0, 1) := by decide +kernel
theorem dX7_stake_108 : decode cX7_stake 108 = .ok (.getfield 26, 3) := by decide +kernel
theorem dX7_stake_111 : decode cX7_stake 111 = .ok (.iload_n 2, 1) := by decide +kernel
theorem dX7_stake_112 : decode cX7_stake 112 = .ok (.iaload, 1) := by decide +kernel
theorem dX7_stake_113 : decode cX7_stake 113 = .ok (.iconst (-1), 1) := by decide +kernel
theorem dX7_stake_114 : decode cX7_stake 114 = .ok (.if_icmp .ne 15, 3) := by decide +kernel
theorem dX7_stake_117 : decode cX7_stake 117 = .ok (.aload_n 0, 1) := by decide +kernel
theorem dX7_stake_118 : decode cX7_stake 118 = .ok (.getfield 53, 3) := by decide +kernel
theorem dX7_stake_121 : decode cX7_stake 121 = .ok (.iload 4, 2) := by decide +kernel
theorem dX7_stake_123 : decode cX7_stake 123 = .ok (.iaload, 1) := by decide +kernel
theorem dX7_stake_124 : decode cX7_stake 124 = .ok (.bipush 8, 2) := by decide +kernel
theorem dX7_stake_126 : decode cX7_stake 126 = .ok (.if_icmp .ne 9, 3) := by decide +kernel
theorem dX7_stake_129 : decode cX7_stake 129 = .ok (.aload_n 0, 1) := by decide +kernel
theorem dX7_stake_130 : decode cX7_stake 130 = .ok (.iconst 3, 1) := by decide +kernel
theorem dX7_stake_131 : decode cX7_stake 131 = .ok (.invokevirtual 106, 3) := by decide +kernel
theorem dX7_stake_134 : decode cX7_stake 134 = .ok (.ireturn, 1) := by decide +kernel
theorem dX7_stake_135 : decode cX7_stake 135 = .ok (.aload_n 0, 1) := by decide +kernel
theorem dX7_stake_136 : decode cX7_stake 136 = .ok (.getfield 19, 3) := by decide +kernel
theorem dX7_stake_139 : decode cX7_stake 139 = .ok (.iload_n 2, 1) := by decide +kernel
theorem dX7_stake_140 : decode cX7_stake 140 = .ok (.bipush 115, 2) := by decide +kernel
theorem dX7_stake_142 : decode cX7_stake 142 = .ok (.castore, 1) := by decide +kernel
theorem dX7_stake_143 : decode cX7_stake 143 = .ok (.aload_n 0, 1) := by decide +kernel
theorem dX7_stake_144 : decode cX7_stake 144 = .ok (.getfield 23, 3) := by decide +kernel
theorem dX7_stake_147 : decode cX7_stake 147 = .ok (.iload_n 2, 1) := by decide +kernel
theorem dX7_stake_148 : decode cX7_stake 148 = .ok (.iload_n 1, 1) := by decide +kernel
theorem dX7_stake_149 : decode cX7_stake 149 = .ok (.iastore, 1) := by decide +kernel
theorem dX7_stake_150 : decode cX7_stake 150 = .ok (.aload_n 0, 1) := by decide +kernel
theorem dX7_stake_151 : decode cX7_stake 151 = .ok (.getfield 56, 3) := by decide +kernel
theorem dX7_stake_154 : decode cX7_stake 154 = .ok (.bipush 8, 2) := by decide +kernel
theorem dX7_stake_156 : decode cX7_stake 156 = .ok (.iload 4, 2) := by decide +kernel
theorem dX7_stake_158 : decode cX7_stake 158 = .ok (.imul, 1) := by decide +kernel
theorem dX7_stake_159 : decode cX7_stake 159 = .ok (.aload_n 0, 1) := by decide +kernel
theorem dX7_stake_160 : decode cX7_stake 160 = .ok (.getfield 53, 3) := by decide +kernel
theorem dX7_stake_163 : decode cX7_stake 163 = .ok (.iload 4, 2) := by decide +kernel
theorem dX7_stake_165 : decode cX7_stake 165 = .ok (.iaload, 1) := by decide +kernel
theorem dX7_stake_166 : decode cX7_stake 166 = .ok (.iadd, 1) := by decide +kernel
theorem dX7_stake_167 : decode cX7_stake 167 = .ok (.iload_n 2, 1) := by decide +kernel
theorem dX7_stake_168 : decode cX7_stake 168 = .ok (.iastore, 1) := by decide +kernel
theorem dX7_stake_169 : decode cX7_stake 169 = .ok (.aload_n 0, 1) := by decide +kernel
theorem dX7_stake_170 : decode cX7_stake 170 = .ok (.getfield 59, 3) := by decide +kernel
theorem dX7_stake_173 : decode cX7_stake 173 = .ok (.bipush 8, 2) := by decide +kernel
theorem dX7_stake_175 : decode cX7_stake 175 = .ok (.iload 4, 2) := by decide +kernel
theorem dX7_stake_177 : decode cX7_stake 177 = .ok (.imul, 1) := by decide +kernel
theorem dX7_stake_178 : decode cX7_stake 178 = .ok (.aload_n 0, 1) := by decide +kernel
theorem dX7_stake_179 : decode cX7_stake 179 = .ok (.getfield 53, 3) := by decide +kernel
theorem dX7_stake_182 : decode cX7_stake 182 = .ok (.iload 4, 2) := by decide +kernel
theorem dX7_stake_184 : decode cX7_stake 184 = .ok (.iaload, 1) := by decide +kernel
theorem dX7_stake_185 : decode cX7_stake 185 = .ok (.iadd, 1) := by decide +kernel
theorem dX7_stake_186 : decode cX7_stake 186 = .ok (.iconst 0, 1) := by decide +kernel
theorem dX7_stake_187 : decode cX7_stake 187 = .ok (.iastore, 1) := by decide +kernel
theorem dX7_stake_188 : decode cX7_stake 188 = .ok (.aload_n 0, 1) := by decide +kernel
theorem dX7_stake_189 : decode cX7_stake 189 = .ok (.getfield 53, 3) := by decide +kernel
theorem dX7_stake_192 : decode cX7_stake 192 = .ok (.iload 4, 2) := by decide +kernel
theorem dX7_stake_194 : decode cX7_stake 194 = .ok (.dup2, 1) := by decide +kernel
theorem dX7_stake_195 : decode cX7_stake 195 = .ok (.iaload, 1) := by decide +kernel
theorem dX7_stake_196 : decode cX7_stake 196 = .ok (.iconst 1, 1) := by decide +kernel
theorem dX7_stake_197 : decode cX7_stake 197 = .ok (.iadd, 1) := by decide +kernel
theorem dX7_stake_198 : decode cX7_stake 198 = .ok (.iastore, 1) := by decide +kernel
theorem dX7_stake_199 : decode cX7_stake 199 = .ok (.aload_n 0, 1) := by decide +kernel
theorem dX7_stake_200 : decode cX7_stake 200 = .ok (.getfield 53, 3) := by decide +kernel
theorem dX7_stake_203 : decode cX7_stake 203 = .ok (.iload 4, 2) := by decide +kernel
theorem dX7_stake_205 : decode cX7_stake 205 = .ok (.iaload, 1) := by decide +kernel
theorem dX7_stake_206 : decode cX7_stake 206 = .ok (.ireturn, 1) := by decide +kernel
def wX7_stake_66 (post : Int32 → KS → Int64 → Prop) (l1 : Int32) (l2 : Int32) (t0 : Int32) (M : KS) (ap : Int64) : Prop := (vp_in l1 8) ∧ (((¬ (M 13 16 l1.toNatClampNeg) = 111 → ((wpX7_fails (fun r15 M16 ap17 => post r15 M16 ap17) M ap 2))) ∧ ((M 13 16 l1.toNatClampNeg) = 111 → (((¬ t0 = (-1) → ((vp_in l2 40) ∧ (((¬ (M 13 8 l2.toNatClampNeg) = 45 → ((wpX7_fails (fun r21 M22 ap23 => post r21 M22 ap23) M ap 3))) ∧ ((M 13 8 l2.toNatClampNeg) = 45 → ((vp_in l2 40) ∧ (((¬ (M 16 10 l2.toNatClampNeg) = (-1) → ((wpX7_fails (fun r26 M27 ap28 => post r26 M27 ap28) M ap 3))) ∧ ((M 16 10 l2.toNatClampNeg) = (-1) → ((vp_in ((2 * l1) + t0) 16) ∧ (((¬ (M 16 21 (((2 * l1) + t0).toNatClampNeg)) = 8 → ((vp_in l2 40) ∧ ((vp_in ((8 * ((2 * l1) + t0)) + ((k3 (k3 M 13 8 l2.toNatClampNeg 115) 16 9 l2.toNatClampNeg l1) 16 21 (((2 * l1) + t0).toNatClampNeg))) 128) ∧ ((vp_in ((8 * ((2 * l1) + t0)) + ((k3 (k3 (k3 M 13 8 l2.toNatClampNeg 115) 16 9 l2.toNatClampNeg l1) 16 22 (((8 * ((2 * l1) + t0)) + ((k3 (k3 M 13 8 l2.toNatClampNeg 115) 16 9 l2.toNatClampNeg l1) 16 21 (((2 * l1) + t0).toNatClampNeg))).toNatClampNeg) l2) 16 21 (((2 * l1) + t0).toNatClampNeg))) 128) ∧ (post ((k3 (k3 (k3 (k3 (k3 M 13 8 l2.toNatClampNeg 115) 16 9 l2.toNatClampNeg l1) 16 22 (((8 * ((2 * l1) + t0)) + ((k3 (k3 M 13 8 l2.toNatClampNeg 115) 16 9 l2.toNatClampNeg l1) 16 21 (((2 * l1) + t0).toNatClampNeg))).toNatClampNeg) l2) 16 23 (((8 * ((2 * l1) + t0)) + ((k3 (k3 (k3 M 13 8 l2.toNatClampNeg 115) 16 9 l2.toNatClampNeg l1) 16 22 (((8 * ((2 * l1) + t0)) + ((k3 (k3 M 13 8 l2.toNatClampNeg 115) 16 9 l2.toNatClampNeg l1) 16 21 (((2 * l1) + t0).toNatClampNeg))).toNatClampNeg) l2) 16 21 (((2 * l1) + t0).toNatClampNeg))).toNatClampNeg) 0) 16 21 (((2 * l1) + t0).toNatClampNeg) (((k3 (k3 (k3 (k3 M 13 8 l2.toNatClampNeg 115) 16 9 l2.toNatClampNeg l1) 16 22 (((8 * ((2 * l1) + t0)) + ((k3 (k3 M 13 8 l2.toNatClampNeg 115) 16 9 l2.toNatClampNeg l1) 16 21 (((2 * l1) + t0).toNatClampNeg))).toNatClampNeg) l2) 16 23 (((8 * ((2 * l1) + t0)) + ((k3 (k3 (k3 M 13 8 l2.toNatClampNeg 115) 16 9 l2.toNatClampNeg l1) 16 22 (((8 * ((2 * l1) + t0)) + ((k3 (k3 M 13 8 l2.toNatClampNeg 115) 16 9 l2.toNatClampNeg l1) 16 21 (((2 * l1) + t0).toNatClampNeg))).toNatClampNeg) l2) 16 21 (((2 * l1) + t0).toNatClampNeg))).toNatClampNeg) 0) 16 21 (((2 * l1) + t0).toNatClampNeg)) + 1)) 16 21 (((2 * l1) + t0).toNatClampNeg)) (k3 (k3 (k3 (k3 (k3 M 13 8 l2.toNatClampNeg 115) 16 9 l2.toNatClampNeg l1) 16 22 (((8 * ((2 * l1) + t0)) + ((k3 (k3 M 13 8 l2.toNatClampNeg 115) 16 9 l2.toNatClampNeg l1) 16 21 (((2 * l1) + t0).toNatClampNeg))).toNatClampNeg) l2) 16 23 (((8 * ((2 * l1) + t0)) + ((k3 (k3 (k3 M 13 8 l2.toNatClampNeg 115) 16 9 l2.toNatClampNeg l1) 16 22 (((8 * ((2 * l1) + t0)) + ((k3 (k3 M 13 8 l2.toNatClampNeg 115) 16 9 l2.toNatClampNeg l1) 16 21 (((2 * l1) + t0).toNatClampNeg))).toNatClampNeg) l2) 16 21 (((2 * l1) + t0).toNatClampNeg))).toNatClampNeg) 0) 16 21 (((2 * l1) + t0).toNatClampNeg) (((k3 (k3 (k3 (k3 M 13 8 l2.toNatClampNeg 115) 16 9 l2.toNatClampNeg l1) 16 22 (((8 * ((2 * l1) + t0)) + ((k3 (k3 M 13 8 l2.toNatClampNeg 115) 16 9 l2.toNatClampNeg l1) 16 21 (((2 * l1) + t0).toNatClampNeg))).toNatClampNeg) l2) 16 23 (((8 * ((2 * l1) + t0)) + ((k3 (k3 (k3 M 13 8 l2.toNatClampNeg 115) 16 9 l2.toNatClampNeg l1) 16 22 (((8 * ((2 * l1) + t0)) + ((k3 (k3 M 13 8 l2.toNatClampNeg 115) 16 9 l2.toNatClampNeg l1) 16 21 (((2 * l1) + t0).toNatClampNeg))).toNatClampNeg) l2) 16 21 (((2 * l1) + t0).toNatClampNeg))).toNatClampNeg) 0) 16 21 (((2 * l1) + t0).toNatClampNeg)) + 1)) ap))))) ∧ ((M 16 21 (((2 * l1) + t0).toNatClampNeg)) = 8 → ((wpX7_fails (fun r34 M35 ap36 => post r34 M35 ap36) M ap 3))))))))))))))) ∧ (t0 = (-1) → ((wpX7_fails (fun r37 M38 ap39 => post r37 M38 ap39) M ap 2))))))))
set_option maxHeartbeats 4000000 in
set_option maxRecDepth 100000 in
theorem bX7_stake_66 {p : Program} {l : Launch} {e : Env} {s : State} {m : MethodId} {args : Array Value} {below : List Frame} {meth : Method} {c : Code} {D : va_G} {cI : Nat → ClassId} {e0 : Nat} {A : Nat → Prop} {ad : Nat → Nat → Nat} {K : KS} {o : Int64} {od : UInt64} {mc ms : Nat} {post : Int32 → KS → Int64 → Prop} (S : CallFix p m c cX7_stake 5 s args WU RX7) (hg : GI D cI e0 A s s.heap) (hr : meth.sig.returnType = (some FieldType.int)) (hlk : meth.locks = false) (hout : ∀ x ∈ c.exceptionTable.toList, False) {H : Heap} {locs : List Loc} {ls : Array Slot} {l1 : Int32} {l2 : Int32} {t0 : Int32} {M : KS} {ap : Int64} (hS : va_S A s.heap H locs) (hw : HT D cI e0 A ad K M ap o od H) (hl : lv_has ls 5 [(0, .ref (ad 3 0)), (1, .int l1), (2, .int l2)]) (h : wX7_stake_66 post l1 l2 t0 M ap) : W p l e ({ frames := 2, cells := mc, slots := ms, locals := 43 } : Room) s m args below meth c H locs 0 0 (MQQ below (qM D cI e0 A ad K o od rI post) xN args s mc ms A) (F0 m 66 ls [.int t0]) := by
  unfold wX7_stake_66 at h
  refine lv_istore_n (lv' := [(3, .int t0), (0, .ref (ad 3 0)), (1, .int l1), (2, .int l2)]) S.1 S.2.1 dX7_stake_66 rfl hl (by decide) rfl (fun ls hl => ?_)
  refine lv_aload_n S.1 S.2.1 dX7_stake_67 rfl (lv_at hl 1 rfl) ?_
  refine g3_16 S hg hw u1060 dX7_stake_68 ?_
  refine lv_iload_n S.1 S.2.1 dX7_stake_71 rfl (lv_at hl 2 rfl) ?_
  obtain ⟨g13, h⟩ := h
  refine a13 S hg hw rfl g13 dX7_stake_72 ?_
  refine lv_bipush (v := 111) S.1 S.2.1 dX7_stake_73 (by decide) ?_
  refine lv_icmp_ne (tgt := 83) S.1 S.2.1 dX7_stake_75 (by decide) (fun c14 => ?_) (fun c14 => ?_)
  · have h := h.1 c14
    refine lv_aload_n S.1 S.2.1 dX7_stake_83 rfl (lv_at hl 1 rfl) ?_
    refine lv_iconst (v := 2) S.1 S.2.1 dX7_stake_84 (by decide) ?_
    refine r_call (rest := []) S hg hS (mtX7_fails (mc := 0) (ms := 0) h) u1171 u1173 u26 u49 u1174 hdX7_fails (rv3 hg hw) hw ⟨Nat.le_of_ble_eq_true rfl, Nat.le_of_ble_eq_true rfl⟩ ⟨by show 0 + 0 ≤ mc; omega, by show 0 + 0 ≤ ms; omega⟩ hl.1 (Nat.le_of_ble_eq_true rfl) rfl dX7_stake_85 (fun E ce q H1 locs1 hx hS1 hc1 hc2 hc3 => hx.elim) (fun rv H locs hq hS => ?_)
    obtain ⟨r15, M16, ap17, rfl, h, hw⟩ := hq
    show W p l e _ s m _ below meth c H locs _ _ _ (F0 m 88 ls [.int r15])
    show W p l e _ s m _ below meth c H locs 0 0 _ _
    exact r_iret (y := yX7_stake) S hr rfl hlk hS (by omega) (by omega) dX7_stake_88 ⟨r15, _, _, rfl, h, hw⟩
  · have h := h.2 c14
    refine lv_iload_n S.1 S.2.1 dX7_stake_78 rfl (lv_at hl 0 rfl) ?_
    refine lv_iconst (v := (-1)) S.1 S.2.1 dX7_stake_79 (by decide) ?_
    refine lv_icmp_ne (tgt := 89) S.1 S.2.1 dX7_stake_80 (by decide) (fun c18 => ?_) (fun c18 => ?_)
    · have h := h.1 c18
      refine lv_iconst (v := 2) S.1 S.2.1 dX7_stake_89 (by decide) ?_
      refine lv_iload_n S.1 S.2.1 dX7_stake_90 rfl (lv_at hl 2 rfl) ?_
      refine lv_imul S.1 S.2.1 dX7_stake_91 ?_
      refine lv_iload_n S.1 S.2.1 dX7_stake_92 rfl (lv_at hl 0 rfl) ?_
      refine lv_iadd S.1 S.2.1 dX7_stake_93 ?_
      refine lv_istore (lv' := [(4, .int ((2 * l1) + t0)), (3, .int t0), (0, .ref (ad 3 0)), (1, .int l1), (2, .int l2)]) S.1 S.2.1 dX7_stake_94 hl (by decide) rfl (fun ls hl => ?_)
      refine lv_aload_n S.1 S.2.1 dX7_stake_96 rfl (lv_at hl 2 rfl) ?_
      refine g3_8 S hg hw u1052 dX7_stake_97 ?_
      refine lv_iload_n S.1 S.2.1 dX7_stake_100 rfl (lv_at hl 4 rfl) ?_
      obtain ⟨g19, h⟩ := h
      refine a13 S hg hw rfl g19 dX7_stake_101 ?_
      refine lv_bipush (v := 45) S.1 S.2.1 dX7_stake_102 (by decide) ?_
      refine lv_icmp_ne (tgt := 129) S.1 S.2.1 dX7_stake_104 (by decide) (fun c20 => ?_) (fun c20 => ?_)
      · have h := h.1 c20
        refine lv_aload_n S.1 S.2.1 dX7_stake_129 rfl (lv_at hl 2 rfl) ?_
        refine lv_iconst (v := 3) S.1 S.2.1 dX7_stake_130 (by decide) ?_
        refine r_call (rest := []) S hg hS (mtX7_fails (mc := 0) (ms := 0) h) u1171 u1173 u26 u49 u1174 hdX7_fails (rv3 hg hw) hw ⟨Nat.le_of_ble_eq_true rfl, Nat.le_of_ble_eq_true rfl⟩ ⟨by show 0 + 0 ≤ mc; omega, by show 0 + 0 ≤ ms; omega⟩ hl.1 (Nat.le_of_ble_eq_true rfl) rfl dX7_stake_131 (fun E ce q H1 locs1 hx hS1 hc1 hc2 hc3 => hx.elim) (fun rv H locs hq hS => ?_)
        obtain ⟨r21, M22, ap23, rfl, h, hw⟩ := hq
        show W p l e _ s m _ below meth c H locs _ _ _ (F0 m 134 ls [.int r21])
        show W p l e _ s m _ below meth c H locs 0 0 _ _
        exact r_iret (y := yX7_stake) S hr rfl hlk hS (by omega) (by omega) dX7_stake_134 ⟨r21, _, _, rfl, h, hw⟩
      · have h := h.2 c20
        refine lv_aload_n S.1 S.2.1 dX7_stake_107 rfl (lv_at hl 2 rfl) ?_
        refine g3_10 S hg hw u1054 dX7_stake_108 ?_
        refine lv_iload_n S.1 S.2.1 dX7_stake_111 rfl (lv_at hl 4 rfl) ?_
        obtain ⟨g24, h⟩ := h
        refine a16 S hg hw rfl g24 dX7_stake_112 ?_
        refine lv_iconst (v := (-1)) S.1 S.2.1 dX7_stake_113 (by decide) ?_
        refine lv_icmp_ne (tgt := 129) S.1 S.2.1 dX7_stake_114 (by decide) (fun c25 => ?_) (fun c25 => ?_)
        · have h := h.1 c25
          refine lv_aload_n S.1 S.2.1 dX7_stake_129 rfl (lv_at hl 2 rfl) ?_
          refine lv_iconst (v := 3) S.1 S.2.1 dX7_stake_130 (by decide) ?_
          refine r_call (rest := []) S hg hS (mtX7_fails (mc := 0) (ms := 0) h) u1171 u1173 u26 u49 u1174 hdX7_fails (rv3 hg hw) hw ⟨Nat.le_of_ble_eq_true rfl, Nat.le_of_ble_eq_true rfl⟩ ⟨by show 0 + 0 ≤ mc; omega, by show 0 + 0 ≤ ms; omega⟩ hl.1 (Nat.le_of_ble_eq_true rfl) rfl dX7_stake_131 (fun E ce q H1 locs1 hx hS1 hc1 hc2 hc3 => hx.elim) (fun rv H locs hq hS => ?_)
          obtain ⟨r26, M27, ap28, rfl, h, hw⟩ := hq
          show W p l e _ s m _ below meth c H locs _ _ _ (F0 m 134 ls [.int r26])
          show W p l e _ s m _ below meth c H locs 0 0 _ _
          exact r_iret (y := yX7_stake) S hr rfl hlk hS (by omega) (by omega) dX7_stake_134 ⟨r26, _, _, rfl, h, hw⟩
        · have h := h.2 c25
          refine lv_aload_n S.1 S.2.1 dX7_stake_117 rfl (lv_at hl 2 rfl) ?_
          refine g3_21 S hg hw u1065 dX7_stake_118 ?_
          refine lv_iload S.1 S.2.1 dX7_stake_121 (lv_at hl 0 rfl) ?_
          obtain ⟨g29, h⟩ := h
          refine a16 S hg hw rfl g29 dX7_stake_123 ?_
          refine lv_bipush (v := 8) S.1 S.2.1 dX7_stake_124 (by decide) ?_
          refine lv_icmp_ne (tgt := 135) S.1 S.2.1 dX7_stake_126 (by decide) (fun c30 => ?_) (fun c30 => ?_)
          · have h := h.1 c30
            refine lv_aload_n S.1 S.2.1 dX7_stake_135 rfl (lv_at hl 2 rfl) ?_
            refine g3_8 S hg hw u1052 dX7_stake_136 ?_
            refine lv_iload_n S.1 S.2.1 dX7_stake_139 rfl (lv_at hl 4 rfl) ?_
            refine lv_bipush (v := 115) S.1 S.2.1 dX7_stake_140 (by decide) ?_
            refine s13 S hg hS hw rfl g19 (by decide) dX7_stake_142 (fun H locs hw hS => ?_)
            refine lv_aload_n S.1 S.2.1 dX7_stake_143 rfl (lv_at hl 2 rfl) ?_
            refine g3_9 S hg hw u1053 dX7_stake_144 ?_
            refine lv_iload_n S.1 S.2.1 dX7_stake_147 rfl (lv_at hl 4 rfl) ?_
            refine lv_iload_n S.1 S.2.1 dX7_stake_148 rfl (lv_at hl 3 rfl) ?_
            obtain ⟨g31, h⟩ := h
            refine s16 S hg hS hw rfl g31 dX7_stake_149 (fun H locs hw hS => ?_)
            refine lv_aload_n S.1 S.2.1 dX7_stake_150 rfl (lv_at hl 2 rfl) ?_
            refine g3_22 S hg hw u1066 dX7_stake_151 ?_
            refine lv_bipush (v := 8) S.1 S.2.1 dX7_stake_154 (by decide) ?_
            refine lv_iload S.1 S.2.1 dX7_stake_156 (lv_at hl 0 rfl) ?_
            refine lv_imul S.1 S.2.1 dX7_stake_158 ?_
            refine lv_aload_n S.1 S.2.1 dX7_stake_159 rfl (lv_at hl 2 rfl) ?_
            refine g3_21 S hg hw u1065 dX7_stake_160 ?_
            refine lv_iload S.1 S.2.1 dX7_stake_163 (lv_at hl 0 rfl) ?_
            refine a16 S hg hw rfl g29 dX7_stake_165 ?_
            refine lv_iadd S.1 S.2.1 dX7_stake_166 ?_
            refine lv_iload_n S.1 S.2.1 dX7_stake_167 rfl (lv_at hl 4 rfl) ?_
            obtain ⟨g32, h⟩ := h
            refine s16 S hg hS hw rfl g32 dX7_stake_168 (fun H locs hw hS => ?_)
            refine lv_aload_n S.1 S.2.1 dX7_stake_169 rfl (lv_at hl 2 rfl) ?_
            refine g3_23 S hg hw u1067 dX7_stake_170 ?_
            refine lv_bipush (v := 8) S.1 S.2.1 dX7_stake_173 (by decide) ?_
            refine lv_iload S.1 S.2.1 dX7_stake_175 (lv_at hl 0 rfl) ?_
            refine lv_imul S.1 S.2.1 dX7_stake_177 ?_
            refine lv_aload_n S.1 S.2.1 dX7_stake_178 rfl (lv_at hl 2 rfl) ?_
            refine g3_21 S hg hw u1065 dX7_stake_179 ?_
            refine lv_iload S.1 S.2.1 dX7_stake_182 (lv_at hl 0 rfl) ?_
            refine a16 S hg hw rfl g29 dX7_stake_184 ?_
            refine lv_iadd S.1 S.2.1 dX7_stake_185 ?_
            refine lv_iconst (v := 0) S.1 S.2.1 dX7_stake_186 (by decide) ?_
            obtain ⟨g33, h⟩ := h
            refine s16 S hg hS hw rfl g33 dX7_stake_187 (fun H locs hw hS => ?_)
            refine lv_aload_n S.1 S.2.1 dX7_stake_188 rfl (lv_at hl 2 rfl) ?_
            refine g3_21 S hg hw u1065 dX7_stake_189 ?_
            refine lv_iload S.1 S.2.1 dX7_stake_192 (lv_at hl 0 rfl) ?_
            refine lv_dup2_11 S.1 S.2.1 dX7_stake_194 rfl rfl ?_
            refine a16 S hg hw rfl g29 dX7_stake_195 ?_
            refine lv_iconst (v := 1) S.1 S.2.1 dX7_stake_196 (by decide) ?_
            refine lv_iadd S.1 S.2.1 dX7_stake_197 ?_
            refine s16 S hg hS hw rfl g29 dX7_stake_198 (fun H locs hw hS => ?_)
            refine lv_aload_n S.1 S.2.1 dX7_stake_199 rfl (lv_at hl 2 rfl) ?_
            refine g3_21 S hg hw u1065 dX7_stake_200 ?_
            refine lv_iload S.1 S.2.1 dX7_stake_203 (lv_at hl 0 rfl) ?_
            refine a16 S hg hw rfl g29 dX7_stake_205 ?_
            exact r_iret (y := yX7_stake) S hr rfl hlk hS (by omega) (by omega) dX7_stake_206 ⟨((k3 (k3 (k3 (k3 (k3 M 13 8 l2.toNatClampNeg 115) 16 9 l2.toNatClampNeg l1) 16 22 (((8 * ((2 * l1) + t0)) + ((k3 (k3 M 13 8 l2.toNatClampNeg 115) 16 9 l2.toNatClampNeg l1) 16 21 (((2 * l1) + t0).toNatClampNeg))).toNatClampNeg) l2) 16 23 (((8 * ((2 * l1) + t0)) + ((k3 (k3 (k3 M 13 8 l2.toNatClampNeg 115) 16 9 l2.toNatClampNeg l1) 16 22 (((8 * ((2 * l1) + t0)) + ((k3 (k3 M 13 8 l2.toNatClampNeg 115) 16 9 l2.toNatClampNeg l1) 16 21 (((2 * l1) + t0).toNatClampNeg))).toNatClampNeg) l2) 16 21 (((2 * l1) + t0).toNatClampNeg))).toNatClampNeg) 0) 16 21 (((2 * l1) + t0).toNatClampNeg) (((k3 (k3 (k3 (k3 M 13 8 l2.toNatClampNeg 115) 16 9 l2.toNatClampNeg l1) 16 22 (((8 * ((2 * l1) + t0)) + ((k3 (k3 M 13 8 l2.toNatClampNeg 115) 16 9 l2.toNatClampNeg l1) 16 21 (((2 * l1) + t0).toNatClampNeg))).toNatClampNeg) l2) 16 23 (((8 * ((2 * l1) + t0)) + ((k3 (k3 (k3 M 13 8 l2.toNatClampNeg 115) 16 9 l2.toNatClampNeg l1) 16 22 (((8 * ((2 * l1) + t0)) + ((k3 (k3 M 13 8 l2.toNatClampNeg 115) 16 9 l2.toNatClampNeg l1) 16 21 (((2 * l1) + t0).toNatClampNeg))).toNatClampNeg) l2) 16 21 (((2 * l1) + t0).toNatClampNeg))).toNatClampNeg) 0) 16 21 (((2 * l1) + t0).toNatClampNeg)) + 1)) 16 21 (((2 * l1) + t0).toNatClampNeg)), _, _, rfl, h, hw⟩
          · have h := h.2 c30
            refine lv_aload_n S.1 S.2.1 dX7_stake_129 rfl (lv_at hl 2 rfl) ?_
            refine lv_iconst (v := 3) S.1 S.2.1 dX7_stake_130 (by decide) ?_
            refine r_call (rest := []) S hg hS (mtX7_fails (mc := 0) (ms := 0) h) u1171 u1173 u26 u49 u1174 hdX7_fails (rv3 hg hw) hw ⟨Nat.le_of_ble_eq_true rfl, Nat.le_of_ble_eq_true rfl⟩ ⟨by show 0 + 0 ≤ mc; omega, by show 0 + 0 ≤ ms; omega⟩ hl.1 (Nat.le_of_ble_eq_true rfl) rfl dX7_stake_131 (fun E ce q H1 locs1 hx hS1 hc1 hc2 hc3 => hx.elim) (fun rv H locs hq hS => ?_)
            obtain ⟨r34, M35, ap36, rfl, h, hw⟩ := hq
            show W p l e _ s m _ below meth c H locs _ _ _ (F0 m 134 ls [.int r34])
            show W p l e _ s m _ below meth c H locs 0 0 _ _
            exact r_iret (y := yX7_stake) S hr rfl hlk hS (by omega) (by omega) dX7_stake_134 ⟨r34, _, _, rfl, h, hw⟩
    · have h := h.2 c18
      refine lv_aload_n S.1 S.2.1 dX7_stake_83 rfl (lv_at hl 1 rfl) ?_
      refine lv_iconst (v := 2) S.1 S.2.1 dX7_stake_84 (by decide) ?_
      refine r_call (rest := []) S hg hS (mtX7_fails (mc := 0) (ms := 0) h) u1171 u1173 u26 u49 u1174 hdX7_fails (rv3 hg hw) hw ⟨Nat.le_of_ble_eq_true rfl, Nat.le_of_ble_eq_true rfl⟩ ⟨by show 0 + 0 ≤ mc; omega, by show 0 + 0 ≤ ms; omega⟩ hl.1 (Nat.le_of_ble_eq_true rfl) rfl dX7_stake_85 (fun E ce q H1 locs1 hx hS1 hc1 hc2 hc3 => hx.elim) (fun rv H locs hq hS => ?_)
      obtain ⟨r37, M38, ap39, rfl, h, hw⟩ := hq
      show W p l e _ s m _ below meth c H locs _ _ _ (F0 m 88 ls [.int r37])
      show W p l e _ s m _ below meth c H locs 0 0 _ _
      exact r_iret (y := yX7_stake) S hr rfl hlk hS (by omega) (by omega) dX7_stake_88 ⟨r37, _, _, rfl, h, hw⟩
def wpX7_stake (post : Int32 → KS → Int64 → Prop) (M : KS) (ap : Int64) (p1 : Int32) (p2 : Int32) : Prop := (wpX7_isDuel (fun r1 => ((r1 = 0 → ((wpX7_fails (fun r3 M4 ap5 => post r3 M4 ap5) (k3 M 3 0 0 0) ap 1))) ∧ (¬ r1 = 0 → ((wpX7_isCard (fun r6 => ((¬ r6 = 0 → ((vp_in p2 40) ∧ ((vp_in p1 8) ∧ (((¬ ((k3 M 3 0 0 0) 16 7 p2.toNatClampNeg) = ((k3 M 3 0 0 0) 16 14 p1.toNatClampNeg) → ((vp_in p1 8) ∧ (((¬ ((k3 M 3 0 0 0) 16 7 p2.toNatClampNeg) = ((k3 M 3 0 0 0) 16 15 p1.toNatClampNeg) → (wX7_stake_66 post p1 p2 (-1) (k3 M 3 0 0 0) ap)) ∧ (((k3 M 3 0 0 0) 16 7 p2.toNatClampNeg) = ((k3 M 3 0 0 0) 16 15 p1.toNatClampNeg) → (wX7_stake_66 post p1 p2 1 (k3 M 3 0 0 0) ap)))))) ∧ (((k3 M 3 0 0 0) 16 7 p2.toNatClampNeg) = ((k3 M 3 0 0 0) 16 14 p1.toNatClampNeg) → (wX7_stake_66 post p1 p2 0 (k3 M 3 0 0 0) ap))))))) ∧ (r6 = 0 → ((wpX7_fails (fun r40 M41 ap42 => post r40 M41 ap42) (k3 M 3 0 0 0) ap 1))))) (k3 M 3 0 0 0) ap p2))))) (k3 M 3 0 0 0) ap p1)
theorem hdX7_stake : yX7_stake.cls ≠ "java/lang/invoke/MethodHandle" ∧ yX7_stake.cls ≠ "java/lang/invoke/VarHandle" ∧ (parseMethodDescriptor yX7_stake.desc).map (fun d => d.parameters.length) = some 2 := by decide +kernel
set_option maxHeartbeats 4000000 in
set_option maxRecDepth 100000 in
theorem mtX7_stake {l : Launch} {D : va_G} {cI : Nat → ClassId} {e0 : Nat} {A : Nat → Prop} {ad : Nat → Nat → Nat} {K M : KS} {ap o : Int64} {od : UInt64} {mc ms : Nat} {p1 : Int32} {p2 : Int32} {post : Int32 → KS → Int64 → Prop} (h : wpX7_stake post M ap p1 p2) : CM l D cI e0 A yX7_stake cX7_stake 5 (some FieldType.int) 2 43 mc ms [.ref (ad 3 0), .int p1, .int p2] (HT D cI e0 A ad K M ap o od) (qM D cI e0 A ad K o od rI post) xN := by
  refine CM.of (by decide) (Nat.le_of_ble_eq_true rfl) (fun p e s m below meth c ls FX hw hS hl => ?_)
  obtain ⟨S, hg, hr, hlk, hnm, hout⟩ := FX
  have hl : lv_has ls 5 [(0, .ref (ad 3 0)), (1, .int p1), (2, .int p2)] := hl
  unfold wpX7_stake at h
  refine lv_aload_n S.1 S.2.1 dX7_stake_0 rfl (lv_at hl 0 rfl) ?_
  refine lv_iconst (v := 0) S.1 S.2.1 dX7_stake_1 (by decide) ?_
  refine p3_0 S hg hS hw u1044 dX7_stake_2 (fun H locs hw hS => ?_)
  refine lv_aload_n S.1 S.2.1 dX7_stake_5 rfl (lv_at hl 0 rfl) ?_
  refine lv_iload_n S.1 S.2.1 dX7_stake_6 rfl (lv_at hl 1 rfl) ?_
  refine r_call (rest := []) S hg hS (mtX7_isDuel (mc := 0) (ms := 0) h) u1235 u1237 u32 u49 u1238 hdX7_isDuel (rv3 hg hw) hw ⟨Nat.le_of_ble_eq_true rfl, Nat.le_of_ble_eq_true rfl⟩ ⟨by show 0 + 0 ≤ mc; omega, by show 0 + 0 ≤ ms; omega⟩ hl.1 (Nat.le_of_ble_eq_true rfl) rfl dX7_stake_7 (fun E ce q H1 locs1 hx hS1 hc1 hc2 hc3 => hx.elim) (fun rv H locs hq hS => ?_)
  obtain ⟨r1, rfl, h, hw⟩ := hq
  show W p l e _ s m _ below meth c H locs _ _ _ (F0 m 10 ls [.int r1])
  show W p l e _ s m _ below meth c H locs 0 0 _ _
  refine lv_if_eq (tgt := 21) S.1 S.2.1 dX7_stake_10 (by decide) (fun c2 => ?_) (fun c2 => ?_)
  · have h := h.1 c2
    refine lv_aload_n S.1 S.2.1 dX7_stake_21 rfl (lv_at hl 0 rfl) ?_
    refine lv_iconst (v := 1) S.1 S.2.1 dX7_stake_22 (by decide) ?_
    refine r_call (rest := []) S hg hS (mtX7_fails (mc := 0) (ms := 0) h) u1171 u1173 u26 u49 u1174 hdX7_fails (rv3 hg hw) hw ⟨Nat.le_of_ble_eq_true rfl, Nat.le_of_ble_eq_true rfl⟩ ⟨by show 0 + 0 ≤ mc; omega, by show 0 + 0 ≤ ms; omega⟩ hl.1 (Nat.le_of_ble_eq_true rfl) rfl dX7_stake_23 (fun E ce q H1 locs1 hx hS1 hc1 hc2 hc3 => hx.elim) (fun rv H locs hq hS => ?_)
    obtain ⟨r3, M4, ap5, rfl, h, hw⟩ := hq
    show W p l e _ s m _ below meth c H locs _ _ _ (F0 m 26 ls [.int r3])
    show W p l e _ s m _ below meth c H locs 0 0 _ _
    exact r_iret (y := yX7_stake) S hr rfl hlk hS (by omega) (by omega) dX7_stake_26 ⟨r3, _, _, rfl, h, hw⟩
  · have h := h.2 c2
    refine lv_aload_n S.1 S.2.1 dX7_stake_13 rfl (lv_at hl 0 rfl) ?_
    refine lv_iload_n S.1 S.2.1 dX7_stake_14 rfl (lv_at hl 2 rfl) ?_
    refine r_call (rest := []) S hg hS (mtX7_isCard (mc := 0) (ms := 0) h) u1191 u1193 u29 u49 u1194 hdX7_isCard (rv3 hg hw) hw ⟨Nat.le_of_ble_eq_true rfl, Nat.le_of_ble_eq_true rfl⟩ ⟨by show 0 + 0 ≤ mc; omega, by show 0 + 0 ≤ ms; omega⟩ hl.1 (Nat.le_of_ble_eq_true rfl) rfl dX7_stake_15 (fun E ce q H1 locs1 hx hS1 hc1 hc2 hc3 => hx.elim) (fun rv H locs hq hS => ?_)
    obtain ⟨r6, rfl, h, hw⟩ := hq
    show W p l e _ s m _ below meth c H locs _ _ _ (F0 m 18 ls [.int r6])
    show W p l e _ s m _ below meth c H locs 0 0 _ _
    refine lv_if_ne (tgt := 27) S.1 S.2.1 dX7_stake_18 (by decide) (fun c7 => ?_) (fun c7 => ?_)
    · have h := h.1 c7
      refine lv_aload_n S.1 S.2.1 dX7_stake_27 rfl (lv_at hl 0 rfl) ?_
      refine g3_7 S hg hw u1051 dX7_stake_28 ?_
      refine lv_iload_n S.1 S.2.1 dX7_stake_31 rfl (lv_at hl 2 rfl) ?_
      obtain ⟨g8, h⟩ := h
      refine a16 S hg hw rfl g8 dX7_stake_32 ?_
      refine lv_aload_n S.1 S.2.1 dX7_stake_33 rfl (lv_at hl 0 rfl) ?_
      refine g3_14 S hg hw u1058 dX7_stake_34 ?_
      refine lv_iload_n S.1 S.2.1 dX7_stake_37 rfl (lv_at hl 1 rfl) ?_
      obtain ⟨g9, h⟩ := h
      refine a16 S hg hw rfl g9 dX7_stake_38 ?_
      refine lv_icmp_ne (tgt := 46) S.1 S.2.1 dX7_stake_39 (by decide) (fun c10 => ?_) (fun c10 => ?_)
      · have h := h.1 c10
        refine lv_aload_n S.1 S.2.1 dX7_stake_46 rfl (lv_at hl 0 rfl) ?_
        refine g3_7 S hg hw u1051 dX7_stake_47 ?_
        refine lv_iload_n S.1 S.2.1 dX7_stake_50 rfl (lv_at hl 2 rfl) ?_
        refine a16 S hg hw rfl g8 dX7_stake_51 ?_
        refine lv_aload_n S.1 S.2.1 dX7_stake_52 rfl (lv_at hl 0 rfl) ?_
        refine g3_15 S hg hw u1059 dX7_stake_53 ?_
        refine lv_iload_n S.1 S.2.1 dX7_stake_56 rfl (lv_at hl 1 rfl) ?_
        obtain ⟨g11, h⟩ := h
        refine a16 S hg hw rfl g11 dX7_stake_57 ?_
        refine lv_icmp_ne (tgt := 65) S.1 S.2.1 dX7_stake_58 (by decide) (fun c12 => ?_) (fun c12 => ?_)
        · have h := h.1 c12
          refine lv_iconst (v := (-1)) S.1 S.2.1 dX7_stake_65 (by decide) ?_
          have hl := lv_sub hl (l' := [(0, .ref (ad 3 0)), (1, .int p1), (2, .int p2)]) [0, 1, 2] rfl
          exact bX7_stake_66 S hg hr hlk hout hS hw hl h
        · have h := h.2 c12
          refine lv_iconst (v := 1) S.1 S.2.1 dX7_stake_61 (by decide) ?_
          refine lv_goto (tgt := 66) S.1 S.2.1 dX7_stake_62 (by decide) ?_
          have hl := lv_sub hl (l' := [(0, .ref (ad 3 0)), (1, .int p1), (2, .int p2)]) [0, 1, 2] rfl
          exact bX7_stake_66 S hg hr hlk hout hS hw hl h
      · have h := h.2 c10
        refine lv_iconst (v := 0) S.1 S.2.1 dX7_stake_42 (by decide) ?_
        refine lv_goto (tgt := 66) S.1 S.2.1 dX7_stake_43 (by decide) ?_
        have hl := lv_sub hl (l' := [(0, .ref (ad 3 0)), (1, .int p1), (2, .int p2)]) [0, 1, 2] rfl
        exact bX7_stake_66 S hg hr hlk hout hS hw hl h
    · have h := h.2 c7
      refine lv_aload_n S.1 S.2.1 dX7_stake_21 rfl (lv_at hl 0 rfl) ?_
      refine lv_iconst (v := 1) S.1 S.2.1 dX7_stake_22 (by decide) ?_
      refine r_call (rest := []) S hg hS (mtX7_fails (mc := 0) (ms := 0) h) u1171 u1173 u26 u49 u1174 hdX7_fails (rv3 hg hw) hw ⟨Nat.le_of_ble_eq_true rfl, Nat.le_of_ble_eq_true rfl⟩ ⟨by show 0 + 0 ≤ mc; omega, by show 0 + 0 ≤ ms; omega⟩ hl.1 (Nat.le_of_ble_eq_true rfl) rfl dX7_stake_23 (fun E ce q H1 locs1 hx hS1 hc1 hc2 hc3 => hx.elim) (fun rv H locs hq hS => ?_)
      obtain ⟨r40, M41, ap42, rfl, h, hw⟩ := hq
      show W p l e _ s m _ below meth c H locs _ _ _ (F0 m 26 ls [.int r40])
      show W p l e _ s m _ below meth c H locs 0 0 _ _
      exact r_iret (y := yX7_stake) S hr rfl hlk hS (by omega) (by omega) dX7_stake_26 ⟨r40, _, _, rfl, h, hw⟩

-- X7.start
theorem dX7_start_0 : decode cX7_start 0 = .ok (.aload_n 0, 1) := by decide +kernel
theorem dX7_start_1 : decode cX7_start 1 = .ok (.iconst 0, 1) := by decide +kernel
theorem dX7_start_2 : decode cX7_start 2 = .ok (.putfield 98, 3) := by decide +kernel
theorem dX7_start_5 : decode cX7_start 5 = .ok (.aload_n 0, 1) := by decide +kernel
theorem dX7_start_6 : decode cX7_start 6 = .ok (.iload_n 1, 1) := by decide +kernel
theorem dX7_start_7 : decode cX7_start 7 = .ok (.invokevirtual 141, 3) := by decide +kernel
theorem dX7_start_10 : decode cX7_start 10 = .ok (.ifCond .ne 9, 3) := by decide +kernel
theorem dX7_start_13 : decode cX7_start 13 = .ok (.aload_n 0, 1) := by decide +kernel
theorem dX7_start_14 : decode cX7_start 14 = .ok (.iconst 1, 1) := by decide +kernel
theorem dX7_start_15 : decode cX7_start 15 = .ok (.invokevirtual 106, 3) := by decide +kernel
theorem dX7_start_18 : decode cX7_start 18 = .ok (.ireturn, 1) := by decide +kernel
theorem dX7_start_19 : decode cX7_start 19 = .ok (.aload_n 0, 1) := by decide +kernel
theorem dX7_start_20 : decode cX7_start 20 = .ok (.getfield 38, 3) := by decide +kernel
theorem dX7_start_23 : decode cX7_start 23 = .ok (.iload_n 1, 1) := by decide +kernel
theorem dX7_start_24 : decode cX7_start 24 = .ok (.caload, 1) := by decide +kernel
theorem dX7_start_25 : decode cX7_start 25 = .ok (.bipush 111, 2) := by decide +kernel
theorem dX7_start_27 : decode cX7_start 27 = .ok (.if_icmp .eq 9, 3) := by decide +kernel
theorem dX7_start_30 : decode cX7_start 30 = .ok (.aload_n 0, 1) := by decide +kernel
theorem dX7_start_31 : decode cX7_start 31 = .ok (.iconst 2, 1) := by decide +kernel
theorem dX7_start_32 : decode cX7_start 32 = .ok (.invokevirtual 106, 3) := by decide +kernel
theorem dX7_start_35 : decode cX7_start 35 = .ok (.ireturn, 1) := by decide +kernel
theorem dX7_start_36 : decode cX7_start 36 = .ok (.aload_n 0, 1) := by decide +kernel
theorem dX7_start_37 : decode cX7_start 37 = .ok (.getfield 53, 3) := by decide +kernel
theorem dX7_start_40 : decode cX7_start 40 = .ok (.iconst 2, 1) := by decide +kernel
theorem dX7_start_41 : decode cX7_start 41 = .ok (.iload_n 1, 1) := by decide +kernel
theorem dX7_start_42 : decode cX7_start 42 = .ok (.imul, 1) := by decide +kernel
theorem dX7_start_43 : decode cX7_start 43 = .ok (.iaload, 1) := by decide +kernel
theorem dX7_start_44 : decode cX7_start 44 = .ok (.ifCond .eq 16, 3) := by decide +kernel
theorem dX7_start_47 : decode cX7_start 47 = .ok (.aload_n 0, 1) := by decide +kernel
theorem dX7_start_48 : decode cX7_start 48 = .ok (.getfield 53, 3) := by decide +kernel
theorem dX7_start_51 : decode cX7_start 51 = .ok (.iconst 2, 1) := by decide +kernel
theorem dX7_start_52 : decode cX7_start 52 = .ok (.iload_n 1, 1) := by decide +kernel
theorem dX7_start_53 : decode cX7_start 53 = .ok (.imul, 1) := by decide +kernel
theorem dX7_start_54 : decode cX7_start 54 = .ok (.iconst 1, 1) := by decide +kernel
theorem dX7_start_55 : decode cX7_start 55 = .ok (.iadd, 1) := by decide +kernel
theorem dX7_start_56 : decode cX7_start 56 = .ok (.iaload, 1) := by decide +kernel
theorem dX7_start_57 : decode cX7_start 57 = .ok (.ifCond .ne 9, 3) := by decide +kernel
theorem dX7_start_60 : decode cX7_start 60 = .ok (.aload_n 0, 1) := by decide +kernel
theorem dX7_start_61 : decode cX7_start 61 = .ok (.iconst 3, 1) := by decide +kernel
theorem dX7_start_62 : decode cX7_start 62 = .ok (.invokevirtual 106, 3) := by decide +kernel
theorem dX7_start_65 : decode cX7_start 65 = .ok (.ireturn, 1) := by decide +kernel
theorem dX7_start_66 : decode cX7_start 66 = .ok (.aload_n 0, 1) := by decide +kernel
theorem dX7_start_67 : decode cX7_start 67 = .ok (.getfield 38, 3) := by decide +kernel
theorem dX7_start_70 : decode cX7_start 70 = .ok (.iload_n 1, 1) := by decide +kernel
theorem dX7_start_71 : decode cX7_start 71 = .ok (.bipush 103, 2) := by decide +kernel
theorem dX7_start_73 : decode cX7_start 73 = .ok (.castore, 1) := by decide +kernel
theorem dX7_start_74 : decode cX7_start 74 = .ok (.aload_n 0, 1) := by decide +kernel
theorem dX7_start_75 : decode cX7_start 75 = .ok (.getfield 47, 3) := by decide +kernel
theorem dX7_start_78 : decode cX7_start 78 = .ok (.iload_n 1, 1) := by decide +kernel
theorem dX7_start_79 : decode cX7_start 79 = .ok (.iconst 1, 1) := by decide +kernel
theorem dX7_start_80 : decode cX7_start 80 = .ok (.iastore, 1) := by decide +kernel
theorem dX7_start_81 : decode cX7_start 81 = .ok (.aload_n 0, 1) := by decide +kernel
theorem dX7_start_82 : decode cX7_start 82 = .ok (.getfield 53, 3) := by decide +kernel
theorem dX7_start_85 : decode cX7_start 85 = .ok (.iconst 2, 1) := by decide +kernel
theorem dX7_start_86 : decode cX7_start 86 = .ok (.iload_n 1, 1) := by decide +kernel
theorem dX7_start_87 : decode cX7_start 87 = .ok (.imul, 1) := by decide +kernel
theorem dX7_start_88 : decode cX7_start 88 = .ok (.iaload, 1) := by decide +kernel
theorem dX7_start_89 : decode cX7_start 89 = .ok (.aload_n 0, 1) := by decide +kernel
theorem dX7_start_90 : decode cX7_start 90 = .ok (.getfield 53, 3) := by decide +kernel
theorem dX7_start_93 : decode cX7_start 93 = .ok (.iconst 2, 1) := by decide +kernel
theorem dX7_start_94 : decode cX7_start 94 = .ok (.iload_n 1, 1) := by decide +kernel
theorem dX7_start_95 : decode cX7_start 95 = .ok (.imul, 1) := by decide +kernel
theorem dX7_start_96 : decode cX7_start 96 = .ok (.iconst 1, 1) := by decide +kernel
theorem dX7_start_97 : decode cX7_start 97 = .ok (.iadd, 1) := by decide +kernel
theorem dX7_start_98 : decode cX7_start 98 = .ok (.iaload, 1) := by decide +kernel
theorem dX7_start_99 : decode cX7_start 99 = .ok (.iadd, 1) := by decide +kernel
theorem dX7_start_100 : decode cX7_start 100 = .ok (.ireturn, 1) := by decide +kernel
def wpX7_start (post : Int32 → KS → Int64 → Prop) (M : KS) (ap : Int64) (p1 : Int32) : Prop := (wpX7_isDuel (fun r1 => ((¬ r1 = 0 → ((vp_in p1 8) ∧ (((((k3 M 3 0 0 0) 13 16 p1.toNatClampNeg) = 111 → ((vp_in (2 * p1) 16) ∧ (((((k3 M 3 0 0 0) 16 21 ((2 * p1).toNatClampNeg)) = 0 → ((wpX7_fails (fun r7 M8 ap9 => post r7 M8 ap9) (k3 M 3 0 0 0) ap 3))) ∧ (¬ ((k3 M 3 0 0 0) 16 21 ((2 * p1).toNatClampNeg)) = 0 → ((vp_in ((2 * p1) + 1) 16) ∧ (((¬ ((k3 M 3 0 0 0) 16 21 (((2 * p1) + 1).toNatClampNeg)) = 0 → ((vp_in p1 8) ∧ (post (((k3 (k3 (k3 M 3 0 0 0) 13 16 p1.toNatClampNeg 103) 16 19 p1.toNatClampNeg 1) 16 21 ((2 * p1).toNatClampNeg)) + ((k3 (k3 (k3 M 3 0 0 0) 13 16 p1.toNatClampNeg 103) 16 19 p1.toNatClampNeg 1) 16 21 (((2 * p1) + 1).toNatClampNeg))) (k3 (k3 (k3 M 3 0 0 0) 13 16 p1.toNatClampNeg 103) 16 19 p1.toNatClampNeg 1) ap))) ∧ (((k3 M 3 0 0 0) 16 21 (((2 * p1) + 1).toNatClampNeg)) = 0 → ((wpX7_fails (fun r13 M14 ap15 => post r13 M14 ap15) (k3 M 3 0 0 0) ap 3))))))))))) ∧ (¬ ((k3 M 3 0 0 0) 13 16 p1.toNatClampNeg) = 111 → ((wpX7_fails (fun r16 M17 ap18 => post r16 M17 ap18) (k3 M 3 0 0 0) ap 2))))))) ∧ (r1 = 0 → ((wpX7_fails (fun r19 M20 ap21 => post r19 M20 ap21) (k3 M 3 0 0 0) ap 1))))) (k3 M 3 0 0 0) ap p1)
theorem hdX7_start : yX7_start.cls ≠ "java/lang/invoke/MethodHandle" ∧ yX7_start.cls ≠ "java/lang/invoke/VarHandle" ∧ (parseMethodDescriptor yX7_start.desc).map (fun d => d.parameters.length) = some 1 := by decide +kernel
set_option maxHeartbeats 4000000 in
set_option maxRecDepth 100000 in
theorem mtX7_start {l : Launch} {D : va_G} {cI : Nat → ClassId} {e0 : Nat} {A : Nat → Prop} {ad : Nat → Nat → Nat} {K M : KS} {ap o : Int64} {od : UInt64} {mc ms : Nat} {p1 : Int32} {post : Int32 → KS → Int64 → Prop} (h : wpX7_start post M ap p1) : CM l D cI e0 A yX7_start cX7_start 2 (some FieldType.int) 2 43 mc ms [.ref (ad 3 0), .int p1] (HT D cI e0 A ad K M ap o od) (qM D cI e0 A ad K o od rI post) xN := by
  refine CM.of (by decide) (Nat.le_of_ble_eq_true rfl) (fun p e s m below meth c ls FX hw hS hl => ?_)
  obtain ⟨S, hg, hr, hlk, hnm, hout⟩ := FX
  have hl : lv_has ls 2 [(0, .ref (ad 3 0)), (1, .int p1)] := hl
  unfold wpX7_start at h
  refine lv_aload_n S.1 S.2.1 dX7_start_0 rfl (lv_at hl 0 rfl) ?_
  refine lv_iconst (v := 0) S.1 S.2.1 dX7_start_1 (by decide) ?_
  refine p3_0 S hg hS hw u1044 dX7_start_2 (fun H locs hw hS => ?_)
  refine lv_aload_n S.1 S.2.1 dX7_start_5 rfl (lv_at hl 0 rfl) ?_
  refine lv_iload_n S.1 S.2.1 dX7_start_6 rfl (lv_at hl 1 rfl) ?_
  refine r_call (rest := []) S hg hS (mtX7_isDuel (mc := 0) (ms := 0) h) u1235 u1237 u32 u49 u1238 hdX7_isDuel (rv3 hg hw) hw ⟨Nat.le_of_ble_eq_true rfl, Nat.le_of_ble_eq_true rfl⟩ ⟨by show 0 + 0 ≤ mc; omega, by show 0 + 0 ≤ ms; omega⟩ hl.1 (Nat.le_of_ble_eq_true rfl) rfl dX7_start_7 (fun E ce q H1 locs1 hx hS1 hc1 hc2 hc3 => hx.elim) (fun rv H locs hq hS => ?_)
  obtain ⟨r1, rfl, h, hw⟩ := hq
  show W p l e _ s m _ below meth c H locs _ _ _ (F0 m 10 ls [.int r1])
  show W p l e _ s m _ below meth c H locs 0 0 _ _
  refine lv_if_ne (tgt := 19) S.1 S.2.1 dX7_start_10 (by decide) (fun c2 => ?_) (fun c2 => ?_)
  · have h := h.1 c2
    refine lv_aload_n S.1 S.2.1 dX7_start_19 rfl (lv_at hl 0 rfl) ?_
    refine g3_16 S hg hw u1060 dX7_start_20 ?_
    refine lv_iload_n S.1 S.2.1 dX7_start_23 rfl (lv_at hl 1 rfl) ?_
    obtain ⟨g3, h⟩ := h
    refine a13 S hg hw rfl g3 dX7_start_24 ?_
    refine lv_bipush (v := 111) S.1 S.2.1 dX7_start_25 (by decide) ?_
    refine lv_icmp_eq (tgt := 36) S.1 S.2.1 dX7_start_27 (by decide) (fun c4 => ?_) (fun c4 => ?_)
    · have h := h.1 c4
      refine lv_aload_n S.1 S.2.1 dX7_start_36 rfl (lv_at hl 0 rfl) ?_
      refine g3_21 S hg hw u1065 dX7_start_37 ?_
      refine lv_iconst (v := 2) S.1 S.2.1 dX7_start_40 (by decide) ?_
      refine lv_iload_n S.1 S.2.1 dX7_start_41 rfl (lv_at hl 1 rfl) ?_
      refine lv_imul S.1 S.2.1 dX7_start_42 ?_
      obtain ⟨g5, h⟩ := h
      refine a16 S hg hw rfl g5 dX7_start_43 ?_
      refine lv_if_eq (tgt := 60) S.1 S.2.1 dX7_start_44 (by decide) (fun c6 => ?_) (fun c6 => ?_)
      · have h := h.1 c6
        refine lv_aload_n S.1 S.2.1 dX7_start_60 rfl (lv_at hl 0 rfl) ?_
        refine lv_iconst (v := 3) S.1 S.2.1 dX7_start_61 (by decide) ?_
        refine r_call (rest := []) S hg hS (mtX7_fails (mc := 0) (ms := 0) h) u1171 u1173 u26 u49 u1174 hdX7_fails (rv3 hg hw) hw ⟨Nat.le_of_ble_eq_true rfl, Nat.le_of_ble_eq_true rfl⟩ ⟨by show 0 + 0 ≤ mc; omega, by show 0 + 0 ≤ ms; omega⟩ hl.1 (Nat.le_of_ble_eq_true rfl) rfl dX7_start_62 (fun E ce q H1 locs1 hx hS1 hc1 hc2 hc3 => hx.elim) (fun rv H locs hq hS => ?_)
        obtain ⟨r7, M8, ap9, rfl, h, hw⟩ := hq
        show W p l e _ s m _ below meth c H locs _ _ _ (F0 m 65 ls [.int r7])
        show W p l e _ s m _ below meth c H locs 0 0 _ _
        exact r_iret (y := yX7_start) S hr rfl hlk hS (by omega) (by omega) dX7_start_65 ⟨r7, _, _, rfl, h, hw⟩
      · have h := h.2 c6
        refine lv_aload_n S.1 S.2.1 dX7_start_47 rfl (lv_at hl 0 rfl) ?_
        refine g3_21 S hg hw u1065 dX7_start_48 ?_
        refine lv_iconst (v := 2) S.1 S.2.1 dX7_start_51 (by decide) ?_
        refine lv_iload_n S.1 S.2.1 dX7_start_52 rfl (lv_at hl 1 rfl) ?_
        refine lv_imul S.1 S.2.1 dX7_start_53 ?_
        refine lv_iconst (v := 1) S.1 S.2.1 dX7_start_54 (by decide) ?_
        refine lv_iadd S.1 S.2.1 dX7_start_55 ?_
        obtain ⟨g10, h⟩ := h
        refine a16 S hg hw rfl g10 dX7_start_56 ?_
        refine lv_if_ne (tgt := 66) S.1 S.2.1 dX7_start_57 (by decide) (fun c11 => ?_) (fun c11 => ?_)
        · have h := h.1 c11
          refine lv_aload_n S.1 S.2.1 dX7_start_66 rfl (lv_at hl 0 rfl) ?_
          refine g3_16 S hg hw u1060 dX7_start_67 ?_
          refine lv_iload_n S.1 S.2.1 dX7_start_70 rfl (lv_at hl 1 rfl) ?_
          refine lv_bipush (v := 103) S.1 S.2.1 dX7_start_71 (by decide) ?_
          refine s13 S hg hS hw rfl g3 (by decide) dX7_start_73 (fun H locs hw hS => ?_)
          refine lv_aload_n S.1 S.2.1 dX7_start_74 rfl (lv_at hl 0 rfl) ?_
          refine g3_19 S hg hw u1063 dX7_start_75 ?_
          refine lv_iload_n S.1 S.2.1 dX7_start_78 rfl (lv_at hl 1 rfl) ?_
          refine lv_iconst (v := 1) S.1 S.2.1 dX7_start_79 (by decide) ?_
          obtain ⟨g12, h⟩ := h
          refine s16 S hg hS hw rfl g12 dX7_start_80 (fun H locs hw hS => ?_)
          refine lv_aload_n S.1 S.2.1 dX7_start_81 rfl (lv_at hl 0 rfl) ?_
          refine g3_21 S hg hw u1065 dX7_start_82 ?_
          refine lv_iconst (v := 2) S.1 S.2.1 dX7_start_85 (by decide) ?_
          refine lv_iload_n S.1 S.2.1 dX7_start_86 rfl (lv_at hl 1 rfl) ?_
          refine lv_imul S.1 S.2.1 dX7_start_87 ?_
          refine a16 S hg hw rfl g5 dX7_start_88 ?_
          refine lv_aload_n S.1 S.2.1 dX7_start_89 rfl (lv_at hl 0 rfl) ?_
          refine g3_21 S hg hw u1065 dX7_start_90 ?_
          refine lv_iconst (v := 2) S.1 S.2.1 dX7_start_93 (by decide) ?_
          refine lv_iload_n S.1 S.2.1 dX7_start_94 rfl (lv_at hl 1 rfl) ?_
          refine lv_imul S.1 S.2.1 dX7_start_95 ?_
          refine lv_iconst (v := 1) S.1 S.2.1 dX7_start_96 (by decide) ?_
          refine lv_iadd S.1 S.2.1 dX7_start_97 ?_
          refine a16 S hg hw rfl g10 dX7_start_98 ?_
          refine lv_iadd S.1 S.2.1 dX7_start_99 ?_
          exact r_iret (y := yX7_start) S hr rfl hlk hS (by omega) (by omega) dX7_start_100 ⟨(((k3 (k3 (k3 M 3 0 0 0) 13 16 p1.toNatClampNeg 103) 16 19 p1.toNatClampNeg 1) 16 21 ((2 * p1).toNatClampNeg)) + ((k3 (k3 (k3 M 3 0 0 0) 13 16 p1.toNatClampNeg 103) 16 19 p1.toNatClampNeg 1) 16 21 (((2 * p1) + 1).toNatClampNeg))), _, _, rfl, h, hw⟩
        · have h := h.2 c11
          refine lv_aload_n S.1 S.2.1 dX7_start_60 rfl (lv_at hl 0 rfl) ?_
          refine lv_iconst (v := 3) S.1 S.2.1 dX7_start_61 (by decide) ?_
          refine r_call (rest := []) S hg hS (mtX7_fails (mc := 0) (ms := 0) h) u1171 u1173 u26 u49 u1174 hdX7_fails (rv3 hg hw) hw ⟨Nat.le_of_ble_eq_true rfl, Nat.le_of_ble_eq_true rfl⟩ ⟨by show 0 + 0 ≤ mc; omega, by show 0 + 0 ≤ ms; omega⟩ hl.1 (Nat.le_of_ble_eq_true rfl) rfl dX7_start_62 (fun E ce q H1 locs1 hx hS1 hc1 hc2 hc3 => hx.elim) (fun rv H locs hq hS => ?_)
          obtain ⟨r13, M14, ap15, rfl, h, hw⟩ := hq
          show W p l e _ s m _ below meth c H locs _ _ _ (F0 m 65 ls [.int r13])
          show W p l e _ s m _ below meth c H locs 0 0 _ _
          exact r_iret (y := yX7_start) S hr rfl hlk hS (by omega) (by omega) dX7_start_65 ⟨r13, _, _, rfl, h, hw⟩
    · have h := h.2 c4
      refine lv_aload_n S.1 S.2.1 dX7_start_30 rfl (lv_at hl 0 rfl) ?_
      refine lv_iconst (v := 2) S.1 S.2.1 dX7_start_31 (by decide) ?_
      refine r_call (rest := []) S hg hS (mtX7_fails (mc := 0) (ms := 0) h) u1171 u1173 u26 u49 u1174 hdX7_fails (rv3 hg hw) hw ⟨Nat.le_of_ble_eq_true rfl, Nat.le_of_ble_eq_true rfl⟩ ⟨by show 0 + 0 ≤ mc; omega, by show 0 + 0 ≤ ms; omega⟩ hl.1 (Nat.le_of_ble_eq_true rfl) rfl dX7_start_32 (fun E ce q H1 locs1 hx hS1 hc1 hc2 hc3 => hx.elim) (fun rv H locs hq hS => ?_)
      obtain ⟨r16, M17, ap18, rfl, h, hw⟩ := hq
      show W p l e _ s m _ below meth c H locs _ _ _ (F0 m 35 ls [.int r16])
      show W p l e _ s m _ below meth c H locs 0 0 _ _
      exact r_iret (y := yX7_start) S hr rfl hlk hS (by omega) (by omega) dX7_start_35 ⟨r16, _, _, rfl, h, hw⟩
  · have h := h.2 c2
    refine lv_aload_n S.1 S.2.1 dX7_start_13 rfl (lv_at hl 0 rfl) ?_
    refine lv_iconst (v := 1) S.1 S.2.1 dX7_start_14 (by decide) ?_
    refine r_call (rest := []) S hg hS (mtX7_fails (mc := 0) (ms := 0) h) u1171 u1173 u26 u49 u1174 hdX7_fails (rv3 hg hw) hw ⟨Nat.le_of_ble_eq_true rfl, Nat.le_of_ble_eq_true rfl⟩ ⟨by show 0 + 0 ≤ mc; omega, by show 0 + 0 ≤ ms; omega⟩ hl.1 (Nat.le_of_ble_eq_true rfl) rfl dX7_start_15 (fun E ce q H1 locs1 hx hS1 hc1 hc2 hc3 => hx.elim) (fun rv H locs hq hS => ?_)
    obtain ⟨r19, M20, ap21, rfl, h, hw⟩ := hq
    show W p l e _ s m _ below meth c H locs _ _ _ (F0 m 18 ls [.int r19])
    show W p l e _ s m _ below meth c H locs 0 0 _ _
    exact r_iret (y := yX7_start) S hr rfl hlk hS (by omega) (by omega) dX7_start_18 ⟨r19, _, _, rfl, h, hw⟩

-- X7.play
theorem dX7_play_0 : decode cX7_play 0 = .ok (.aload_n 0, 1) := by decide +kernel
theorem dX7_play_1 : decode cX7_play 1 = .ok (.iconst 0, 1) := by decide +kernel
theorem dX7_play_2 : decode cX7_play 2 = .ok (.putfield 98, 3) := by decide +kernel
theorem dX7_play_5 : decode cX7_play 5 = .ok (.aload_n 0, 1) := by decide +kernel
theorem dX7_play_6 : decode cX7_play 6 = .ok (.iload_n 1, 1) := by decide +kernel
theorem dX7_play_7 : decode cX7_play 7 = .ok (.invokevirtual 141, 3) := by decide +kernel
theorem dX7_play_10 : decode cX7_play 10 = .ok (.ifCond .eq 11, 3) := by decide +kernel
theorem dX7_play_13 : decode cX7_play 13 = .ok (.aload_n 0, 1) := by decide +kernel
theorem dX7_play_14 : decode cX7_play 14 = .ok (.iload_n 2, 1) := by decide +kernel
theorem dX7_play_15 : decode cX7_play 15 = .ok (.invokevirtual 127, 3) := by decide +kernel
theorem dX7_play_18 : decode cX7_play 18 = .ok (.ifCond .ne 9, 3) := by decide +kernel
theorem dX7_play_21 : decode cX7_play 21 = .ok (.aload_n 0, 1) := by decide +kernel
theorem dX7_play_22 : decode cX7_play 22 = .ok (.iconst 1, 1) := by decide +kernel
theorem dX7_play_23 : decode cX7_play 23 = .ok (.invokevirtual 106, 3) := by decide +kernel
theorem dX7_play_26 : decode cX7_play 26 = .ok (.ireturn, 1) := by decide +kernel
theorem dX7_play_27 : decode cX7_play 27 = .ok (.aload_n 0, 1) := by decide +kernel
theorem dX7_play_28 : decode cX7_play 28 = .ok (.getfield 50, 3) := by decide +kernel
theorem dX7_play_31 : decode cX7_play 31 = .ok (.iload_n 1, 1) := by decide +kernel
theorem dX7_play_32 : decode cX7_play 32 = .ok (.iaload, 1) := by decide +kernel
theorem dX7_play_33 : decode cX7_play 33 = .ok (.iconst 2, 1) := by decide +kernel
theorem dX7_play_34 : decode cX7_play 34 = .ok (.irem, 1) := by decide +kernel
theorem dX7_play_35 : decode cX7_play 35 = .ok (.istore_n 3, 1) := by decide +kernel
theorem dX7_play_36 : decode cX7_play 36 = .ok (.iconst (-1), 1) := by decide +kernel
theorem dX7_play_37 : decode cX7_play 37 = .ok (.istore 4, 2) := by decide +kernel
theorem dX7_play_39 : decode cX7_play 39 = .ok (.iconst 0, 1) := by decide +kernel
theorem dX7_play_40 : decode cX7_play 40 = .ok (.istore 5, 2) := by decide +kernel
theorem dX7_play_42 : decode cX7_play 42 = .ok (.iload 5, 2) := by decide +kernel
theorem dX7_play_44 : decode cX7_play 44 = .ok (.aload_n 0, 1) := by decide +kernel
theorem dX7_play_45 : decode cX7_play 45 = .ok (.getfield 53, 3) := by decide +kernel
theorem dX7_play_48 : decode cX7_play 48 = .ok (.iconst 2, 1) := by decide +kernel
theorem dX7_play_49 : decode cX7_play 49 = .ok (.iload_n 1, 1) := by decide +kernel
theorem dX7_play_50 : decode cX7_play 50 = .ok (.imul, 1) := by decide +kernel
theorem dX7_play_51 : decode cX7_play 51 = .ok (.iload_n 3, 1) := by decide +kernel
theorem dX7_play_52 : decode cX7_play 52 = .ok (.iadd, 1) := by decide +kernel
theorem dX7_play_53 : decode cX7_play 53 = .ok (.iaload, 1) := by decide +kernel
theorem dX7_play_54 : decode cX7_play 54 = .ok (.if_icmp .ge 52, 3) := by decide +kernel
theorem dX7_play_57 : decode cX7_play 57 = .ok (.bipush 8, 2) := by decide +kernel
theorem dX7_play_59 : decode cX7_play 59 = .ok (.iconst 2, 1) := by decide +kernel
theorem dX7_play_60 : decode cX7_play 60 = .ok (.iload_n 1, 1) := by decide +kernel
theorem dX7_play_61 : decode cX7_play 61 = .ok (.imul, 1) := by decide +kernel
theorem dX7_play_62 : decode cX7_play 62 = .ok (.iload_n 3, 1) := by decide +kernel
theorem dX7_play_63 : decode cX7_play 63 = .ok (.iadd, 1) := by decide +kernel
theorem dX7_play_64 : decode cX7_play 64 = .ok (.imul, 1) := by decide +kernel
theorem dX7_play_65 : decode cX7_play 65 = .ok (.iload 5, 2) := by decide +kernel
theorem dX7_play_67 : decode cX7_play 67 = .ok (.iadd, 1) := by decide +kernel
theorem dX7_play_68 : decode cX7_play 68 = .ok (.istore 6, 2) := by decide +kernel
theorem dX7_play_70 : decode cX7_play 70 = .ok (.aload_n 0, 1) := by decide +kernel
theorem dX7_play_71 : decode cX7_play 71 = .ok (.getfield 56, 3) := by decide +kernel
theorem dX7_play_74 : decode cX7_play 74 = .ok (.iload 6, 2) := by decide +kernel
theorem dX7_play_76 : decode cX7_play 76 = .ok (.iaload, 1) := by decide +kernel
theorem dX7_play_77 : decode cX7_play 77 = .ok (.iload_n 2, 1) := by decide +kernel
theorem dX7_play_78 : decode cX7_play 78 = .ok (.if_icmp .ne 18, 3) := by decide +kernel
theorem dX7_play_81 : decode cX7_play 81 = .ok (.aload_n 0, 1) := by decide +kernel
theorem dX7_play_82 : decode cX7_play 82 = .ok (.getfield 59, 3) := by decide +kernel
theorem dX7_play_85 : decode cX7_play 85 = .ok (.iload 6, 2) := by decide +kernel
theorem dX7_play_87 : decode cX7_play 87 = .ok (.iaload, 1) := by decide +kernel
theorem dX7_play_88 : decode cX7_play 88 = .ok (.ifCond .ne 8, 3) := by decide +kernel
theorem dX7_play_91 : decode cX7_play 91 = .ok (.iload 6, 2) := by decide +kernel
theorem dX7_play_93 : decode cX7_play 93 = .ok (.goto 5, 3) := by decide +kernel
theorem dX7_play_96 : decode cX7_play 96 = .ok (.iload 4, 2) := by decide +kernel
theorem dX7_play_98 : decode cX7_play 98 = .ok (.istore 4, 2) := by decide +kernel
theorem dX7_play_100 : decode cX7_play 100 = .ok (.iinc 5 1, 3) := by decide +kernel
theorem dX7_play_103 : decode cX7_play 103 = .ok (.goto (-61), 3) := by decide +kernel
theorem dX7_play_106 : decode cX7_play 106 = .ok (.aload_n 0, 1) := by decide +kernel
theorem dX7_play_107 : decode cX7_play 107 = .ok (.getfield 38, 3) := by decide +kernel
theorem dX7_play_110 : decode cX7_play 110 = .ok (.iload_n 1, 1) := by decide +kernel
theorem dX7_play_111 : decode cX7_play 111 = .ok (.caload, 1) := by decide +kernel
theorem dX7_play_112 : decode cX7_play 112 = .ok (.bipush 103, 2) := by decide +kernel
theorem dX7_play_114 : decode cX7_play 114 = .ok (.if_icmp .ne 9, 3) := by decide +kernel
theorem dX7_play_117 : decode cX7_play 117 = .ok (.iload 4, 2) := by decide +kernel
theorem dX7_play_119 : decode cX7_play 119 = .ok (.iconst (-1), 1) := by decide +kernel
theorem dX7_play_120 : decode cX7_play 120 = .ok (.if_icmp .ne 9, 3) := by decide +kernel
theorem dX7_play_123 : decode cX7_play 123 = .ok (.aload_n 0, 1) := by decide +kernel
theorem dX7_play_124 : decode cX7_play 124 = .ok (.iconst 2, 1) := by decide +kernel
theorem dX7_play_125 : decode cX7_play 125 = .ok (.invokevirtual 106, 3) := by decide +kernel
theorem dX7_play_128 : decode cX7_play 128 = .ok (.ireturn, 1) := by decide +kernel
theorem dX7_play_129 : decode cX7_play 129 = .ok (.aload_n 0, 1) := by decide +kernel
theorem dX7_play_130 : decode cX7_play 130 = .ok (.getfield 47, 3) := by decide +kernel
theorem dX7_play_133 : decode cX7_play 133 = .ok (.iload_n 1, 1) := by decide +kernel
theorem dX7_play_134 : decode cX7_play 134 = .ok (.iaload, 1) := by decide +kernel
theorem dX7_play_135 : decode cX7_play 135 = .ok (.aload_n 0, 1) := by decide +kernel
theorem dX7_play_136 : decode cX7_play 136 = .ok (.getfield 13, 3) := by decide +kernel
theorem dX7_play_139 : decode cX7_play 139 = .ok (.iload_n 2, 1) := by decide +kernel
theorem dX7_play_140 : decode cX7_play 140 = .ok (.iaload, 1) := by decide +kernel
theorem dX7_play_141 : decode cX7_play 141 = .ok (.iconst 3, 1) := by decide +kernel
theorem dX7_play_142 : decode cX7_play 142 = .ok (.irem, 1) := by decide +kernel
theorem dX7_play_143 : decode cX7_play 143 = .ok (.if_icmp .ge 9, 3) := by decide +kernel
theorem dX7_play_146 : decode cX7_play 146 = .ok (.aload_n 0, 1) := by decide +kernel
theorem dX7_play_147 : decode cX7_play 147 = .ok (.iconst 3, 1) := by decide +kernel
theorem dX7_play_148 : decode cX7_play 148 = .ok (.invokevirtual 106, 3) := by decide +kernel
theorem dX7_play_151 : decode cX7_play 151 = .ok (.ireturn, 1) := by decide +kernel
theorem dX7_play_152 : decode cX7_play 152 = .ok (.aload_n 0, 1) := by decide +kernel
theorem dX7_play_153 : decode cX7_play 153 = .ok (.getfield 47, 3) := by decide +kernel
theorem dX7_play_156 : decode cX7_play 156 = .ok (.iload_n 1, 1) := by decide +kernel
theorem dX7_play_157 : decode cX7_play 157 = .ok (.dup2, 1) := by decide +kernel
theorem dX7_play_158 : decode cX7_play 158 = .ok (.iaload, 1) := by decide +kernel
theorem dX7_play_159 : decode cX7_play 159 = .ok (.aload_n 0, 1) := by decide +kernel
theorem dX7_play_160 : decode cX7_play 160 = .ok (.getfield 13, 3) := by decide +kernel
theorem dX7_play_163 : decode cX7_play 163 = .ok (.iload_n 2, 1) := by decide +kernel
theorem dX7_play_164 : decode cX7_play 164 = .ok (.iaload, 1) := by decide +kernel
theorem dX7_play_165 : decode cX7_play 165 = .ok (.iconst 3, 1) := by decide +kernel
theorem dX7_play_166 : decode cX7_play 166 = .ok (.irem, 1) := by decide +kernel
theorem dX7_play_167 : decode cX7_play 167 = .ok (.isub, 1) := by decide +kernel
theorem dX7_play_168 : decode cX7_play 168 = .ok (.iastore, 1) := by decide +kernel
theorem dX7_play_169 : decode cX7_play 169 = .ok (.aload_n 0, 1) := by decide +kernel
theorem dX7_play_170 : decode cX7_play 170 = .ok (.getfield 59, 3) := by decide +kernel
theorem dX7_play_173 : decode cX7_play 173 = .ok (.iload 4, 2) := by decide +kernel
theorem dX7_play_175 : decode cX7_play 175 = .ok (.iconst 1, 1) := by decide +kernel
theorem dX7_play_176 : decode cX7_play 176 = .ok (.iastore, 1) := by decide +kernel
theorem dX7_play_177 : decode cX7_play 177 = .ok (.aload_n 0, 1) := by decide +kernel
theorem dX7_play_178 : decode cX7_play 178 = .ok (.getfield 65, 3) := by decide +kernel
theorem dX7_play_181 : decode cX7_play 181 = .ok (.bipush 16, 2) := by decide +kernel
theorem dX7_play_183 : decode cX7_play 183 = .ok (.iload_n 1, 1) := by decide +kernel
theorem dX7_play_184 : decode cX7_play 184 = .ok (.imul, 1) := by decide +kernel
theorem dX7_play_185 : decode cX7_play 185 = .ok (.aload_n 0, 1) := by decide +kernel
theorem dX7_play_186 : decode cX7_play 186 = .ok (.getfield 62, 3) := by decide +kernel
theorem dX7_play_189 : decode cX7_play 189 = .ok (.iload_n 1, 1) := by decide +kernel
theorem dX7_play_190 : decode cX7_play 190 = .ok (.iaload, 1) := by decide +kernel
theorem dX7_play_191 : decode cX7_play 191 = .ok (.iadd, 1) := by decide +kernel
theorem dX7_play_192 : decode cX7_play 192 = .ok (.bipush 100, 2) := by decide +kernel
theorem dX7_play_194 : decode cX7_play 194 = .ok (.iload_n 3, 1) := by decide +kernel
theorem dX7_play_195 : decode cX7_play 195 = .ok (.imul, 1) := by decide +kernel
theorem dX7_play_196 : decode cX7_play 196 = .ok (.bipush 10, 2) := by decide +kernel
theorem dX7_play_198 : decode cX7_play 198 = .ok (.aload_n 0, 1) := by decide +kernel
theorem dX7_play_199 : decode cX7_play 199 = .ok (.getfield 13, 3) := by decide +kernel
theorem dX7_play_202 : decode cX7_play 202 = .ok (.iload_n 2, 1) := by decide +kernel
theorem dX7_play_203 : decode cX7_play 203 = .ok (.iaload, 1) := by decide +kernel
theorem dX7_play_204 : decode cX7_play 204 = .ok (.iconst 4, 1) := by decide +kernel
theorem dX7_play_205 : decode cX7_play 205 = .ok (.irem, 1) := by decide +kernel
theorem dX7_play_206 : decode cX7_play 206 = .ok (.imul, 1) := by decide +kernel
theorem dX7_play_207 : decode cX7_play 207 = .ok (.iadd, 1) := by decide +kernel
theorem dX7_play_208 : decode cX7_play 208 = .ok (.aload_n 0, 1) := by decide +kernel
theorem dX7_play_209 : decode cX7_play 209 = .ok (.getfield 13, 3) := by decide +kernel
theorem dX7_play_212 : decode cX7_play 212 = .ok (.iload_n 2, 1) := by decide +kernel
theorem dX7_play_213 : decode cX7_play 213 = .ok (.iaload, 1) := by decide +kernel
theorem dX7_play_214 : decode cX7_play 214 = .ok (.iconst 4, 1) := by decide +kernel
theorem dX7_play_215 : decode cX7_play 215 = .ok (.idiv, 1) := by decide +kernel
theorem dX7_play_216 : decode cX7_play 216 = .ok (.iadd, 1) := by decide +kernel
theorem dX7_play_217 : decode cX7_play 217 = .ok (.iconst 1, 1) := by decide +kernel
theorem dX7_play_218 : decode cX7_play 218 = .ok (.iadd, 1) := by decide +kernel
theorem dX7_play_219 : decode cX7_play 219 = .ok (.iastore, 1) := by decide +kernel
theorem dX7_play_220 : decode cX7_play 220 = .ok (.aload_n 0, 1) := by decide +kernel
theorem dX7_play_221 : decode cX7_play 221 = .ok (.getfield 62, 3) := by decide +kernel
theorem dX7_play_224 : decode cX7_play 224 = .ok (.iload_n 1, 1) := by decide +kernel
theorem dX7_play_225 : decode cX7_play 225 = .ok (.dup2, 1) := by decide +kernel
theorem dX7_play_226 : decode cX7_play 226 = .ok (.iaload, 1) := by decide +kernel
theorem dX7_play_227 : decode cX7_play 227 = .ok (.iconst 1, 1) := by decide +kernel
theorem dX7_play_228 : decode cX7_play 228 = .ok (.iadd, 1) := by decide +kernel
theorem dX7_play_229 : decode cX7_play 229 = .ok (.iastore, 1) := by decide +kernel
theorem dX7_play_230 : decode cX7_play 230 = .ok (.aload_n 0, 1) := by decide +kernel
theorem dX7_play_231 : decode cX7_play 231 = .ok (.getfield 47, 3) := by decide +kernel
theorem dX7_play_234 : decode cX7_play 234 = .ok (.iload_n 1, 1) := by decide +kernel
theorem dX7_play_235 : decode cX7_play 235 = .ok (.iaload, 1) := by decide +kernel
theorem dX7_play_236 : decode cX7_play 236 = .ok (.ireturn, 1) := by decide +kernel
def wX7_play_98 (post : Int32 → KS → Int64 → Prop) (bk42 : Int32 → Int32 → Int32 → Int32 → Int32 → KS → Int64 → Prop) (l1 : Int32) (l2 : Int32) (l3 : Int32) (l5 : Int32) (t0 : Int32) (M : KS) (ap : Int64) : Prop := bk42 l1 l2 l3 t0 (l5 + 1) M ap
set_option maxHeartbeats 4000000 in
set_option maxRecDepth 100000 in
theorem bX7_play_98 {p : Program} {l : Launch} {e : Env} {s : State} {m : MethodId} {args : Array Value} {below : List Frame} {meth : Method} {c : Code} {D : va_G} {cI : Nat → ClassId} {e0 : Nat} {A : Nat → Prop} {ad : Nat → Nat → Nat} {K : KS} {o : Int64} {od : UInt64} {mc ms : Nat} {post : Int32 → KS → Int64 → Prop} {bk42 : Int32 → Int32 → Int32 → Int32 → Int32 → KS → Int64 → Prop} (S : CallFix p m c cX7_play 7 s args WU RX7) (hg : GI D cI e0 A s s.heap) (hr : meth.sig.returnType = (some FieldType.int)) (hlk : meth.locks = false) (hout : ∀ x ∈ c.exceptionTable.toList, False) (hbk42 : ∀ {H : Heap} {locs : List Loc} {ls : Array Slot} {l1 : Int32} {l2 : Int32} {l3 : Int32} {l4 : Int32} {l5 : Int32} {M : KS} {ap : Int64}, va_S A s.heap H locs → HT D cI e0 A ad K M ap o od H → lv_has ls 7 [(0, .ref (ad 3 0)), (1, .int l1), (2, .int l2), (3, .int l3), (4, .int l4), (5, .int l5)] → bk42 l1 l2 l3 l4 l5 M ap → W p l e ({ frames := 2, cells := mc, slots := ms, locals := 43 } : Room) s m args below meth c H locs 0 0 (MQQ below (qM D cI e0 A ad K o od rI post) xN args s mc ms A) (F0 m 42 ls [])) {H : Heap} {locs : List Loc} {ls : Array Slot} {l1 : Int32} {l2 : Int32} {l3 : Int32} {l5 : Int32} {t0 : Int32} {M : KS} {ap : Int64} (hS : va_S A s.heap H locs) (hw : HT D cI e0 A ad K M ap o od H) (hl : lv_has ls 7 [(0, .ref (ad 3 0)), (1, .int l1), (2, .int l2), (3, .int l3), (5, .int l5)]) (h : wX7_play_98 post bk42 l1 l2 l3 l5 t0 M ap) : W p l e ({ frames := 2, cells := mc, slots := ms, locals := 43 } : Room) s m args below meth c H locs 0 0 (MQQ below (qM D cI e0 A ad K o od rI post) xN args s mc ms A) (F0 m 98 ls [.int t0]) := by
  unfold wX7_play_98 at h
  refine lv_istore (lv' := [(4, .int t0), (0, .ref (ad 3 0)), (1, .int l1), (2, .int l2), (3, .int l3), (5, .int l5)]) S.1 S.2.1 dX7_play_98 hl (by decide) rfl (fun ls hl => ?_)
  refine lv_iinc (v := l5 + 1) (lv' := [(5, .int (l5 + 1)), (4, .int t0), (0, .ref (ad 3 0)), (1, .int l1), (2, .int l2), (3, .int l3)]) S.1 S.2.1 dX7_play_100 hl (k := 5) rfl rfl (by decide) rfl (fun ls hl => ?_)
  refine lv_goto (tgt := 42) S.1 S.2.1 dX7_play_103 (by decide) ?_
  have hl := lv_sub hl (l' := [(0, .ref (ad 3 0)), (1, .int l1), (2, .int l2), (3, .int l3), (4, .int t0), (5, .int (l5 + 1))]) [2, 3, 4, 5, 1, 0] rfl
  exact hbk42 hS hw hl h
def wX7_play_96 (post : Int32 → KS → Int64 → Prop) (bk42 : Int32 → Int32 → Int32 → Int32 → Int32 → KS → Int64 → Prop) (l1 : Int32) (l2 : Int32) (l3 : Int32) (l4 : Int32) (l5 : Int32) (M : KS) (ap : Int64) : Prop := wX7_play_98 post bk42 l1 l2 l3 l5 l4 M ap
set_option maxHeartbeats 4000000 in
set_option maxRecDepth 100000 in
theorem bX7_play_96 {p : Program} {l : Launch} {e : Env} {s : State} {m : MethodId} {args : Array Value} {below : List Frame} {meth : Method} {c : Code} {D : va_G} {cI : Nat → ClassId} {e0 : Nat} {A : Nat → Prop} {ad : Nat → Nat → Nat} {K : KS} {o : Int64} {od : UInt64} {mc ms : Nat} {post : Int32 → KS → Int64 → Prop} {bk42 : Int32 → Int32 → Int32 → Int32 → Int32 → KS → Int64 → Prop} (S : CallFix p m c cX7_play 7 s args WU RX7) (hg : GI D cI e0 A s s.heap) (hr : meth.sig.returnType = (some FieldType.int)) (hlk : meth.locks = false) (hout : ∀ x ∈ c.exceptionTable.toList, False) (hbk42 : ∀ {H : Heap} {locs : List Loc} {ls : Array Slot} {l1 : Int32} {l2 : Int32} {l3 : Int32} {l4 : Int32} {l5 : Int32} {M : KS} {ap : Int64}, va_S A s.heap H locs → HT D cI e0 A ad K M ap o od H → lv_has ls 7 [(0, .ref (ad 3 0)), (1, .int l1), (2, .int l2), (3, .int l3), (4, .int l4), (5, .int l5)] → bk42 l1 l2 l3 l4 l5 M ap → W p l e ({ frames := 2, cells := mc, slots := ms, locals := 43 } : Room) s m args below meth c H locs 0 0 (MQQ below (qM D cI e0 A ad K o od rI post) xN args s mc ms A) (F0 m 42 ls [])) {H : Heap} {locs : List Loc} {ls : Array Slot} {l1 : Int32} {l2 : Int32} {l3 : Int32} {l4 : Int32} {l5 : Int32} {M : KS} {ap : Int64} (hS : va_S A s.heap H locs) (hw : HT D cI e0 A ad K M ap o od H) (hl : lv_has ls 7 [(0, .ref (ad 3 0)), (1, .int l1), (2, .int l2), (3, .int l3), (4, .int l4), (5, .int l5)]) (h : wX7_play_96 post bk42 l1 l2 l3 l4 l5 M ap) : W p l e ({ frames := 2, cells := mc, slots := ms, locals := 43 } : Room) s m args below meth c H locs 0 0 (MQQ below (qM D cI e0 A ad K o od rI post) xN args s mc ms A) (F0 m 96 ls []) := by
  unfold wX7_play_96 at h
  refine lv_iload S.1 S.2.1 dX7_play_96 (lv_at hl 4 rfl) ?_
  have hl := lv_sub hl (l' := [(0, .ref (ad 3 0)), (1, .int l1), (2, .int l2), (3, .int l3), (5, .int l5)]) [0, 1, 2, 3, 5] rfl
  exact bX7_play_98 S hg hr hlk hout hbk42 hS hw hl h
def wX7_play_42 (post : Int32 → KS → Int64 → Prop) : Nat → Int32 → Int32 → Int32 → Int32 → Int32 → KS → Int64 → Prop
  | 0 => fun _ _ _ _ _ _ _ => False
  | n + 1 => fun l1 l2 l3 l4 l5 M ap => (vp_in ((2 * l1) + l3) 16) ∧ ((((M 16 21 (((2 * l1) + l3).toNatClampNeg)) ≤ l5 → ((vp_in l1 8) ∧ (((¬ (M 13 16 l1.toNatClampNeg) = 103 → ((wpX7_fails (fun r14 M15 ap16 => post r14 M15 ap16) M ap 2))) ∧ ((M 13 16 l1.toNatClampNeg) = 103 → (((¬ l4 = (-1) → ((vp_in l1 8) ∧ ((vp_in l2 40) ∧ (((((M 16 6 l2.toNatClampNeg) - (M 16 6 l2.toNatClampNeg) / 3 * 3) ≤ (M 16 19 l1.toNatClampNeg) → ((vp_in l4 128) ∧ ((vp_in l1 8) ∧ ((vp_in ((16 * l1) + ((k3 (k3 M 16 19 l1.toNatClampNeg ((M 16 19 l1.toNatClampNeg) - ((M 16 6 l2.toNatClampNeg) - (M 16 6 l2.toNatClampNeg) / 3 * 3))) 16 23 l4.toNatClampNeg 1) 16 24 l1.toNatClampNeg)) 128) ∧ (post ((k3 (k3 (k3 (k3 M 16 19 l1.toNatClampNeg ((M 16 19 l1.toNatClampNeg) - ((M 16 6 l2.toNatClampNeg) - (M 16 6 l2.toNatClampNeg) / 3 * 3))) 16 23 l4.toNatClampNeg 1) 16 25 (((16 * l1) + ((k3 (k3 M 16 19 l1.toNatClampNeg ((M 16 19 l1.toNatClampNeg) - ((M 16 6 l2.toNatClampNeg) - (M 16 6 l2.toNatClampNeg) / 3 * 3))) 16 23 l4.toNatClampNeg 1) 16 24 l1.toNatClampNeg)).toNatClampNeg) ((((100 * l3) + (10 * (((k3 (k3 M 16 19 l1.toNatClampNeg ((M 16 19 l1.toNatClampNeg) - ((M 16 6 l2.toNatClampNeg) - (M 16 6 l2.toNatClampNeg) / 3 * 3))) 16 23 l4.toNatClampNeg 1) 16 6 l2.toNatClampNeg) - ((k3 (k3 M 16 19 l1.toNatClampNeg ((M 16 19 l1.toNatClampNeg) - ((M 16 6 l2.toNatClampNeg) - (M 16 6 l2.toNatClampNeg) / 3 * 3))) 16 23 l4.toNatClampNeg 1) 16 6 l2.toNatClampNeg) / 4 * 4))) + (((k3 (k3 M 16 19 l1.toNatClampNeg ((M 16 19 l1.toNatClampNeg) - ((M 16 6 l2.toNatClampNeg) - (M 16 6 l2.toNatClampNeg) / 3 * 3))) 16 23 l4.toNatClampNeg 1) 16 6 l2.toNatClampNeg) / 4)) + 1)) 16 24 l1.toNatClampNeg (((k3 (k3 (k3 M 16 19 l1.toNatClampNeg ((M 16 19 l1.toNatClampNeg) - ((M 16 6 l2.toNatClampNeg) - (M 16 6 l2.toNatClampNeg) / 3 * 3))) 16 23 l4.toNatClampNeg 1) 16 25 (((16 * l1) + ((k3 (k3 M 16 19 l1.toNatClampNeg ((M 16 19 l1.toNatClampNeg) - ((M 16 6 l2.toNatClampNeg) - (M 16 6 l2.toNatClampNeg) / 3 * 3))) 16 23 l4.toNatClampNeg 1) 16 24 l1.toNatClampNeg)).toNatClampNeg) ((((100 * l3) + (10 * (((k3 (k3 M 16 19 l1.toNatClampNeg ((M 16 19 l1.toNatClampNeg) - ((M 16 6 l2.toNatClampNeg) - (M 16 6 l2.toNatClampNeg) / 3 * 3))) 16 23 l4.toNatClampNeg 1) 16 6 l2.toNatClampNeg) - ((k3 (k3 M 16 19 l1.toNatClampNeg ((M 16 19 l1.toNatClampNeg) - ((M 16 6 l2.toNatClampNeg) - (M 16 6 l2.toNatClampNeg) / 3 * 3))) 16 23 l4.toNatClampNeg 1) 16 6 l2.toNatClampNeg) / 4 * 4))) + (((k3 (k3 M 16 19 l1.toNatClampNeg ((M 16 19 l1.toNatClampNeg) - ((M 16 6 l2.toNatClampNeg) - (M 16 6 l2.toNatClampNeg) / 3 * 3))) 16 23 l4.toNatClampNeg 1) 16 6 l2.toNatClampNeg) / 4)) + 1)) 16 24 l1.toNatClampNeg) + 1)) 16 19 l1.toNatClampNeg) (k3 (k3 (k3 (k3 M 16 19 l1.toNatClampNeg ((M 16 19 l1.toNatClampNeg) - ((M 16 6 l2.toNatClampNeg) - (M 16 6 l2.toNatClampNeg) / 3 * 3))) 16 23 l4.toNatClampNeg 1) 16 25 (((16 * l1) + ((k3 (k3 M 16 19 l1.toNatClampNeg ((M 16 19 l1.toNatClampNeg) - ((M 16 6 l2.toNatClampNeg) - (M 16 6 l2.toNatClampNeg) / 3 * 3))) 16 23 l4.toNatClampNeg 1) 16 24 l1.toNatClampNeg)).toNatClampNeg) ((((100 * l3) + (10 * (((k3 (k3 M 16 19 l1.toNatClampNeg ((M 16 19 l1.toNatClampNeg) - ((M 16 6 l2.toNatClampNeg) - (M 16 6 l2.toNatClampNeg) / 3 * 3))) 16 23 l4.toNatClampNeg 1) 16 6 l2.toNatClampNeg) - ((k3 (k3 M 16 19 l1.toNatClampNeg ((M 16 19 l1.toNatClampNeg) - ((M 16 6 l2.toNatClampNeg) - (M 16 6 l2.toNatClampNeg) / 3 * 3))) 16 23 l4.toNatClampNeg 1) 16 6 l2.toNatClampNeg) / 4 * 4))) + (((k3 (k3 M 16 19 l1.toNatClampNeg ((M 16 19 l1.toNatClampNeg) - ((M 16 6 l2.toNatClampNeg) - (M 16 6 l2.toNatClampNeg) / 3 * 3))) 16 23 l4.toNatClampNeg 1) 16 6 l2.toNatClampNeg) / 4)) + 1)) 16 24 l1.toNatClampNeg (((k3 (k3 (k3 M 16 19 l1.toNatClampNeg ((M 16 19 l1.toNatClampNeg) - ((M 16 6 l2.toNatClampNeg) - (M 16 6 l2.toNatClampNeg) / 3 * 3))) 16 23 l4.toNatClampNeg 1) 16 25 (((16 * l1) + ((k3 (k3 M 16 19 l1.toNatClampNeg ((M 16 19 l1.toNatClampNeg) - ((M 16 6 l2.toNatClampNeg) - (M 16 6 l2.toNatClampNeg) / 3 * 3))) 16 23 l4.toNatClampNeg 1) 16 24 l1.toNatClampNeg)).toNatClampNeg) ((((100 * l3) + (10 * (((k3 (k3 M 16 19 l1.toNatClampNeg ((M 16 19 l1.toNatClampNeg) - ((M 16 6 l2.toNatClampNeg) - (M 16 6 l2.toNatClampNeg) / 3 * 3))) 16 23 l4.toNatClampNeg 1) 16 6 l2.toNatClampNeg) - ((k3 (k3 M 16 19 l1.toNatClampNeg ((M 16 19 l1.toNatClampNeg) - ((M 16 6 l2.toNatClampNeg) - (M 16 6 l2.toNatClampNeg) / 3 * 3))) 16 23 l4.toNatClampNeg 1) 16 6 l2.toNatClampNeg) / 4 * 4))) + (((k3 (k3 M 16 19 l1.toNatClampNeg ((M 16 19 l1.toNatClampNeg) - ((M 16 6 l2.toNatClampNeg) - (M 16 6 l2.toNatClampNeg) / 3 * 3))) 16 23 l4.toNatClampNeg 1) 16 6 l2.toNatClampNeg) / 4)) + 1)) 16 24 l1.toNatClampNeg) + 1)) ap))))) ∧ (¬ ((M 16 6 l2.toNatClampNeg) - (M 16 6 l2.toNatClampNeg) / 3 * 3) ≤ (M 16 19 l1.toNatClampNeg) → ((wpX7_fails (fun r24 M25 ap26 => post r24 M25 ap26) M ap 3)))))))) ∧ (l4 = (-1) → ((wpX7_fails (fun r27 M28 ap29 => post r27 M28 ap29) M ap 2)))))))))) ∧ (¬ (M 16 21 (((2 * l1) + l3).toNatClampNeg)) ≤ l5 → ((vp_in ((8 * ((2 * l1) + l3)) + l5) 128) ∧ (((¬ (M 16 22 (((8 * ((2 * l1) + l3)) + l5).toNatClampNeg)) = l2 → (wX7_play_96 post (wX7_play_42 post n) l1 l2 l3 l4 l5 M ap)) ∧ ((M 16 22 (((8 * ((2 * l1) + l3)) + l5).toNatClampNeg)) = l2 → ((vp_in ((8 * ((2 * l1) + l3)) + l5) 128) ∧ (((¬ (M 16 23 (((8 * ((2 * l1) + l3)) + l5).toNatClampNeg)) = 0 → (wX7_play_96 post (wX7_play_42 post n) l1 l2 l3 l4 l5 M ap)) ∧ ((M 16 23 (((8 * ((2 * l1) + l3)) + l5).toNatClampNeg)) = 0 → (wX7_play_98 post (wX7_play_42 post n) l1 l2 l3 l5 ((8 * ((2 * l1) + l3)) + l5) M ap))))))))))))
set_option maxHeartbeats 4000000 in
set_option maxRecDepth 100000 in
theorem bX7_play_42 {p : Program} {l : Launch} {e : Env} {s : State} {m : MethodId} {args : Array Value} {below : List Frame} {meth : Method} {c : Code} {D : va_G} {cI : Nat → ClassId} {e0 : Nat} {A : Nat → Prop} {ad : Nat → Nat → Nat} {K : KS} {o : Int64} {od : UInt64} {mc ms : Nat} {post : Int32 → KS → Int64 → Prop} (S : CallFix p m c cX7_play 7 s args WU RX7) (hg : GI D cI e0 A s s.heap) (hr : meth.sig.returnType = (some FieldType.int)) (hlk : meth.locks = false) (hout : ∀ x ∈ c.exceptionTable.toList, False) : ∀ n : Nat, ∀ {H : Heap} {locs : List Loc} {ls : Array Slot} {l1 : Int32} {l2 : Int32} {l3 : Int32} {l4 : Int32} {l5 : Int32} {M : KS} {ap : Int64}, va_S A s.heap H locs → HT D cI e0 A ad K M ap o od H → lv_has ls 7 [(0, .ref (ad 3 0)), (1, .int l1), (2, .int l2), (3, .int l3), (4, .int l4), (5, .int l5)] → wX7_play_42 post n l1 l2 l3 l4 l5 M ap → W p l e ({ frames := 2, cells := mc, slots := ms, locals := 43 } : Room) s m args below meth c H locs 0 0 (MQQ below (qM D cI e0 A ad K o od rI post) xN args s mc ms A) (F0 m 42 ls []) := by
  intro n
  induction n with
  | zero => intros; exact False.elim (by assumption)
  | succ n ih =>
    intro H locs ls l1 l2 l3 l4 l5 M ap hS hw hl h
    unfold wX7_play_42 at h
    refine lv_iload S.1 S.2.1 dX7_play_42 (lv_at hl 5 rfl) ?_
    refine lv_aload_n S.1 S.2.1 dX7_play_44 rfl (lv_at hl 0 rfl) ?_
    refine g3_21 S hg hw u1065 dX7_play_45 ?_
    refine lv_iconst (v := 2) S.1 S.2.1 dX7_play_48 (by decide) ?_
    refine lv_iload_n S.1 S.2.1 dX7_play_49 rfl (lv_at hl 1 rfl) ?_
    refine lv_imul S.1 S.2.1 dX7_play_50 ?_
    refine lv_iload_n S.1 S.2.1 dX7_play_51 rfl (lv_at hl 3 rfl) ?_
    refine lv_iadd S.1 S.2.1 dX7_play_52 ?_
    obtain ⟨g10, h⟩ := h
    refine a16 S hg hw rfl g10 dX7_play_53 ?_
    refine lv_icmp_ge (tgt := 106) S.1 S.2.1 dX7_play_54 (by decide) (fun c11 => ?_) (fun c11 => ?_)
    · have h := h.1 c11
      refine lv_aload_n S.1 S.2.1 dX7_play_106 rfl (lv_at hl 0 rfl) ?_
      refine g3_16 S hg hw u1060 dX7_play_107 ?_
      refine lv_iload_n S.1 S.2.1 dX7_play_110 rfl (lv_at hl 1 rfl) ?_
      obtain ⟨g12, h⟩ := h
      refine a13 S hg hw rfl g12 dX7_play_111 ?_
      refine lv_bipush (v := 103) S.1 S.2.1 dX7_play_112 (by decide) ?_
      refine lv_icmp_ne (tgt := 123) S.1 S.2.1 dX7_play_114 (by decide) (fun c13 => ?_) (fun c13 => ?_)
      · have h := h.1 c13
        refine lv_aload_n S.1 S.2.1 dX7_play_123 rfl (lv_at hl 0 rfl) ?_
        refine lv_iconst (v := 2) S.1 S.2.1 dX7_play_124 (by decide) ?_
        refine r_call (rest := []) S hg hS (mtX7_fails (mc := 0) (ms := 0) h) u1171 u1173 u26 u49 u1174 hdX7_fails (rv3 hg hw) hw ⟨Nat.le_of_ble_eq_true rfl, Nat.le_of_ble_eq_true rfl⟩ ⟨by show 0 + 0 ≤ mc; omega, by show 0 + 0 ≤ ms; omega⟩ hl.1 (Nat.le_of_ble_eq_true rfl) rfl dX7_play_125 (fun E ce q H1 locs1 hx hS1 hc1 hc2 hc3 => hx.elim) (fun rv H locs hq hS => ?_)
        obtain ⟨r14, M15, ap16, rfl, h, hw⟩ := hq
        show W p l e _ s m _ below meth c H locs _ _ _ (F0 m 128 ls [.int r14])
        show W p l e _ s m _ below meth c H locs 0 0 _ _
        exact r_iret (y := yX7_play) S hr rfl hlk hS (by omega) (by omega) dX7_play_128 ⟨r14, _, _, rfl, h, hw⟩
      · have h := h.2 c13
        refine lv_iload S.1 S.2.1 dX7_play_117 (lv_at hl 4 rfl) ?_
        refine lv_iconst (v := (-1)) S.1 S.2.1 dX7_play_119 (by decide) ?_
        refine lv_icmp_ne (tgt := 129) S.1 S.2.1 dX7_play_120 (by decide) (fun c17 => ?_) (fun c17 => ?_)
        · have h := h.1 c17
          refine lv_aload_n S.1 S.2.1 dX7_play_129 rfl (lv_at hl 0 rfl) ?_
          refine g3_19 S hg hw u1063 dX7_play_130 ?_
          refine lv_iload_n S.1 S.2.1 dX7_play_133 rfl (lv_at hl 1 rfl) ?_
          obtain ⟨g18, h⟩ := h
          refine a16 S hg hw rfl g18 dX7_play_134 ?_
          refine lv_aload_n S.1 S.2.1 dX7_play_135 rfl (lv_at hl 0 rfl) ?_
          refine g3_6 S hg hw u1050 dX7_play_136 ?_
          refine lv_iload_n S.1 S.2.1 dX7_play_139 rfl (lv_at hl 2 rfl) ?_
          obtain ⟨g19, h⟩ := h
          refine a16 S hg hw rfl g19 dX7_play_140 ?_
          refine lv_iconst (v := 3) S.1 S.2.1 dX7_play_141 (by decide) ?_
          refine lv_irem S.1 S.2.1 dX7_play_142 (by decide) ?_
          refine lv_icmp_ge (tgt := 152) S.1 S.2.1 dX7_play_143 (by decide) (fun c20 => ?_) (fun c20 => ?_)
          · have h := h.1 c20
            refine lv_aload_n S.1 S.2.1 dX7_play_152 rfl (lv_at hl 0 rfl) ?_
            refine g3_19 S hg hw u1063 dX7_play_153 ?_
            refine lv_iload_n S.1 S.2.1 dX7_play_156 rfl (lv_at hl 1 rfl) ?_
            refine lv_dup2_11 S.1 S.2.1 dX7_play_157 rfl rfl ?_
            refine a16 S hg hw rfl g18 dX7_play_158 ?_
            refine lv_aload_n S.1 S.2.1 dX7_play_159 rfl (lv_at hl 0 rfl) ?_
            refine g3_6 S hg hw u1050 dX7_play_160 ?_
            refine lv_iload_n S.1 S.2.1 dX7_play_163 rfl (lv_at hl 2 rfl) ?_
            refine a16 S hg hw rfl g19 dX7_play_164 ?_
            refine lv_iconst (v := 3) S.1 S.2.1 dX7_play_165 (by decide) ?_
            refine lv_irem S.1 S.2.1 dX7_play_166 (by decide) ?_
            refine lv_isub S.1 S.2.1 dX7_play_167 ?_
            refine s16 S hg hS hw rfl g18 dX7_play_168 (fun H locs hw hS => ?_)
            refine lv_aload_n S.1 S.2.1 dX7_play_169 rfl (lv_at hl 0 rfl) ?_
            refine g3_23 S hg hw u1067 dX7_play_170 ?_
            refine lv_iload S.1 S.2.1 dX7_play_173 (lv_at hl 4 rfl) ?_
            refine lv_iconst (v := 1) S.1 S.2.1 dX7_play_175 (by decide) ?_
            obtain ⟨g21, h⟩ := h
            refine s16 S hg hS hw rfl g21 dX7_play_176 (fun H locs hw hS => ?_)
            refine lv_aload_n S.1 S.2.1 dX7_play_177 rfl (lv_at hl 0 rfl) ?_
            refine g3_25 S hg hw u1069 dX7_play_178 ?_
            refine lv_bipush (v := 16) S.1 S.2.1 dX7_play_181 (by decide) ?_
            refine lv_iload_n S.1 S.2.1 dX7_play_183 rfl (lv_at hl 1 rfl) ?_
            refine lv_imul S.1 S.2.1 dX7_play_184 ?_
            refine lv_aload_n S.1 S.2.1 dX7_play_185 rfl (lv_at hl 0 rfl) ?_
            refine g3_24 S hg hw u1068 dX7_play_186 ?_
            refine lv_iload_n S.1 S.2.1 dX7_play_189 rfl (lv_at hl 1 rfl) ?_
            obtain ⟨g22, h⟩ := h
            refine a16 S hg hw rfl g22 dX7_play_190 ?_
            refine lv_iadd S.1 S.2.1 dX7_play_191 ?_
            refine lv_bipush (v := 100) S.1 S.2.1 dX7_play_192 (by decide) ?_
            refine lv_iload_n S.1 S.2.1 dX7_play_194 rfl (lv_at hl 3 rfl) ?_
            refine lv_imul S.1 S.2.1 dX7_play_195 ?_
            refine lv_bipush (v := 10) S.1 S.2.1 dX7_play_196 (by decide) ?_
            refine lv_aload_n S.1 S.2.1 dX7_play_198 rfl (lv_at hl 0 rfl) ?_
            refine g3_6 S hg hw u1050 dX7_play_199 ?_
            refine lv_iload_n S.1 S.2.1 dX7_play_202 rfl (lv_at hl 2 rfl) ?_
            refine a16 S hg hw rfl g19 dX7_play_203 ?_
            refine lv_iconst (v := 4) S.1 S.2.1 dX7_play_204 (by decide) ?_
            refine lv_irem S.1 S.2.1 dX7_play_205 (by decide) ?_
            refine lv_imul S.1 S.2.1 dX7_play_206 ?_
            refine lv_iadd S.1 S.2.1 dX7_play_207 ?_
            refine lv_aload_n S.1 S.2.1 dX7_play_208 rfl (lv_at hl 0 rfl) ?_
            refine g3_6 S hg hw u1050 dX7_play_209 ?_
            refine lv_iload_n S.1 S.2.1 dX7_play_212 rfl (lv_at hl 2 rfl) ?_
            refine a16 S hg hw rfl g19 dX7_play_213 ?_
            refine lv_iconst (v := 4) S.1 S.2.1 dX7_play_214 (by decide) ?_
            refine lv_idiv S.1 S.2.1 dX7_play_215 (by decide) ?_
            refine lv_iadd S.1 S.2.1 dX7_play_216 ?_
            refine lv_iconst (v := 1) S.1 S.2.1 dX7_play_217 (by decide) ?_
            refine lv_iadd S.1 S.2.1 dX7_play_218 ?_
            obtain ⟨g23, h⟩ := h
            refine s16 S hg hS hw rfl g23 dX7_play_219 (fun H locs hw hS => ?_)
            refine lv_aload_n S.1 S.2.1 dX7_play_220 rfl (lv_at hl 0 rfl) ?_
            refine g3_24 S hg hw u1068 dX7_play_221 ?_
            refine lv_iload_n S.1 S.2.1 dX7_play_224 rfl (lv_at hl 1 rfl) ?_
            refine lv_dup2_11 S.1 S.2.1 dX7_play_225 rfl rfl ?_
            refine a16 S hg hw rfl g22 dX7_play_226 ?_
            refine lv_iconst (v := 1) S.1 S.2.1 dX7_play_227 (by decide) ?_
            refine lv_iadd S.1 S.2.1 dX7_play_228 ?_
            refine s16 S hg hS hw rfl g22 dX7_play_229 (fun H locs hw hS => ?_)
            refine lv_aload_n S.1 S.2.1 dX7_play_230 rfl (lv_at hl 0 rfl) ?_
            refine g3_19 S hg hw u1063 dX7_play_231 ?_
            refine lv_iload_n S.1 S.2.1 dX7_play_234 rfl (lv_at hl 1 rfl) ?_
            refine a16 S hg hw rfl g18 dX7_play_235 ?_
            exact r_iret (y := yX7_play) S hr rfl hlk hS (by omega) (by omega) dX7_play_236 ⟨((k3 (k3 (k3 (k3 M 16 19 l1.toNatClampNeg ((M 16 19 l1.toNatClampNeg) - ((M 16 6 l2.toNatClampNeg) - (M 16 6 l2.toNatClampNeg) / 3 * 3))) 16 23 l4.toNatClampNeg 1) 16 25 (((16 * l1) + ((k3 (k3 M 16 19 l1.toNatClampNeg ((M 16 19 l1.toNatClampNeg) - ((M 16 6 l2.toNatClampNeg) - (M 16 6 l2.toNatClampNeg) / 3 * 3))) 16 23 l4.toNatClampNeg 1) 16 24 l1.toNatClampNeg)).toNatClampNeg) ((((100 * l3) + (10 * (((k3 (k3 M 16 19 l1.toNatClampNeg ((M 16 19 l1.toNatClampNeg) - ((M 16 6 l2.toNatClampNeg) - (M 16 6 l2.toNatClampNeg) / 3 * 3))) 16 23 l4.toNatClampNeg 1) 16 6 l2.toNatClampNeg) - ((k3 (k3 M 16 19 l1.toNatClampNeg ((M 16 19 l1.toNatClampNeg) - ((M 16 6 l2.toNatClampNeg) - (M 16 6 l2.toNatClampNeg) / 3 * 3))) 16 23 l4.toNatClampNeg 1) 16 6 l2.toNatClampNeg) / 4 * 4))) + (((k3 (k3 M 16 19 l1.toNatClampNeg ((M 16 19 l1.toNatClampNeg) - ((M 16 6 l2.toNatClampNeg) - (M 16 6 l2.toNatClampNeg) / 3 * 3))) 16 23 l4.toNatClampNeg 1) 16 6 l2.toNatClampNeg) / 4)) + 1)) 16 24 l1.toNatClampNeg (((k3 (k3 (k3 M 16 19 l1.toNatClampNeg ((M 16 19 l1.toNatClampNeg) - ((M 16 6 l2.toNatClampNeg) - (M 16 6 l2.toNatClampNeg) / 3 * 3))) 16 23 l4.toNatClampNeg 1) 16 25 (((16 * l1) + ((k3 (k3 M 16 19 l1.toNatClampNeg ((M 16 19 l1.toNatClampNeg) - ((M 16 6 l2.toNatClampNeg) - (M 16 6 l2.toNatClampNeg) / 3 * 3))) 16 23 l4.toNatClampNeg 1) 16 24 l1.toNatClampNeg)).toNatClampNeg) ((((100 * l3) + (10 * (((k3 (k3 M 16 19 l1.toNatClampNeg ((M 16 19 l1.toNatClampNeg) - ((M 16 6 l2.toNatClampNeg) - (M 16 6 l2.toNatClampNeg) / 3 * 3))) 16 23 l4.toNatClampNeg 1) 16 6 l2.toNatClampNeg) - ((k3 (k3 M 16 19 l1.toNatClampNeg ((M 16 19 l1.toNatClampNeg) - ((M 16 6 l2.toNatClampNeg) - (M 16 6 l2.toNatClampNeg) / 3 * 3))) 16 23 l4.toNatClampNeg 1) 16 6 l2.toNatClampNeg) / 4 * 4))) + (((k3 (k3 M 16 19 l1.toNatClampNeg ((M 16 19 l1.toNatClampNeg) - ((M 16 6 l2.toNatClampNeg) - (M 16 6 l2.toNatClampNeg) / 3 * 3))) 16 23 l4.toNatClampNeg 1) 16 6 l2.toNatClampNeg) / 4)) + 1)) 16 24 l1.toNatClampNeg) + 1)) 16 19 l1.toNatClampNeg), _, _, rfl, h, hw⟩
          · have h := h.2 c20
            refine lv_aload_n S.1 S.2.1 dX7_play_146 rfl (lv_at hl 0 rfl) ?_
            refine lv_iconst (v := 3) S.1 S.2.1 dX7_play_147 (by decide) ?_
            refine r_call (rest := []) S hg hS (mtX7_fails (mc := 0) (ms := 0) h) u1171 u1173 u26 u49 u1174 hdX7_fails (rv3 hg hw) hw ⟨Nat.le_of_ble_eq_true rfl, Nat.le_of_ble_eq_true rfl⟩ ⟨by show 0 + 0 ≤ mc; omega, by show 0 + 0 ≤ ms; omega⟩ hl.1 (Nat.le_of_ble_eq_true rfl) rfl dX7_play_148 (fun E ce q H1 locs1 hx hS1 hc1 hc2 hc3 => hx.elim) (fun rv H locs hq hS => ?_)
            obtain ⟨r24, M25, ap26, rfl, h, hw⟩ := hq
            show W p l e _ s m _ below meth c H locs _ _ _ (F0 m 151 ls [.int r24])
            show W p l e _ s m _ below meth c H locs 0 0 _ _
            exact r_iret (y := yX7_play) S hr rfl hlk hS (by omega) (by omega) dX7_play_151 ⟨r24, _, _, rfl, h, hw⟩
        · have h := h.2 c17
          refine lv_aload_n S.1 S.2.1 dX7_play_123 rfl (lv_at hl 0 rfl) ?_
          refine lv_iconst (v := 2) S.1 S.2.1 dX7_play_124 (by decide) ?_
          refine r_call (rest := []) S hg hS (mtX7_fails (mc := 0) (ms := 0) h) u1171 u1173 u26 u49 u1174 hdX7_fails (rv3 hg hw) hw ⟨Nat.le_of_ble_eq_true rfl, Nat.le_of_ble_eq_true rfl⟩ ⟨by show 0 + 0 ≤ mc; omega, by show 0 + 0 ≤ ms; omega⟩ hl.1 (Nat.le_of_ble_eq_true rfl) rfl dX7_play_125 (fun E ce q H1 locs1 hx hS1 hc1 hc2 hc3 => hx.elim) (fun rv H locs hq hS => ?_)
          obtain ⟨r27, M28, ap29, rfl, h, hw⟩ := hq
          show W p l e _ s m _ below meth c H locs _ _ _ (F0 m 128 ls [.int r27])
          show W p l e _ s m _ below meth c H locs 0 0 _ _
          exact r_iret (y := yX7_play) S hr rfl hlk hS (by omega) (by omega) dX7_play_128 ⟨r27, _, _, rfl, h, hw⟩
    · have h := h.2 c11
      refine lv_bipush (v := 8) S.1 S.2.1 dX7_play_57 (by decide) ?_
      refine lv_iconst (v := 2) S.1 S.2.1 dX7_play_59 (by decide) ?_
      refine lv_iload_n S.1 S.2.1 dX7_play_60 rfl (lv_at hl 1 rfl) ?_
      refine lv_imul S.1 S.2.1 dX7_play_61 ?_
      refine lv_iload_n S.1 S.2.1 dX7_play_62 rfl (lv_at hl 3 rfl) ?_
      refine lv_iadd S.1 S.2.1 dX7_play_63 ?_
      refine lv_imul S.1 S.2.1 dX7_play_64 ?_
      refine lv_iload S.1 S.2.1 dX7_play_65 (lv_at hl 5 rfl) ?_
      refine lv_iadd S.1 S.2.1 dX7_play_67 ?_
      refine lv_istore (lv' := [(6, .int ((8 * ((2 * l1) + l3)) + l5)), (0, .ref (ad 3 0)), (1, .int l1), (2, .int l2), (3, .int l3), (4, .int l4), (5, .int l5)]) S.1 S.2.1 dX7_play_68 hl (by decide) rfl (fun ls hl => ?_)
      refine lv_aload_n S.1 S.2.1 dX7_play_70 rfl (lv_at hl 1 rfl) ?_
      refine g3_22 S hg hw u1066 dX7_play_71 ?_
      refine lv_iload S.1 S.2.1 dX7_play_74 (lv_at hl 0 rfl) ?_
      obtain ⟨g30, h⟩ := h
      refine a16 S hg hw rfl g30 dX7_play_76 ?_
      refine lv_iload_n S.1 S.2.1 dX7_play_77 rfl (lv_at hl 3 rfl) ?_
      refine lv_icmp_ne (tgt := 96) S.1 S.2.1 dX7_play_78 (by decide) (fun c31 => ?_) (fun c31 => ?_)
      · have h := h.1 c31
        have hl := lv_sub hl (l' := [(0, .ref (ad 3 0)), (1, .int l1), (2, .int l2), (3, .int l3), (4, .int l4), (5, .int l5)]) [1, 2, 3, 4, 5, 6] rfl
        exact bX7_play_96 S hg hr hlk hout ih hS hw hl h
      · have h := h.2 c31
        refine lv_aload_n S.1 S.2.1 dX7_play_81 rfl (lv_at hl 1 rfl) ?_
        refine g3_23 S hg hw u1067 dX7_play_82 ?_
        refine lv_iload S.1 S.2.1 dX7_play_85 (lv_at hl 0 rfl) ?_
        obtain ⟨g32, h⟩ := h
        refine a16 S hg hw rfl g32 dX7_play_87 ?_
        refine lv_if_ne (tgt := 96) S.1 S.2.1 dX7_play_88 (by decide) (fun c33 => ?_) (fun c33 => ?_)
        · have h := h.1 c33
          have hl := lv_sub hl (l' := [(0, .ref (ad 3 0)), (1, .int l1), (2, .int l2), (3, .int l3), (4, .int l4), (5, .int l5)]) [1, 2, 3, 4, 5, 6] rfl
          exact bX7_play_96 S hg hr hlk hout ih hS hw hl h
        · have h := h.2 c33
          refine lv_iload S.1 S.2.1 dX7_play_91 (lv_at hl 0 rfl) ?_
          refine lv_goto (tgt := 98) S.1 S.2.1 dX7_play_93 (by decide) ?_
          have hl := lv_sub hl (l' := [(0, .ref (ad 3 0)), (1, .int l1), (2, .int l2), (3, .int l3), (5, .int l5)]) [1, 2, 3, 4, 6] rfl
          exact bX7_play_98 S hg hr hlk hout ih hS hw hl h
def wpX7_play (post : Int32 → KS → Int64 → Prop) (M : KS) (ap : Int64) (p1 : Int32) (p2 : Int32) : Prop := (wpX7_isDuel (fun r1 => ((r1 = 0 → ((wpX7_fails (fun r3 M4 ap5 => post r3 M4 ap5) (k3 M 3 0 0 0) ap 1))) ∧ (¬ r1 = 0 → ((wpX7_isCard (fun r6 => ((¬ r6 = 0 → ((vp_in p1 8) ∧ (∀ x9 : Int32, x9 = ((k3 M 3 0 0 0) 16 20 p1.toNatClampNeg) - ((k3 M 3 0 0 0) 16 20 p1.toNatClampNeg) / 2 * 2 → (∃ n1 : Nat, wX7_play_42 post n1 p1 p2 x9 (-1) 0 (k3 M 3 0 0 0) ap)))) ∧ (r6 = 0 → ((wpX7_fails (fun r34 M35 ap36 => post r34 M35 ap36) (k3 M 3 0 0 0) ap 1))))) (k3 M 3 0 0 0) ap p2))))) (k3 M 3 0 0 0) ap p1)
theorem hdX7_play : yX7_play.cls ≠ "java/lang/invoke/MethodHandle" ∧ yX7_play.cls ≠ "java/lang/invoke/VarHandle" ∧ (parseMethodDescriptor yX7_play.desc).map (fun d => d.parameters.length) = some 2 := by decide +kernel
set_option maxHeartbeats 4000000 in
set_option maxRecDepth 100000 in
theorem mtX7_play {l : Launch} {D : va_G} {cI : Nat → ClassId} {e0 : Nat} {A : Nat → Prop} {ad : Nat → Nat → Nat} {K M : KS} {ap o : Int64} {od : UInt64} {mc ms : Nat} {p1 : Int32} {p2 : Int32} {post : Int32 → KS → Int64 → Prop} (h : wpX7_play post M ap p1 p2) : CM l D cI e0 A yX7_play cX7_play 7 (some FieldType.int) 2 43 mc ms [.ref (ad 3 0), .int p1, .int p2] (HT D cI e0 A ad K M ap o od) (qM D cI e0 A ad K o od rI post) xN := by
  refine CM.of (by decide) (Nat.le_of_ble_eq_true rfl) (fun p e s m below meth c ls FX hw hS hl => ?_)
  obtain ⟨S, hg, hr, hlk, hnm, hout⟩ := FX
  have hl : lv_has ls 7 [(0, .ref (ad 3 0)), (1, .int p1), (2, .int p2)] := hl
  unfold wpX7_play at h
  refine lv_aload_n S.1 S.2.1 dX7_play_0 rfl (lv_at hl 0 rfl) ?_
  refine lv_iconst (v := 0) S.1 S.2.1 dX7_play_1 (by decide) ?_
  refine p3_0 S hg hS hw u1044 dX7_play_2 (fun H locs hw hS => ?_)
  refine lv_aload_n S.1 S.2.1 dX7_play_5 rfl (lv_at hl 0 rfl) ?_
  refine lv_iload_n S.1 S.2.1 dX7_play_6 rfl (lv_at hl 1 rfl) ?_
  refine r_call (rest := []) S hg hS (mtX7_isDuel (mc := 0) (ms := 0) h) u1235 u1237 u32 u49 u1238 hdX7_isDuel (rv3 hg hw) hw ⟨Nat.le_of_ble_eq_true rfl, Nat.le_of_ble_eq_true rfl⟩ ⟨by show 0 + 0 ≤ mc; omega, by show 0 + 0 ≤ ms; omega⟩ hl.1 (Nat.le_of_ble_eq_true rfl) rfl dX7_play_7 (fun E ce q H1 locs1 hx hS1 hc1 hc2 hc3 => hx.elim) (fun rv H locs hq hS => ?_)
  obtain ⟨r1, rfl, h, hw⟩ := hq
  show W p l e _ s m _ below meth c H locs _ _ _ (F0 m 10 ls [.int r1])
  show W p l e _ s m _ below meth c H locs 0 0 _ _
  refine lv_if_eq (tgt := 21) S.1 S.2.1 dX7_play_10 (by decide) (fun c2 => ?_) (fun c2 => ?_)
  · have h := h.1 c2
    refine lv_aload_n S.1 S.2.1 dX7_play_21 rfl (lv_at hl 0 rfl) ?_
    refine lv_iconst (v := 1) S.1 S.2.1 dX7_play_22 (by decide) ?_
    refine r_call (rest := []) S hg hS (mtX7_fails (mc := 0) (ms := 0) h) u1171 u1173 u26 u49 u1174 hdX7_fails (rv3 hg hw) hw ⟨Nat.le_of_ble_eq_true rfl, Nat.le_of_ble_eq_true rfl⟩ ⟨by show 0 + 0 ≤ mc; omega, by show 0 + 0 ≤ ms; omega⟩ hl.1 (Nat.le_of_ble_eq_true rfl) rfl dX7_play_23 (fun E ce q H1 locs1 hx hS1 hc1 hc2 hc3 => hx.elim) (fun rv H locs hq hS => ?_)
    obtain ⟨r3, M4, ap5, rfl, h, hw⟩ := hq
    show W p l e _ s m _ below meth c H locs _ _ _ (F0 m 26 ls [.int r3])
    show W p l e _ s m _ below meth c H locs 0 0 _ _
    exact r_iret (y := yX7_play) S hr rfl hlk hS (by omega) (by omega) dX7_play_26 ⟨r3, _, _, rfl, h, hw⟩
  · have h := h.2 c2
    refine lv_aload_n S.1 S.2.1 dX7_play_13 rfl (lv_at hl 0 rfl) ?_
    refine lv_iload_n S.1 S.2.1 dX7_play_14 rfl (lv_at hl 2 rfl) ?_
    refine r_call (rest := []) S hg hS (mtX7_isCard (mc := 0) (ms := 0) h) u1191 u1193 u29 u49 u1194 hdX7_isCard (rv3 hg hw) hw ⟨Nat.le_of_ble_eq_true rfl, Nat.le_of_ble_eq_true rfl⟩ ⟨by show 0 + 0 ≤ mc; omega, by show 0 + 0 ≤ ms; omega⟩ hl.1 (Nat.le_of_ble_eq_true rfl) rfl dX7_play_15 (fun E ce q H1 locs1 hx hS1 hc1 hc2 hc3 => hx.elim) (fun rv H locs hq hS => ?_)
    obtain ⟨r6, rfl, h, hw⟩ := hq
    show W p l e _ s m _ below meth c H locs _ _ _ (F0 m 18 ls [.int r6])
    show W p l e _ s m _ below meth c H locs 0 0 _ _
    refine lv_if_ne (tgt := 27) S.1 S.2.1 dX7_play_18 (by decide) (fun c7 => ?_) (fun c7 => ?_)
    · have h := h.1 c7
      refine lv_aload_n S.1 S.2.1 dX7_play_27 rfl (lv_at hl 0 rfl) ?_
      refine g3_20 S hg hw u1064 dX7_play_28 ?_
      refine lv_iload_n S.1 S.2.1 dX7_play_31 rfl (lv_at hl 1 rfl) ?_
      obtain ⟨g8, h⟩ := h
      refine a16 S hg hw rfl g8 dX7_play_32 ?_
      refine lv_iconst (v := 2) S.1 S.2.1 dX7_play_33 (by decide) ?_
      refine lv_irem S.1 S.2.1 dX7_play_34 (by decide) ?_
      refine lv_topi (fun x9 ex9 => ?_)
      have h := h x9 ex9
      refine lv_istore_n (lv' := [(3, .int x9), (0, .ref (ad 3 0)), (1, .int p1), (2, .int p2)]) S.1 S.2.1 dX7_play_35 rfl hl (by decide) rfl (fun ls hl => ?_)
      refine lv_iconst (v := (-1)) S.1 S.2.1 dX7_play_36 (by decide) ?_
      refine lv_istore (lv' := [(4, .int (-1)), (3, .int x9), (0, .ref (ad 3 0)), (1, .int p1), (2, .int p2)]) S.1 S.2.1 dX7_play_37 hl (by decide) rfl (fun ls hl => ?_)
      refine lv_iconst (v := 0) S.1 S.2.1 dX7_play_39 (by decide) ?_
      refine lv_istore (lv' := [(5, .int 0), (4, .int (-1)), (3, .int x9), (0, .ref (ad 3 0)), (1, .int p1), (2, .int p2)]) S.1 S.2.1 dX7_play_40 hl (by decide) rfl (fun ls hl => ?_)
      have hl := lv_sub hl (l' := [(0, .ref (ad 3 0)), (1, .int p1), (2, .int p2), (3, .int x9), (4, .int (-1)), (5, .int 0)]) [3, 4, 5, 2, 1, 0] rfl
      obtain ⟨n1, h⟩ := h
      exact bX7_play_42 S hg hr hlk hout n1 hS hw hl h
    · have h := h.2 c7
      refine lv_aload_n S.1 S.2.1 dX7_play_21 rfl (lv_at hl 0 rfl) ?_
      refine lv_iconst (v := 1) S.1 S.2.1 dX7_play_22 (by decide) ?_
      refine r_call (rest := []) S hg hS (mtX7_fails (mc := 0) (ms := 0) h) u1171 u1173 u26 u49 u1174 hdX7_fails (rv3 hg hw) hw ⟨Nat.le_of_ble_eq_true rfl, Nat.le_of_ble_eq_true rfl⟩ ⟨by show 0 + 0 ≤ mc; omega, by show 0 + 0 ≤ ms; omega⟩ hl.1 (Nat.le_of_ble_eq_true rfl) rfl dX7_play_23 (fun E ce q H1 locs1 hx hS1 hc1 hc2 hc3 => hx.elim) (fun rv H locs hq hS => ?_)
      obtain ⟨r34, M35, ap36, rfl, h, hw⟩ := hq
      show W p l e _ s m _ below meth c H locs _ _ _ (F0 m 26 ls [.int r34])
      show W p l e _ s m _ below meth c H locs 0 0 _ _
      exact r_iret (y := yX7_play) S hr rfl hlk hS (by omega) (by omega) dX7_play_26 ⟨r34, _, _, rfl, h, hw⟩

-- X7.resolves
theorem dX7_resolves_0 : decode cX7_resolves 0 = .ok (.iconst 0, 1) := by decide +kernel
theorem dX7_resolves_1 : decode cX7_resolves 1 = .ok (.istore_n 2, 1) := by decide +kernel
theorem dX7_resolves_2 : decode cX7_resolves 2 = .ok (.aload_n 0, 1) := by decide +kernel
theorem dX7_resolves_3 : decode cX7_resolves 3 = .ok (.getfield 62, 3) := by decide +kernel
theorem dX7_resolves_6 : decode cX7_resolves 6 = .ok (.iload_n 1, 1) := by decide +kernel
theorem dX7_resolves_7 : decode cX7_resolves 7 = .ok (.iaload, 1) := by decide +kernel
theorem dX7_resolves_8 : decode cX7_resolves 8 = .ok (.ifCond .le 203, 3) := by decide +kernel
theorem dX7_resolves_11 : decode cX7_resolves 11 = .ok (.aload_n 0, 1) := by decide +kernel
theorem dX7_resolves_12 : decode cX7_resolves 12 = .ok (.getfield 62, 3) := by decide +kernel
theorem dX7_resolves_15 : decode cX7_resolves 15 = .ok (.iload_n 1, 1) := by decide +kernel
theorem dX7_resolves_16 : decode cX7_resolves 16 = .ok (.dup2, 1) := by decide +kernel
theorem dX7_resolves_17 : decode cX7_resolves 17 = .ok (.iaload, 1) := by decide +kernel
theorem dX7_resolves_18 : decode cX7_resolves 18 = .ok (.iconst 1, 1) := by decide +kernel
theorem dX7_resolves_19 : decode cX7_resolves 19 = .ok (.isub, 1) := by decide +kernel
theorem dX7_resolves_20 : decode cX7_resolves 20 = .ok (.iastore, 1) := by decide +kernel
theorem dX7_resolves_21 : decode cX7_resolves 21 = .ok (.aload_n 0, 1) := by decide +kernel
theorem dX7_resolves_22 : decode cX7_resolves 22 = .ok (.getfield 65, 3) := by decide +kernel
theorem dX7_resolves_25 : decode cX7_resolves 25 = .ok (.bipush 16, 2) := by decide +kernel
theorem dX7_resolves_27 : decode cX7_resolves 27 = .ok (.iload_n 1, 1) := by decide +kernel
theorem dX7_resolves_28 : decode cX7_resolves 28 = .ok (.imul, 1) := by decide +kernel
theorem dX7_resolves_29 : decode cX7_resolves 29 = .ok (.aload_n 0, 1) := by decide +kernel
theorem dX7_resolves_30 : decode cX7_resolves 30 = .ok (.getfield 62, 3) := by decide +kernel
theorem dX7_resolves_33 : decode cX7_resolves 33 = .ok (.iload_n 1, 1) := by decide +kernel
theorem dX7_resolves_34 : decode cX7_resolves 34 = .ok (.iaload, 1) := by decide +kernel
theorem dX7_resolves_35 : decode cX7_resolves 35 = .ok (.iadd, 1) := by decide +kernel
theorem dX7_resolves_36 : decode cX7_resolves 36 = .ok (.iaload, 1) := by decide +kernel
theorem dX7_resolves_37 : decode cX7_resolves 37 = .ok (.istore_n 3, 1) := by decide +kernel
theorem dX7_resolves_38 : decode cX7_resolves 38 = .ok (.iload_n 3, 1) := by decide +kernel
theorem dX7_resolves_39 : decode cX7_resolves 39 = .ok (.bipush 100, 2) := by decide +kernel
theorem dX7_resolves_41 : decode cX7_resolves 41 = .ok (.idiv, 1) := by decide +kernel
theorem dX7_resolves_42 : decode cX7_resolves 42 = .ok (.istore 4, 2) := by decide +kernel
theorem dX7_resolves_44 : decode cX7_resolves 44 = .ok (.iload_n 3, 1) := by decide +kernel
theorem dX7_resolves_45 : decode cX7_resolves 45 = .ok (.bipush 10, 2) := by decide +kernel
theorem dX7_resolves_47 : decode cX7_resolves 47 = .ok (.irem, 1) := by decide +kernel
theorem dX7_resolves_48 : decode cX7_resolves 48 = .ok (.iload_n 2, 1) := by decide +kernel
theorem dX7_resolves_49 : decode cX7_resolves 49 = .ok (.iadd, 1) := by decide +kernel
theorem dX7_resolves_50 : decode cX7_resolves 50 = .ok (.istore 5, 2) := by decide +kernel
theorem dX7_resolves_52 : decode cX7_resolves 52 = .ok (.iload_n 3, 1) := by decide +kernel
theorem dX7_resolves_53 : decode cX7_resolves 53 = .ok (.bipush 10, 2) := by decide +kernel
theorem dX7_resolves_55 : decode cX7_resolves 55 = .ok (.idiv, 1) := by decide +kernel
theorem dX7_resolves_56 : decode cX7_resolves 56 = .ok (.bipush 10, 2) := by decide +kernel
theorem dX7_resolves_58 : decode cX7_resolves 58 = .ok (.irem, 1) := by decide +kernel
theorem dX7_resolves_59 : decode cX7_resolves 59 = .ok (.istore 6, 2) := by decide +kernel
theorem dX7_resolves_61 : decode cX7_resolves 61 = .ok (.iload 6, 2) := by decide +kernel
theorem dX7_resolves_63 : decode cX7_resolves 63 = .ok (.iconst 3, 1) := by decide +kernel
theorem dX7_resolves_64 : decode cX7_resolves 64 = .ok (.if_icmp .ne 8, 3) := by decide +kernel
theorem dX7_resolves_67 : decode cX7_resolves 67 = .ok (.iload 5, 2) := by decide +kernel
theorem dX7_resolves_69 : decode cX7_resolves 69 = .ok (.goto 4, 3) := by decide +kernel
theorem dX7_resolves_72 : decode cX7_resolves 72 = .ok (.iconst 0, 1) := by decide +kernel
theorem dX7_resolves_73 : decode cX7_resolves 73 = .ok (.istore_n 2, 1) := by decide +kernel
theorem dX7_resolves_74 : decode cX7_resolves 74 = .ok (.iload 6, 2) := by decide +kernel
theorem dX7_resolves_76 : decode cX7_resolves 76 = .ok (.ifCond .ne 24, 3) := by decide +kernel
theorem dX7_resolves_79 : decode cX7_resolves 79 = .ok (.aload_n 0, 1) := by decide +kernel
theorem dX7_resolves_80 : decode cX7_resolves 80 = .ok (.getfield 44, 3) := by decide +kernel
theorem dX7_resolves_83 : decode cX7_resolves 83 = .ok (.iconst 2, 1) := by decide +kernel
theorem dX7_resolves_84 : decode cX7_resolves 84 = .ok (.iload_n 1, 1) := by decide +kernel
theorem dX7_resolves_85 : decode cX7_resolves 85 = .ok (.imul, 1) := by decide +kernel
theorem dX7_resolves_86 : decode cX7_resolves 86 = .ok (.iconst 1, 1) := by decide +kernel
theorem dX7_resolves_87 : decode cX7_resolves 87 = .ok (.iadd, 1) := by decide +kernel
theorem dX7_resolves_88 : decode cX7_resolves 88 = .ok (.iload 4, 2) := by decide +kernel
theorem dX7_resolves_90 : decode cX7_resolves 90 = .ok (.isub, 1) := by decide +kernel
theorem dX7_resolves_91 : decode cX7_resolves 91 = .ok (.dup2, 1) := by decide +kernel
theorem dX7_resolves_92 : decode cX7_resolves 92 = .ok (.iaload, 1) := by decide +kernel
theorem dX7_resolves_93 : decode cX7_resolves 93 = .ok (.iload 5, 2) := by decide +kernel
theorem dX7_resolves_95 : decode cX7_resolves 95 = .ok (.isub, 1) := by decide +kernel
theorem dX7_resolves_96 : decode cX7_resolves 96 = .ok (.iastore, 1) := by decide +kernel
theorem dX7_resolves_97 : decode cX7_resolves 97 = .ok (.goto 78, 3) := by decide +kernel
theorem dX7_resolves_100 : decode cX7_resolves 100 = .ok (.iload 6, 2) := by decide +kernel
theorem dX7_resolves_102 : decode cX7_resolves 102 = .ok (.iconst 1, 1) := by decide +kernel
theorem dX7_resolves_103 : decode cX7_resolves 103 = .ok (.if_icmp .ne 47, 3) := by decide +kernel
theorem dX7_resolves_106 : decode cX7_resolves 106 = .ok (.aload_n 0, 1) := by decide +kernel
theorem dX7_resolves_107 : decode cX7_resolves 107 = .ok (.getfield 44, 3) := by decide +kernel
theorem dX7_resolves_110 : decode cX7_resolves 110 = .ok (.iconst 2, 1) := by decide +kernel
theorem dX7_resolves_111 : decode cX7_resolves 111 = .ok (.iload_n 1, 1) := by decide +kernel
theorem dX7_resolves_112 : decode cX7_resolves 112 = .ok (.imul, 1) := by decide +kernel
theorem dX7_resolves_113 : decode cX7_resolves 113 = .ok (.iload 4, 2) := by decide +kernel
theorem dX7_resolves_115 : decode cX7_resolves 115 = .ok (.iadd, 1) := by decide +kernel
theorem dX7_resolves_116 : decode cX7_resolves 116 = .ok (.iaload, 1) := by decide +kernel
theorem dX7_resolves_117 : decode cX7_resolves 117 = .ok (.iload 5, 2) := by decide +kernel
theorem dX7_resolves_119 : decode cX7_resolves 119 = .ok (.iadd, 1) := by decide +kernel
theorem dX7_resolves_120 : decode cX7_resolves 120 = .ok (.istore 7, 2) := by decide +kernel
theorem dX7_resolves_122 : decode cX7_resolves 122 = .ok (.aload_n 0, 1) := by decide +kernel
theorem dX7_resolves_123 : decode cX7_resolves 123 = .ok (.getfield 44, 3) := by decide +kernel
theorem dX7_resolves_126 : decode cX7_resolves 126 = .ok (.iconst 2, 1) := by decide +kernel
theorem dX7_resolves_127 : decode cX7_resolves 127 = .ok (.iload_n 1, 1) := by decide +kernel
theorem dX7_resolves_128 : decode cX7_resolves 128 = .ok (.imul, 1) := by decide +kernel
theorem dX7_resolves_129 : decode cX7_resolves 129 = .ok (.iload 4, 2) := by decide +kernel
theorem dX7_resolves_131 : decode cX7_resolves 131 = .ok (.iadd, 1) := by decide +kernel
theorem dX7_resolves_132 : decode cX7_resolves 132 = .ok (.iload 7, 2) := by decide +kernel
theorem dX7_resolves_134 : decode cX7_resolves 134 = .ok (.bipush 20, 2) := by decide +kernel
theorem dX7_resolves_136 : decode cX7_resolves 136 = .ok (.if_icmp .le 8, 3) := by decide +kernel
theorem dX7_resolves_139 : decode cX7_resolves 139 = .ok (.bipush 20, 2) := by decide +kernel
theorem dX7_resolves_141 : decode cX7_resolves 141 = .ok (.goto 5, 3) := by decide +kernel
theorem dX7_resolves_144 : decode cX7_resolves 144 = .ok (.iload 7, 2) := by decide +kernel
theorem dX7_resolves_146 : decode cX7_resolves 146 = .ok (.iastore, 1) := by decide +kernel
theorem dX7_resolves_147 : decode cX7_resolves 147 = .ok (.goto 28, 3) := by decide +kernel
theorem dX7_resolves_150 : decode cX7_resolves 150 = .ok (.iload 6, 2) := by decide +kernel
theorem dX7_resolves_152 : decode cX7_resolves 152 = .ok (.iconst 2, 1) := by decide +kernel
theorem dX7_resolves_153 : decode cX7_resolves 153 = .ok (.if_icmp .ne 22, 3) := by decide +kernel
theorem dX7_resolves_156 : decode cX7_resolves 156 = .ok (.aload_n 0, 1) := by decide +kernel
theorem dX7_resolves_157 : decode cX7_resolves 157 = .ok (.getfield 62, 3) := by decide +kernel
theorem dX7_resolves_160 : decode cX7_resolves 160 = .ok (.iload_n 1, 1) := by decide +kernel
theorem dX7_resolves_161 : decode cX7_resolves 161 = .ok (.iaload, 1) := by decide +kernel
theorem dX7_resolves_162 : decode cX7_resolves 162 = .ok (.ifCond .le 13, 3) := by decide +kernel
theorem dX7_resolves_165 : decode cX7_resolves 165 = .ok (.aload_n 0, 1) := by decide +kernel
theorem dX7_resolves_166 : decode cX7_resolves 166 = .ok (.getfield 62, 3) := by decide +kernel
theorem dX7_resolves_169 : decode cX7_resolves 169 = .ok (.iload_n 1, 1) := by decide +kernel
theorem dX7_resolves_170 : decode cX7_resolves 170 = .ok (.dup2, 1) := by decide +kernel
theorem dX7_resolves_171 : decode cX7_resolves 171 = .ok (.iaload, 1) := by decide +kernel
theorem dX7_resolves_172 : decode cX7_resolves 172 = .ok (.iconst 1, 1) := by decide +kernel
theorem dX7_resolves_173 : decode cX7_resolves 173 = .ok (.isub, 1) := by decide +kernel
theorem dX7_resolves_174 : decode cX7_resolves 174 = .ok (.iastore, 1) := by decide +kernel
theorem dX7_resolves_175 : decode cX7_resolves 175 = .ok (.aload_n 0, 1) := by decide +kernel
theorem dX7_resolves_176 : decode cX7_resolves 176 = .ok (.getfield 44, 3) := by decide +kernel
theorem dX7_resolves_179 : decode cX7_resolves 179 = .ok (.iconst 2, 1) := by decide +kernel
theorem dX7_resolves_180 : decode cX7_resolves 180 = .ok (.iload_n 1, 1) := by decide +kernel
theorem dX7_resolves_181 : decode cX7_resolves 181 = .ok (.imul, 1) := by decide +kernel
theorem dX7_resolves_182 : decode cX7_resolves 182 = .ok (.iaload, 1) := by decide +kernel
theorem dX7_resolves_183 : decode cX7_resolves 183 = .ok (.ifCond .le 16, 3) := by decide +kernel
theorem dX7_resolves_186 : decode cX7_resolves 186 = .ok (.aload_n 0, 1) := by decide +kernel
theorem dX7_resolves_187 : decode cX7_resolves 187 = .ok (.getfield 44, 3) := by decide +kernel
theorem dX7_resolves_190 : decode cX7_resolves 190 = .ok (.iconst 2, 1) := by decide +kernel
theorem dX7_resolves_191 : decode cX7_resolves 191 = .ok (.iload_n 1, 1) := by decide +kernel
theorem dX7_resolves_192 : decode cX7_resolves 192 = .ok (.imul, 1) := by decide +kernel
theorem dX7_resolves_193 : decode cX7_resolves 193 = .ok (.iconst 1, 1) := by decide +kernel
theorem dX7_resolves_194 : decode cX7_resolves 194 = .ok (.iadd, 1) := by decide +kernel
theorem dX7_resolves_195 : decode cX7_resolves 195 = .ok (.iaload, 1) := by decide +kernel
theorem dX7_resolves_196 : decode cX7_resolves 196 = .ok (.ifCond .gt 12, 3) := by decide +kernel
theorem dX7_resolves_199 : decode cX7_resolves 199 = .ok (.aload_n 0, 1) := by decide +kernel
theorem dX7_resolves_200 : decode cX7_resolves 200 = .ok (.getfield 62, 3) := by decide +kernel
theorem dX7_resolves_203 : decode cX7_resolves 203 = .ok (.iload_n 1, 1) := by decide +kernel
theorem dX7_resolves_204 : decode cX7_resolves 204 = .ok (.iconst 0, 1) := by decide +kernel
theorem dX7_resolves_205 : decode cX7_resolves 205 = .ok (.iastore, 1) := by decide +kernel
theorem dX7_resolves_206 : decode cX7_resolves 206 = .ok (.iconst 1, 1) := by decide +kernel
theorem dX7_resolves_207 : decode cX7_resolves 207 = .ok (.ireturn, 1) := by decide +kernel
theorem dX7_resolves_208 : decode cX7_resolves 208 = .ok (.goto (-206), 3) := by decide +kernel
theorem dX7_resolves_211 : decode cX7_resolves 211 = .ok (.iconst 0, 1) := by decide +kernel
theorem dX7_resolves_212 : decode cX7_resolves 212 = .ok (.ireturn, 1) := by decide +kernel
def wX7_resolves_175 (post : Int32 → KS → Int64 → Prop) (bk2 : Int32 → Int32 → KS → Int64 → Prop) (l1 : Int32) (l2 : Int32) (M : KS) (ap : Int64) : Prop := (vp_in (2 * l1) 16) ∧ ((((M 16 18 ((2 * l1).toNatClampNeg)) ≤ 0 → ((vp_in l1 8) ∧ (post 1 (k3 M 16 24 l1.toNatClampNeg 0) ap))) ∧ (¬ (M 16 18 ((2 * l1).toNatClampNeg)) ≤ 0 → ((vp_in ((2 * l1) + 1) 16) ∧ (((0 < (M 16 18 (((2 * l1) + 1).toNatClampNeg)) → (bk2 l1 l2 M ap)) ∧ (¬ 0 < (M 16 18 (((2 * l1) + 1).toNatClampNeg)) → ((vp_in l1 8) ∧ (post 1 (k3 M 16 24 l1.toNatClampNeg 0) ap)))))))))
set_option maxHeartbeats 4000000 in
set_option maxRecDepth 100000 in
theorem bX7_resolves_175 {p : Program} {l : Launch} {e : Env} {s : State} {m : MethodId} {args : Array Value} {below : List Frame} {meth : Method} {c : Code} {D : va_G} {cI : Nat → ClassId} {e0 : Nat} {A : Nat → Prop} {ad : Nat → Nat → Nat} {K : KS} {o : Int64} {od : UInt64} {mc ms : Nat} {post : Int32 → KS → Int64 → Prop} {bk2 : Int32 → Int32 → KS → Int64 → Prop} (S : CallFix p m c cX7_resolves 8 s args WU RX7) (hg : GI D cI e0 A s s.heap) (hr : meth.sig.returnType = (some FieldType.boolean)) (hlk : meth.locks = false) (hout : ∀ x ∈ c.exceptionTable.toList, False) (hbk2 : ∀ {H : Heap} {locs : List Loc} {ls : Array Slot} {l1 : Int32} {l2 : Int32} {M : KS} {ap : Int64}, va_S A s.heap H locs → HT D cI e0 A ad K M ap o od H → lv_has ls 8 [(0, .ref (ad 3 0)), (1, .int l1), (2, .int l2)] → bk2 l1 l2 M ap → W p l e ({ frames := 0, cells := mc, slots := ms, locals := 0 } : Room) s m args below meth c H locs 0 0 (MQQ below (qM D cI e0 A ad K o od rI post) xN args s mc ms A) (F0 m 2 ls [])) {H : Heap} {locs : List Loc} {ls : Array Slot} {l1 : Int32} {l2 : Int32} {M : KS} {ap : Int64} (hS : va_S A s.heap H locs) (hw : HT D cI e0 A ad K M ap o od H) (hl : lv_has ls 8 [(0, .ref (ad 3 0)), (1, .int l1), (2, .int l2)]) (h : wX7_resolves_175 post bk2 l1 l2 M ap) : W p l e ({ frames := 0, cells := mc, slots := ms, locals := 0 } : Room) s m args below meth c H locs 0 0 (MQQ below (qM D cI e0 A ad K o od rI post) xN args s mc ms A) (F0 m 175 ls []) := by
  unfold wX7_resolves_175 at h
  refine lv_aload_n S.1 S.2.1 dX7_resolves_175 rfl (lv_at hl 0 rfl) ?_
  refine g3_18 S hg hw u1062 dX7_resolves_176 ?_
  refine lv_iconst (v := 2) S.1 S.2.1 dX7_resolves_179 (by decide) ?_
  refine lv_iload_n S.1 S.2.1 dX7_resolves_180 rfl (lv_at hl 1 rfl) ?_
  refine lv_imul S.1 S.2.1 dX7_resolves_181 ?_
  obtain ⟨g10, h⟩ := h
  refine a16 S hg hw rfl g10 dX7_resolves_182 ?_
  refine lv_if_le (tgt := 199) S.1 S.2.1 dX7_resolves_183 (by decide) (fun c11 => ?_) (fun c11 => ?_)
  · have h := h.1 c11
    refine lv_aload_n S.1 S.2.1 dX7_resolves_199 rfl (lv_at hl 0 rfl) ?_
    refine g3_24 S hg hw u1068 dX7_resolves_200 ?_
    refine lv_iload_n S.1 S.2.1 dX7_resolves_203 rfl (lv_at hl 1 rfl) ?_
    refine lv_iconst (v := 0) S.1 S.2.1 dX7_resolves_204 (by decide) ?_
    obtain ⟨g12, h⟩ := h
    refine s16 S hg hS hw rfl g12 dX7_resolves_205 (fun H locs hw hS => ?_)
    refine lv_iconst (v := 1) S.1 S.2.1 dX7_resolves_206 (by decide) ?_
    exact r_iret (y := yX7_resolves) S hr rfl hlk hS (by omega) (by omega) dX7_resolves_207 ⟨1, _, _, rfl, h, hw⟩
  · have h := h.2 c11
    refine lv_aload_n S.1 S.2.1 dX7_resolves_186 rfl (lv_at hl 0 rfl) ?_
    refine g3_18 S hg hw u1062 dX7_resolves_187 ?_
    refine lv_iconst (v := 2) S.1 S.2.1 dX7_resolves_190 (by decide) ?_
    refine lv_iload_n S.1 S.2.1 dX7_resolves_191 rfl (lv_at hl 1 rfl) ?_
    refine lv_imul S.1 S.2.1 dX7_resolves_192 ?_
    refine lv_iconst (v := 1) S.1 S.2.1 dX7_resolves_193 (by decide) ?_
    refine lv_iadd S.1 S.2.1 dX7_resolves_194 ?_
    obtain ⟨g13, h⟩ := h
    refine a16 S hg hw rfl g13 dX7_resolves_195 ?_
    refine lv_if_gt (tgt := 208) S.1 S.2.1 dX7_resolves_196 (by decide) (fun c14 => ?_) (fun c14 => ?_)
    · have h := h.1 c14
      refine lv_goto (tgt := 2) S.1 S.2.1 dX7_resolves_208 (by decide) ?_
      have hl := lv_sub hl (l' := [(0, .ref (ad 3 0)), (1, .int l1), (2, .int l2)]) [0, 1, 2] rfl
      exact hbk2 hS hw hl h
    · have h := h.2 c14
      refine lv_aload_n S.1 S.2.1 dX7_resolves_199 rfl (lv_at hl 0 rfl) ?_
      refine g3_24 S hg hw u1068 dX7_resolves_200 ?_
      refine lv_iload_n S.1 S.2.1 dX7_resolves_203 rfl (lv_at hl 1 rfl) ?_
      refine lv_iconst (v := 0) S.1 S.2.1 dX7_resolves_204 (by decide) ?_
      obtain ⟨g15, h⟩ := h
      refine s16 S hg hS hw rfl g15 dX7_resolves_205 (fun H locs hw hS => ?_)
      refine lv_iconst (v := 1) S.1 S.2.1 dX7_resolves_206 (by decide) ?_
      exact r_iret (y := yX7_resolves) S hr rfl hlk hS (by omega) (by omega) dX7_resolves_207 ⟨1, _, _, rfl, h, hw⟩
def wX7_resolves_146 (post : Int32 → KS → Int64 → Prop) (bk2 : Int32 → Int32 → KS → Int64 → Prop) (l1 : Int32) (l2 : Int32) (t0 : Int32) (t1 : Int32) (M : KS) (ap : Int64) : Prop := (vp_in t1 16) ∧ (wX7_resolves_175 post bk2 l1 l2 (k3 M 16 18 t1.toNatClampNeg t0) ap)
set_option maxHeartbeats 4000000 in
set_option maxRecDepth 100000 in
theorem bX7_resolves_146 {p : Program} {l : Launch} {e : Env} {s : State} {m : MethodId} {args : Array Value} {below : List Frame} {meth : Method} {c : Code} {D : va_G} {cI : Nat → ClassId} {e0 : Nat} {A : Nat → Prop} {ad : Nat → Nat → Nat} {K : KS} {o : Int64} {od : UInt64} {mc ms : Nat} {post : Int32 → KS → Int64 → Prop} {bk2 : Int32 → Int32 → KS → Int64 → Prop} (S : CallFix p m c cX7_resolves 8 s args WU RX7) (hg : GI D cI e0 A s s.heap) (hr : meth.sig.returnType = (some FieldType.boolean)) (hlk : meth.locks = false) (hout : ∀ x ∈ c.exceptionTable.toList, False) (hbk2 : ∀ {H : Heap} {locs : List Loc} {ls : Array Slot} {l1 : Int32} {l2 : Int32} {M : KS} {ap : Int64}, va_S A s.heap H locs → HT D cI e0 A ad K M ap o od H → lv_has ls 8 [(0, .ref (ad 3 0)), (1, .int l1), (2, .int l2)] → bk2 l1 l2 M ap → W p l e ({ frames := 0, cells := mc, slots := ms, locals := 0 } : Room) s m args below meth c H locs 0 0 (MQQ below (qM D cI e0 A ad K o od rI post) xN args s mc ms A) (F0 m 2 ls [])) {H : Heap} {locs : List Loc} {ls : Array Slot} {l1 : Int32} {l2 : Int32} {t0 : Int32} {t1 : Int32} {M : KS} {ap : Int64} (hS : va_S A s.heap H locs) (hw : HT D cI e0 A ad K M ap o od H) (hl : lv_has ls 8 [(0, .ref (ad 3 0)), (1, .int l1), (2, .int l2)]) (h : wX7_resolves_146 post bk2 l1 l2 t0 t1 M ap) : W p l e ({ frames := 0, cells := mc, slots := ms, locals := 0 } : Room) s m args below meth c H locs 0 0 (MQQ below (qM D cI e0 A ad K o od rI post) xN args s mc ms A) (F0 m 146 ls [.int t0, .int t1, .ref (ad 16 18)]) := by
  unfold wX7_resolves_146 at h
  obtain ⟨g21, h⟩ := h
  refine s16 S hg hS hw rfl g21 dX7_resolves_146 (fun H locs hw hS => ?_)
  refine lv_goto (tgt := 175) S.1 S.2.1 dX7_resolves_147 (by decide) ?_
  have hl := lv_sub hl (l' := [(0, .ref (ad 3 0)), (1, .int l1), (2, .int l2)]) [0, 1, 2] rfl
  exact bX7_resolves_175 S hg hr hlk hout hbk2 hS hw hl h
def wX7_resolves_73 (post : Int32 → KS → Int64 → Prop) (bk2 : Int32 → Int32 → KS → Int64 → Prop) (l1 : Int32) (l4 : Int32) (l5 : Int32) (l6 : Int32) (t0 : Int32) (M : KS) (ap : Int64) : Prop := ((¬ l6 = 0 → (((¬ l6 = 1 → (((¬ l6 = 2 → (wX7_resolves_175 post bk2 l1 t0 M ap)) ∧ (l6 = 2 → ((vp_in l1 8) ∧ ((((M 16 24 l1.toNatClampNeg) ≤ 0 → (wX7_resolves_175 post bk2 l1 t0 M ap)) ∧ (¬ (M 16 24 l1.toNatClampNeg) ≤ 0 → (wX7_resolves_175 post bk2 l1 t0 (k3 M 16 24 l1.toNatClampNeg ((M 16 24 l1.toNatClampNeg) - 1)) ap))))))))) ∧ (l6 = 1 → ((vp_in ((2 * l1) + l4) 16) ∧ (∀ x19 : Int32, x19 = (M 16 18 (((2 * l1) + l4).toNatClampNeg)) + l5 → (((x19 ≤ 20 → (wX7_resolves_146 post bk2 l1 t0 x19 ((2 * l1) + l4) M ap)) ∧ (¬ x19 ≤ 20 → (wX7_resolves_146 post bk2 l1 t0 20 ((2 * l1) + l4) M ap)))))))))) ∧ (l6 = 0 → ((vp_in (((2 * l1) + 1) - l4) 16) ∧ (wX7_resolves_175 post bk2 l1 t0 (k3 M 16 18 ((((2 * l1) + 1) - l4).toNatClampNeg) ((M 16 18 ((((2 * l1) + 1) - l4).toNatClampNeg)) - l5)) ap))))
set_option maxHeartbeats 4000000 in
set_option maxRecDepth 100000 in
theorem bX7_resolves_73 {p : Program} {l : Launch} {e : Env} {s : State} {m : MethodId} {args : Array Value} {below : List Frame} {meth : Method} {c : Code} {D : va_G} {cI : Nat → ClassId} {e0 : Nat} {A : Nat → Prop} {ad : Nat → Nat → Nat} {K : KS} {o : Int64} {od : UInt64} {mc ms : Nat} {post : Int32 → KS → Int64 → Prop} {bk2 : Int32 → Int32 → KS → Int64 → Prop} (S : CallFix p m c cX7_resolves 8 s args WU RX7) (hg : GI D cI e0 A s s.heap) (hr : meth.sig.returnType = (some FieldType.boolean)) (hlk : meth.locks = false) (hout : ∀ x ∈ c.exceptionTable.toList, False) (hbk2 : ∀ {H : Heap} {locs : List Loc} {ls : Array Slot} {l1 : Int32} {l2 : Int32} {M : KS} {ap : Int64}, va_S A s.heap H locs → HT D cI e0 A ad K M ap o od H → lv_has ls 8 [(0, .ref (ad 3 0)), (1, .int l1), (2, .int l2)] → bk2 l1 l2 M ap → W p l e ({ frames := 0, cells := mc, slots := ms, locals := 0 } : Room) s m args below meth c H locs 0 0 (MQQ below (qM D cI e0 A ad K o od rI post) xN args s mc ms A) (F0 m 2 ls [])) {H : Heap} {locs : List Loc} {ls : Array Slot} {l1 : Int32} {l4 : Int32} {l5 : Int32} {l6 : Int32} {t0 : Int32} {M : KS} {ap : Int64} (hS : va_S A s.heap H locs) (hw : HT D cI e0 A ad K M ap o od H) (hl : lv_has ls 8 [(0, .ref (ad 3 0)), (1, .int l1), (4, .int l4), (5, .int l5), (6, .int l6)]) (h : wX7_resolves_73 post bk2 l1 l4 l5 l6 t0 M ap) : W p l e ({ frames := 0, cells := mc, slots := ms, locals := 0 } : Room) s m args below meth c H locs 0 0 (MQQ below (qM D cI e0 A ad K o od rI post) xN args s mc ms A) (F0 m 73 ls [.int t0]) := by
  unfold wX7_resolves_73 at h
  refine lv_istore_n (lv' := [(2, .int t0), (0, .ref (ad 3 0)), (1, .int l1), (4, .int l4), (5, .int l5), (6, .int l6)]) S.1 S.2.1 dX7_resolves_73 rfl hl (by decide) rfl (fun ls hl => ?_)
  refine lv_iload S.1 S.2.1 dX7_resolves_74 (lv_at hl 5 rfl) ?_
  refine lv_if_ne (tgt := 100) S.1 S.2.1 dX7_resolves_76 (by decide) (fun c7 => ?_) (fun c7 => ?_)
  · have h := h.1 c7
    refine lv_iload S.1 S.2.1 dX7_resolves_100 (lv_at hl 5 rfl) ?_
    refine lv_iconst (v := 1) S.1 S.2.1 dX7_resolves_102 (by decide) ?_
    refine lv_icmp_ne (tgt := 150) S.1 S.2.1 dX7_resolves_103 (by decide) (fun c8 => ?_) (fun c8 => ?_)
    · have h := h.1 c8
      refine lv_iload S.1 S.2.1 dX7_resolves_150 (lv_at hl 5 rfl) ?_
      refine lv_iconst (v := 2) S.1 S.2.1 dX7_resolves_152 (by decide) ?_
      refine lv_icmp_ne (tgt := 175) S.1 S.2.1 dX7_resolves_153 (by decide) (fun c9 => ?_) (fun c9 => ?_)
      · have h := h.1 c9
        have hl := lv_sub hl (l' := [(0, .ref (ad 3 0)), (1, .int l1), (2, .int t0)]) [1, 2, 0] rfl
        exact bX7_resolves_175 S hg hr hlk hout hbk2 hS hw hl h
      · have h := h.2 c9
        refine lv_aload_n S.1 S.2.1 dX7_resolves_156 rfl (lv_at hl 1 rfl) ?_
        refine g3_24 S hg hw u1068 dX7_resolves_157 ?_
        refine lv_iload_n S.1 S.2.1 dX7_resolves_160 rfl (lv_at hl 2 rfl) ?_
        obtain ⟨g16, h⟩ := h
        refine a16 S hg hw rfl g16 dX7_resolves_161 ?_
        refine lv_if_le (tgt := 175) S.1 S.2.1 dX7_resolves_162 (by decide) (fun c17 => ?_) (fun c17 => ?_)
        · have h := h.1 c17
          have hl := lv_sub hl (l' := [(0, .ref (ad 3 0)), (1, .int l1), (2, .int t0)]) [1, 2, 0] rfl
          exact bX7_resolves_175 S hg hr hlk hout hbk2 hS hw hl h
        · have h := h.2 c17
          refine lv_aload_n S.1 S.2.1 dX7_resolves_165 rfl (lv_at hl 1 rfl) ?_
          refine g3_24 S hg hw u1068 dX7_resolves_166 ?_
          refine lv_iload_n S.1 S.2.1 dX7_resolves_169 rfl (lv_at hl 2 rfl) ?_
          refine lv_dup2_11 S.1 S.2.1 dX7_resolves_170 rfl rfl ?_
          refine a16 S hg hw rfl g16 dX7_resolves_171 ?_
          refine lv_iconst (v := 1) S.1 S.2.1 dX7_resolves_172 (by decide) ?_
          refine lv_isub S.1 S.2.1 dX7_resolves_173 ?_
          refine s16 S hg hS hw rfl g16 dX7_resolves_174 (fun H locs hw hS => ?_)
          have hl := lv_sub hl (l' := [(0, .ref (ad 3 0)), (1, .int l1), (2, .int t0)]) [1, 2, 0] rfl
          exact bX7_resolves_175 S hg hr hlk hout hbk2 hS hw hl h
    · have h := h.2 c8
      refine lv_aload_n S.1 S.2.1 dX7_resolves_106 rfl (lv_at hl 1 rfl) ?_
      refine g3_18 S hg hw u1062 dX7_resolves_107 ?_
      refine lv_iconst (v := 2) S.1 S.2.1 dX7_resolves_110 (by decide) ?_
      refine lv_iload_n S.1 S.2.1 dX7_resolves_111 rfl (lv_at hl 2 rfl) ?_
      refine lv_imul S.1 S.2.1 dX7_resolves_112 ?_
      refine lv_iload S.1 S.2.1 dX7_resolves_113 (lv_at hl 3 rfl) ?_
      refine lv_iadd S.1 S.2.1 dX7_resolves_115 ?_
      obtain ⟨g18, h⟩ := h
      refine a16 S hg hw rfl g18 dX7_resolves_116 ?_
      refine lv_iload S.1 S.2.1 dX7_resolves_117 (lv_at hl 4 rfl) ?_
      refine lv_iadd S.1 S.2.1 dX7_resolves_119 ?_
      refine lv_topi (fun x19 ex19 => ?_)
      have h := h x19 ex19
      refine lv_istore (lv' := [(7, .int x19), (2, .int t0), (0, .ref (ad 3 0)), (1, .int l1), (4, .int l4), (5, .int l5), (6, .int l6)]) S.1 S.2.1 dX7_resolves_120 hl (by decide) rfl (fun ls hl => ?_)
      refine lv_aload_n S.1 S.2.1 dX7_resolves_122 rfl (lv_at hl 2 rfl) ?_
      refine g3_18 S hg hw u1062 dX7_resolves_123 ?_
      refine lv_iconst (v := 2) S.1 S.2.1 dX7_resolves_126 (by decide) ?_
      refine lv_iload_n S.1 S.2.1 dX7_resolves_127 rfl (lv_at hl 3 rfl) ?_
      refine lv_imul S.1 S.2.1 dX7_resolves_128 ?_
      refine lv_iload S.1 S.2.1 dX7_resolves_129 (lv_at hl 4 rfl) ?_
      refine lv_iadd S.1 S.2.1 dX7_resolves_131 ?_
      refine lv_iload S.1 S.2.1 dX7_resolves_132 (lv_at hl 0 rfl) ?_
      refine lv_bipush (v := 20) S.1 S.2.1 dX7_resolves_134 (by decide) ?_
      refine lv_icmp_le (tgt := 144) S.1 S.2.1 dX7_resolves_136 (by decide) (fun c20 => ?_) (fun c20 => ?_)
      · have h := h.1 c20
        refine lv_iload S.1 S.2.1 dX7_resolves_144 (lv_at hl 0 rfl) ?_
        have hl := lv_sub hl (l' := [(0, .ref (ad 3 0)), (1, .int l1), (2, .int t0)]) [2, 3, 1] rfl
        exact bX7_resolves_146 S hg hr hlk hout hbk2 hS hw hl h
      · have h := h.2 c20
        refine lv_bipush (v := 20) S.1 S.2.1 dX7_resolves_139 (by decide) ?_
        refine lv_goto (tgt := 146) S.1 S.2.1 dX7_resolves_141 (by decide) ?_
        have hl := lv_sub hl (l' := [(0, .ref (ad 3 0)), (1, .int l1), (2, .int t0)]) [2, 3, 1] rfl
        exact bX7_resolves_146 S hg hr hlk hout hbk2 hS hw hl h
  · have h := h.2 c7
    refine lv_aload_n S.1 S.2.1 dX7_resolves_79 rfl (lv_at hl 1 rfl) ?_
    refine g3_18 S hg hw u1062 dX7_resolves_80 ?_
    refine lv_iconst (v := 2) S.1 S.2.1 dX7_resolves_83 (by decide) ?_
    refine lv_iload_n S.1 S.2.1 dX7_resolves_84 rfl (lv_at hl 2 rfl) ?_
    refine lv_imul S.1 S.2.1 dX7_resolves_85 ?_
    refine lv_iconst (v := 1) S.1 S.2.1 dX7_resolves_86 (by decide) ?_
    refine lv_iadd S.1 S.2.1 dX7_resolves_87 ?_
    refine lv_iload S.1 S.2.1 dX7_resolves_88 (lv_at hl 3 rfl) ?_
    refine lv_isub S.1 S.2.1 dX7_resolves_90 ?_
    refine lv_dup2_11 S.1 S.2.1 dX7_resolves_91 rfl rfl ?_
    obtain ⟨g22, h⟩ := h
    refine a16 S hg hw rfl g22 dX7_resolves_92 ?_
    refine lv_iload S.1 S.2.1 dX7_resolves_93 (lv_at hl 4 rfl) ?_
    refine lv_isub S.1 S.2.1 dX7_resolves_95 ?_
    refine s16 S hg hS hw rfl g22 dX7_resolves_96 (fun H locs hw hS => ?_)
    refine lv_goto (tgt := 175) S.1 S.2.1 dX7_resolves_97 (by decide) ?_
    have hl := lv_sub hl (l' := [(0, .ref (ad 3 0)), (1, .int l1), (2, .int t0)]) [1, 2, 0] rfl
    exact bX7_resolves_175 S hg hr hlk hout hbk2 hS hw hl h
def wX7_resolves_2 (post : Int32 → KS → Int64 → Prop) : Nat → Int32 → Int32 → KS → Int64 → Prop
  | 0 => fun _ _ _ _ => False
  | n + 1 => fun l1 l2 M ap => (vp_in l1 8) ∧ ((((M 16 24 l1.toNatClampNeg) ≤ 0 → (post 0 M ap)) ∧ (¬ (M 16 24 l1.toNatClampNeg) ≤ 0 → ((vp_in ((16 * l1) + ((k3 M 16 24 l1.toNatClampNeg ((M 16 24 l1.toNatClampNeg) - 1)) 16 24 l1.toNatClampNeg)) 128) ∧ (∀ x4 : Int32, x4 = (k3 M 16 24 l1.toNatClampNeg ((M 16 24 l1.toNatClampNeg) - 1)) 16 25 (((16 * l1) + ((k3 M 16 24 l1.toNatClampNeg ((M 16 24 l1.toNatClampNeg) - 1)) 16 24 l1.toNatClampNeg)).toNatClampNeg) → (∀ x5 : Int32, x5 = (x4 / 10) - (x4 / 10) / 10 * 10 → (((¬ x5 = 3 → (wX7_resolves_73 post (wX7_resolves_2 post n) l1 (x4 / 100) ((x4 - x4 / 10 * 10) + l2) x5 0 (k3 M 16 24 l1.toNatClampNeg ((M 16 24 l1.toNatClampNeg) - 1)) ap)) ∧ (x5 = 3 → (wX7_resolves_73 post (wX7_resolves_2 post n) l1 (x4 / 100) ((x4 - x4 / 10 * 10) + l2) x5 ((x4 - x4 / 10 * 10) + l2) (k3 M 16 24 l1.toNatClampNeg ((M 16 24 l1.toNatClampNeg) - 1)) ap))))))))))
set_option maxHeartbeats 4000000 in
set_option maxRecDepth 100000 in
theorem bX7_resolves_2 {p : Program} {l : Launch} {e : Env} {s : State} {m : MethodId} {args : Array Value} {below : List Frame} {meth : Method} {c : Code} {D : va_G} {cI : Nat → ClassId} {e0 : Nat} {A : Nat → Prop} {ad : Nat → Nat → Nat} {K : KS} {o : Int64} {od : UInt64} {mc ms : Nat} {post : Int32 → KS → Int64 → Prop} (S : CallFix p m c cX7_resolves 8 s args WU RX7) (hg : GI D cI e0 A s s.heap) (hr : meth.sig.returnType = (some FieldType.boolean)) (hlk : meth.locks = false) (hout : ∀ x ∈ c.exceptionTable.toList, False) : ∀ n : Nat, ∀ {H : Heap} {locs : List Loc} {ls : Array Slot} {l1 : Int32} {l2 : Int32} {M : KS} {ap : Int64}, va_S A s.heap H locs → HT D cI e0 A ad K M ap o od H → lv_has ls 8 [(0, .ref (ad 3 0)), (1, .int l1), (2, .int l2)] → wX7_resolves_2 post n l1 l2 M ap → W p l e ({ frames := 0, cells := mc, slots := ms, locals := 0 } : Room) s m args below meth c H locs 0 0 (MQQ below (qM D cI e0 A ad K o od rI post) xN args s mc ms A) (F0 m 2 ls []) := by
  intro n
  induction n with
  | zero => intros; exact False.elim (by assumption)
  | succ n ih =>
    intro H locs ls l1 l2 M ap hS hw hl h
    unfold wX7_resolves_2 at h
    refine lv_aload_n S.1 S.2.1 dX7_resolves_2 rfl (lv_at hl 0 rfl) ?_
    refine g3_24 S hg hw u1068 dX7_resolves_3 ?_
    refine lv_iload_n S.1 S.2.1 dX7_resolves_6 rfl (lv_at hl 1 rfl) ?_
    obtain ⟨g1, h⟩ := h
    refine a16 S hg hw rfl g1 dX7_resolves_7 ?_
    refine lv_if_le (tgt := 211) S.1 S.2.1 dX7_resolves_8 (by decide) (fun c2 => ?_) (fun c2 => ?_)
    · have h := h.1 c2
      refine lv_iconst (v := 0) S.1 S.2.1 dX7_resolves_211 (by decide) ?_
      exact r_iret (y := yX7_resolves) S hr rfl hlk hS (by omega) (by omega) dX7_resolves_212 ⟨0, _, _, rfl, h, hw⟩
    · have h := h.2 c2
      refine lv_aload_n S.1 S.2.1 dX7_resolves_11 rfl (lv_at hl 0 rfl) ?_
      refine g3_24 S hg hw u1068 dX7_resolves_12 ?_
      refine lv_iload_n S.1 S.2.1 dX7_resolves_15 rfl (lv_at hl 1 rfl) ?_
      refine lv_dup2_11 S.1 S.2.1 dX7_resolves_16 rfl rfl ?_
      refine a16 S hg hw rfl g1 dX7_resolves_17 ?_
      refine lv_iconst (v := 1) S.1 S.2.1 dX7_resolves_18 (by decide) ?_
      refine lv_isub S.1 S.2.1 dX7_resolves_19 ?_
      refine s16 S hg hS hw rfl g1 dX7_resolves_20 (fun H locs hw hS => ?_)
      refine lv_aload_n S.1 S.2.1 dX7_resolves_21 rfl (lv_at hl 0 rfl) ?_
      refine g3_25 S hg hw u1069 dX7_resolves_22 ?_
      refine lv_bipush (v := 16) S.1 S.2.1 dX7_resolves_25 (by decide) ?_
      refine lv_iload_n S.1 S.2.1 dX7_resolves_27 rfl (lv_at hl 1 rfl) ?_
      refine lv_imul S.1 S.2.1 dX7_resolves_28 ?_
      refine lv_aload_n S.1 S.2.1 dX7_resolves_29 rfl (lv_at hl 0 rfl) ?_
      refine g3_24 S hg hw u1068 dX7_resolves_30 ?_
      refine lv_iload_n S.1 S.2.1 dX7_resolves_33 rfl (lv_at hl 1 rfl) ?_
      refine a16 S hg hw rfl g1 dX7_resolves_34 ?_
      refine lv_iadd S.1 S.2.1 dX7_resolves_35 ?_
      obtain ⟨g3, h⟩ := h
      refine a16 S hg hw rfl g3 dX7_resolves_36 ?_
      refine lv_topi (fun x4 ex4 => ?_)
      have h := h x4 ex4
      refine lv_istore_n (lv' := [(3, .int x4), (0, .ref (ad 3 0)), (1, .int l1), (2, .int l2)]) S.1 S.2.1 dX7_resolves_37 rfl hl (by decide) rfl (fun ls hl => ?_)
      refine lv_iload_n S.1 S.2.1 dX7_resolves_38 rfl (lv_at hl 0 rfl) ?_
      refine lv_bipush (v := 100) S.1 S.2.1 dX7_resolves_39 (by decide) ?_
      refine lv_idiv S.1 S.2.1 dX7_resolves_41 (by decide) ?_
      refine lv_istore (lv' := [(4, .int (x4 / 100)), (3, .int x4), (0, .ref (ad 3 0)), (1, .int l1), (2, .int l2)]) S.1 S.2.1 dX7_resolves_42 hl (by decide) rfl (fun ls hl => ?_)
      refine lv_iload_n S.1 S.2.1 dX7_resolves_44 rfl (lv_at hl 1 rfl) ?_
      refine lv_bipush (v := 10) S.1 S.2.1 dX7_resolves_45 (by decide) ?_
      refine lv_irem S.1 S.2.1 dX7_resolves_47 (by decide) ?_
      refine lv_iload_n S.1 S.2.1 dX7_resolves_48 rfl (lv_at hl 4 rfl) ?_
      refine lv_iadd S.1 S.2.1 dX7_resolves_49 ?_
      refine lv_istore (lv' := [(5, .int ((x4 - x4 / 10 * 10) + l2)), (4, .int (x4 / 100)), (3, .int x4), (0, .ref (ad 3 0)), (1, .int l1), (2, .int l2)]) S.1 S.2.1 dX7_resolves_50 hl (by decide) rfl (fun ls hl => ?_)
      refine lv_iload_n S.1 S.2.1 dX7_resolves_52 rfl (lv_at hl 2 rfl) ?_
      refine lv_bipush (v := 10) S.1 S.2.1 dX7_resolves_53 (by decide) ?_
      refine lv_idiv S.1 S.2.1 dX7_resolves_55 (by decide) ?_
      refine lv_bipush (v := 10) S.1 S.2.1 dX7_resolves_56 (by decide) ?_
      refine lv_irem S.1 S.2.1 dX7_resolves_58 (by decide) ?_
      refine lv_topi (fun x5 ex5 => ?_)
      have h := h x5 ex5
      refine lv_istore (lv' := [(6, .int x5), (5, .int ((x4 - x4 / 10 * 10) + l2)), (4, .int (x4 / 100)), (3, .int x4), (0, .ref (ad 3 0)), (1, .int l1), (2, .int l2)]) S.1 S.2.1 dX7_resolves_59 hl (by decide) rfl (fun ls hl => ?_)
      refine lv_iload S.1 S.2.1 dX7_resolves_61 (lv_at hl 0 rfl) ?_
      refine lv_iconst (v := 3) S.1 S.2.1 dX7_resolves_63 (by decide) ?_
      refine lv_icmp_ne (tgt := 72) S.1 S.2.1 dX7_resolves_64 (by decide) (fun c6 => ?_) (fun c6 => ?_)
      · have h := h.1 c6
        refine lv_iconst (v := 0) S.1 S.2.1 dX7_resolves_72 (by decide) ?_
        have hl := lv_sub hl (l' := [(0, .ref (ad 3 0)), (1, .int l1), (4, .int (x4 / 100)), (5, .int ((x4 - x4 / 10 * 10) + l2)), (6, .int x5)]) [4, 5, 2, 1, 0] rfl
        exact bX7_resolves_73 S hg hr hlk hout ih hS hw hl h
      · have h := h.2 c6
        refine lv_iload S.1 S.2.1 dX7_resolves_67 (lv_at hl 1 rfl) ?_
        refine lv_goto (tgt := 73) S.1 S.2.1 dX7_resolves_69 (by decide) ?_
        have hl := lv_sub hl (l' := [(0, .ref (ad 3 0)), (1, .int l1), (4, .int (x4 / 100)), (5, .int ((x4 - x4 / 10 * 10) + l2)), (6, .int x5)]) [4, 5, 2, 1, 0] rfl
        exact bX7_resolves_73 S hg hr hlk hout ih hS hw hl h
def wpX7_resolves (post : Int32 → KS → Int64 → Prop) (M : KS) (ap : Int64) (p1 : Int32) : Prop := ∃ n1 : Nat, wX7_resolves_2 post n1 p1 0 M ap
theorem hdX7_resolves : yX7_resolves.cls ≠ "java/lang/invoke/MethodHandle" ∧ yX7_resolves.cls ≠ "java/lang/invoke/VarHandle" ∧ (parseMethodDescriptor yX7_resolves.desc).map (fun d => d.parameters.length) = some 1 := by decide +kernel
set_option maxHeartbeats 4000000 in
set_option maxRecDepth 100000 in
theorem mtX7_resolves {l : Launch} {D : va_G} {cI : Nat → ClassId} {e0 : Nat} {A : Nat → Prop} {ad : Nat → Nat → Nat} {K M : KS} {ap o : Int64} {od : UInt64} {mc ms : Nat} {p1 : Int32} {post : Int32 → KS → Int64 → Prop} (h : wpX7_resolves post M ap p1) : CM l D cI e0 A yX7_resolves cX7_resolves 8 (some FieldType.boolean) 0 0 mc ms [.ref (ad 3 0), .int p1] (HT D cI e0 A ad K M ap o od) (qM D cI e0 A ad K o od rI post) xN := by
  refine CM.of (by decide) (Nat.le_of_ble_eq_true rfl) (fun p e s m below meth c ls FX hw hS hl => ?_)
  obtain ⟨S, hg, hr, hlk, hnm, hout⟩ := FX
  have hl : lv_has ls 8 [(0, .ref (ad 3 0)), (1, .int p1)] := hl
  unfold wpX7_resolves at h
  refine lv_iconst (v := 0) S.1 S.2.1 dX7_resolves_0 (by decide) ?_
  refine lv_istore_n (lv' := [(2, .int 0), (0, .ref (ad 3 0)), (1, .int p1)]) S.1 S.2.1 dX7_resolves_1 rfl hl (by decide) rfl (fun ls hl => ?_)
  have hl := lv_sub hl (l' := [(0, .ref (ad 3 0)), (1, .int p1), (2, .int 0)]) [1, 2, 0] rfl
  obtain ⟨n1, h⟩ := h
  exact bX7_resolves_2 S hg hr hlk hout n1 hS hw hl h

-- X7.areAllPlayed
theorem dX7_areAllPlayed_0 : decode cX7_areAllPlayed 0 = .ok (.iconst 0, 1) := by decide +kernel
theorem dX7_areAllPlayed_1 : decode cX7_areAllPlayed 1 = .ok (.istore_n 2, 1) := by decide +kernel
theorem dX7_areAllPlayed_2 : decode cX7_areAllPlayed 2 = .ok (.iload_n 2, 1) := by decide +kernel
theorem dX7_areAllPlayed_3 : decode cX7_areAllPlayed 3 = .ok (.iconst 2, 1) := by decide +kernel
theorem dX7_areAllPlayed_4 : decode cX7_areAllPlayed 4 = .ok (.if_icmp .ge 51, 3) := by decide +kernel
theorem dX7_areAllPlayed_7 : decode cX7_areAllPlayed 7 = .ok (.iconst 0, 1) := by decide +kernel
theorem dX7_areAllPlayed_8 : decode cX7_areAllPlayed 8 = .ok (.istore_n 3, 1) := by decide +kernel
theorem dX7_areAllPlayed_9 : decode cX7_areAllPlayed 9 = .ok (.iload_n 3, 1) := by decide +kernel
theorem dX7_areAllPlayed_10 : decode cX7_areAllPlayed 10 = .ok (.aload_n 0, 1) := by decide +kernel
theorem dX7_areAllPlayed_11 : decode cX7_areAllPlayed 11 = .ok (.getfield 53, 3) := by decide +kernel
theorem dX7_areAllPlayed_14 : decode cX7_areAllPlayed 14 = .ok (.iconst 2, 1) := by decide +kernel
theorem dX7_areAllPlayed_15 : decode cX7_areAllPlayed 15 = .ok (.iload_n 1, 1) := by decide +kernel
theorem dX7_areAllPlayed_16 : decode cX7_areAllPlayed 16 = .ok (.imul, 1) := by decide +kernel
theorem dX7_areAllPlayed_17 : decode cX7_areAllPlayed 17 = .ok (.iload_n 2, 1) := by decide +kernel
theorem dX7_areAllPlayed_18 : decode cX7_areAllPlayed 18 = .ok (.iadd, 1) := by decide +kernel
theorem dX7_areAllPlayed_19 : decode cX7_areAllPlayed 19 = .ok (.iaload, 1) := by decide +kernel
theorem dX7_areAllPlayed_20 : decode cX7_areAllPlayed 20 = .ok (.if_icmp .ge 29, 3) := by decide +kernel
theorem dX7_areAllPlayed_23 : decode cX7_areAllPlayed 23 = .ok (.aload_n 0, 1) := by decide +kernel
theorem dX7_areAllPlayed_24 : decode cX7_areAllPlayed 24 = .ok (.getfield 59, 3) := by decide +kernel
theorem dX7_areAllPlayed_27 : decode cX7_areAllPlayed 27 = .ok (.bipush 8, 2) := by decide +kernel
theorem dX7_areAllPlayed_29 : decode cX7_areAllPlayed 29 = .ok (.iconst 2, 1) := by decide +kernel
theorem dX7_areAllPlayed_30 : decode cX7_areAllPlayed 30 = .ok (.iload_n 1, 1) := by decide +kernel
theorem dX7_areAllPlayed_31 : decode cX7_areAllPlayed 31 = .ok (.imul, 1) := by decide +kernel
theorem dX7_areAllPlayed_32 : decode cX7_areAllPlayed 32 = .ok (.iload_n 2, 1) := by decide +kernel
theorem dX7_areAllPlayed_33 : decode cX7_areAllPlayed 33 = .ok (.iadd, 1) := by decide +kernel
theorem dX7_areAllPlayed_34 : decode cX7_areAllPlayed 34 = .ok (.imul, 1) := by decide +kernel
theorem dX7_areAllPlayed_35 : decode cX7_areAllPlayed 35 = .ok (.iload_n 3, 1) := by decide +kernel
theorem dX7_areAllPlayed_36 : decode cX7_areAllPlayed 36 = .ok (.iadd, 1) := by decide +kernel
theorem dX7_areAllPlayed_37 : decode cX7_areAllPlayed 37 = .ok (.iaload, 1) := by decide +kernel
theorem dX7_areAllPlayed_38 : decode cX7_areAllPlayed 38 = .ok (.ifCond .ne 5, 3) := by decide +kernel
theorem dX7_areAllPlayed_41 : decode cX7_areAllPlayed 41 = .ok (.iconst 0, 1) := by decide +kernel
theorem dX7_areAllPlayed_42 : decode cX7_areAllPlayed 42 = .ok (.ireturn, 1) := by decide +kernel
theorem dX7_areAllPlayed_43 : decode cX7_areAllPlayed 43 = .ok (.iinc 3 1, 3) := by decide +kernel
theorem dX7_areAllPlayed_46 : decode cX7_areAllPlayed 46 = .ok (.goto (-37), 3) := by decide +kernel
theorem dX7_areAllPlayed_49 : decode cX7_areAllPlayed 49 = .ok (.iinc 2 1, 3) := by decide +kernel
theorem dX7_areAllPlayed_52 : decode cX7_areAllPlayed 52 = .ok (.goto (-50), 3) := by decide +kernel
theorem dX7_areAllPlayed_55 : decode cX7_areAllPlayed 55 = .ok (.iconst 1, 1) := by decide +kernel
theorem dX7_areAllPlayed_56 : decode cX7_areAllPlayed 56 = .ok (.ireturn, 1) := by decide +kernel
def wX7_areAllPlayed_9 (post : Int32 → Prop) (bk2 : Int32 → Int32 → KS → Int64 → Prop) : Nat → Int32 → Int32 → Int32 → KS → Int64 → Prop
  | 0 => fun _ _ _ _ _ => False
  | n + 1 => fun l1 l2 l3 M ap => (vp_in ((2 * l1) + l2) 16) ∧ ((((M 16 21 (((2 * l1) + l2).toNatClampNeg)) ≤ l3 → (bk2 l1 (l2 + 1) M ap)) ∧ (¬ (M 16 21 (((2 * l1) + l2).toNatClampNeg)) ≤ l3 → ((vp_in ((8 * ((2 * l1) + l2)) + l3) 128) ∧ (((¬ (M 16 23 (((8 * ((2 * l1) + l2)) + l3).toNatClampNeg)) = 0 → (wX7_areAllPlayed_9 post bk2 n l1 l2 (l3 + 1) M ap)) ∧ ((M 16 23 (((8 * ((2 * l1) + l2)) + l3).toNatClampNeg)) = 0 → (post 0))))))))
set_option maxHeartbeats 4000000 in
set_option maxRecDepth 100000 in
theorem bX7_areAllPlayed_9 {p : Program} {l : Launch} {e : Env} {s : State} {m : MethodId} {args : Array Value} {below : List Frame} {meth : Method} {c : Code} {D : va_G} {cI : Nat → ClassId} {e0 : Nat} {A : Nat → Prop} {ad : Nat → Nat → Nat} {K : KS} {o : Int64} {od : UInt64} {mc ms : Nat} {M : KS} {ap : Int64} {post : Int32 → Prop} {bk2 : Int32 → Int32 → KS → Int64 → Prop} (S : CallFix p m c cX7_areAllPlayed 4 s args WU RX7) (hg : GI D cI e0 A s s.heap) (hr : meth.sig.returnType = (some FieldType.boolean)) (hlk : meth.locks = false) (hout : ∀ x ∈ c.exceptionTable.toList, False) (hbk2 : ∀ {H : Heap} {locs : List Loc} {ls : Array Slot} {l1 : Int32} {l2 : Int32}, va_S A s.heap H locs → HT D cI e0 A ad K M ap o od H → lv_has ls 4 [(0, .ref (ad 3 0)), (1, .int l1), (2, .int l2)] → bk2 l1 l2 M ap → W p l e ({ frames := 0, cells := mc, slots := ms, locals := 0 } : Room) s m args below meth c H locs 0 0 (MQQ below (qP D cI e0 A ad K M ap o od rI post) xN args s mc ms A) (F0 m 2 ls [])) : ∀ n : Nat, ∀ {H : Heap} {locs : List Loc} {ls : Array Slot} {l1 : Int32} {l2 : Int32} {l3 : Int32}, va_S A s.heap H locs → HT D cI e0 A ad K M ap o od H → lv_has ls 4 [(0, .ref (ad 3 0)), (1, .int l1), (2, .int l2), (3, .int l3)] → wX7_areAllPlayed_9 post bk2 n l1 l2 l3 M ap → W p l e ({ frames := 0, cells := mc, slots := ms, locals := 0 } : Room) s m args below meth c H locs 0 0 (MQQ below (qP D cI e0 A ad K M ap o od rI post) xN args s mc ms A) (F0 m 9 ls []) := by
  intro n
  induction n with
  | zero => intros; exact False.elim (by assumption)
  | succ n ih =>
    intro H locs ls l1 l2 l3 hS hw hl h
    unfold wX7_areAllPlayed_9 at h
    refine lv_iload_n S.1 S.2.1 dX7_areAllPlayed_9 rfl (lv_at hl 3 rfl) ?_
    refine lv_aload_n S.1 S.2.1 dX7_areAllPlayed_10 rfl (lv_at hl 0 rfl) ?_
    refine g3_21 S hg hw u1065 dX7_areAllPlayed_11 ?_
    refine lv_iconst (v := 2) S.1 S.2.1 dX7_areAllPlayed_14 (by decide) ?_
    refine lv_iload_n S.1 S.2.1 dX7_areAllPlayed_15 rfl (lv_at hl 1 rfl) ?_
    refine lv_imul S.1 S.2.1 dX7_areAllPlayed_16 ?_
    refine lv_iload_n S.1 S.2.1 dX7_areAllPlayed_17 rfl (lv_at hl 2 rfl) ?_
    refine lv_iadd S.1 S.2.1 dX7_areAllPlayed_18 ?_
    obtain ⟨g2, h⟩ := h
    refine a16 S hg hw rfl g2 dX7_areAllPlayed_19 ?_
    refine lv_icmp_ge (tgt := 49) S.1 S.2.1 dX7_areAllPlayed_20 (by decide) (fun c3 => ?_) (fun c3 => ?_)
    · have h := h.1 c3
      refine lv_iinc (v := l2 + 1) (lv' := [(2, .int (l2 + 1)), (0, .ref (ad 3 0)), (1, .int l1), (3, .int l3)]) S.1 S.2.1 dX7_areAllPlayed_49 hl (k := 2) rfl rfl (by decide) rfl (fun ls hl => ?_)
      refine lv_goto (tgt := 2) S.1 S.2.1 dX7_areAllPlayed_52 (by decide) ?_
      have hl := lv_sub hl (l' := [(0, .ref (ad 3 0)), (1, .int l1), (2, .int (l2 + 1))]) [1, 2, 0] rfl
      exact hbk2 hS hw hl h
    · have h := h.2 c3
      refine lv_aload_n S.1 S.2.1 dX7_areAllPlayed_23 rfl (lv_at hl 0 rfl) ?_
      refine g3_23 S hg hw u1067 dX7_areAllPlayed_24 ?_
      refine lv_bipush (v := 8) S.1 S.2.1 dX7_areAllPlayed_27 (by decide) ?_
      refine lv_iconst (v := 2) S.1 S.2.1 dX7_areAllPlayed_29 (by decide) ?_
      refine lv_iload_n S.1 S.2.1 dX7_areAllPlayed_30 rfl (lv_at hl 1 rfl) ?_
      refine lv_imul S.1 S.2.1 dX7_areAllPlayed_31 ?_
      refine lv_iload_n S.1 S.2.1 dX7_areAllPlayed_32 rfl (lv_at hl 2 rfl) ?_
      refine lv_iadd S.1 S.2.1 dX7_areAllPlayed_33 ?_
      refine lv_imul S.1 S.2.1 dX7_areAllPlayed_34 ?_
      refine lv_iload_n S.1 S.2.1 dX7_areAllPlayed_35 rfl (lv_at hl 3 rfl) ?_
      refine lv_iadd S.1 S.2.1 dX7_areAllPlayed_36 ?_
      obtain ⟨g4, h⟩ := h
      refine a16 S hg hw rfl g4 dX7_areAllPlayed_37 ?_
      refine lv_if_ne (tgt := 43) S.1 S.2.1 dX7_areAllPlayed_38 (by decide) (fun c5 => ?_) (fun c5 => ?_)
      · have h := h.1 c5
        refine lv_iinc (v := l3 + 1) (lv' := [(3, .int (l3 + 1)), (0, .ref (ad 3 0)), (1, .int l1), (2, .int l2)]) S.1 S.2.1 dX7_areAllPlayed_43 hl (k := 3) rfl rfl (by decide) rfl (fun ls hl => ?_)
        refine lv_goto (tgt := 9) S.1 S.2.1 dX7_areAllPlayed_46 (by decide) ?_
        have hl := lv_sub hl (l' := [(0, .ref (ad 3 0)), (1, .int l1), (2, .int l2), (3, .int (l3 + 1))]) [1, 2, 3, 0] rfl
        exact ih hS hw hl h
      · have h := h.2 c5
        refine lv_iconst (v := 0) S.1 S.2.1 dX7_areAllPlayed_41 (by decide) ?_
        exact r_iret (y := yX7_areAllPlayed) S hr rfl hlk hS (by omega) (by omega) dX7_areAllPlayed_42 ⟨0, rfl, h, hw⟩
def wX7_areAllPlayed_2 (post : Int32 → Prop) : Nat → Int32 → Int32 → KS → Int64 → Prop
  | 0 => fun _ _ _ _ => False
  | n + 1 => fun l1 l2 M ap => ((2 ≤ l2 → (post 1)) ∧ (¬ 2 ≤ l2 → (∃ n1 : Nat, wX7_areAllPlayed_9 post (wX7_areAllPlayed_2 post n) n1 l1 l2 0 M ap)))
set_option maxHeartbeats 4000000 in
set_option maxRecDepth 100000 in
theorem bX7_areAllPlayed_2 {p : Program} {l : Launch} {e : Env} {s : State} {m : MethodId} {args : Array Value} {below : List Frame} {meth : Method} {c : Code} {D : va_G} {cI : Nat → ClassId} {e0 : Nat} {A : Nat → Prop} {ad : Nat → Nat → Nat} {K : KS} {o : Int64} {od : UInt64} {mc ms : Nat} {M : KS} {ap : Int64} {post : Int32 → Prop} (S : CallFix p m c cX7_areAllPlayed 4 s args WU RX7) (hg : GI D cI e0 A s s.heap) (hr : meth.sig.returnType = (some FieldType.boolean)) (hlk : meth.locks = false) (hout : ∀ x ∈ c.exceptionTable.toList, False) : ∀ n : Nat, ∀ {H : Heap} {locs : List Loc} {ls : Array Slot} {l1 : Int32} {l2 : Int32}, va_S A s.heap H locs → HT D cI e0 A ad K M ap o od H → lv_has ls 4 [(0, .ref (ad 3 0)), (1, .int l1), (2, .int l2)] → wX7_areAllPlayed_2 post n l1 l2 M ap → W p l e ({ frames := 0, cells := mc, slots := ms, locals := 0 } : Room) s m args below meth c H locs 0 0 (MQQ below (qP D cI e0 A ad K M ap o od rI post) xN args s mc ms A) (F0 m 2 ls []) := by
  intro n
  induction n with
  | zero => intros; exact False.elim (by assumption)
  | succ n ih =>
    intro H locs ls l1 l2 hS hw hl h
    unfold wX7_areAllPlayed_2 at h
    refine lv_iload_n S.1 S.2.1 dX7_areAllPlayed_2 rfl (lv_at hl 2 rfl) ?_
    refine lv_iconst (v := 2) S.1 S.2.1 dX7_areAllPlayed_3 (by decide) ?_
    refine lv_icmp_ge (tgt := 55) S.1 S.2.1 dX7_areAllPlayed_4 (by decide) (fun c1 => ?_) (fun c1 => ?_)
    · have h := h.1 c1
      refine lv_iconst (v := 1) S.1 S.2.1 dX7_areAllPlayed_55 (by decide) ?_
      exact r_iret (y := yX7_areAllPlayed) S hr rfl hlk hS (by omega) (by omega) dX7_areAllPlayed_56 ⟨1, rfl, h, hw⟩
    · have h := h.2 c1
      refine lv_iconst (v := 0) S.1 S.2.1 dX7_areAllPlayed_7 (by decide) ?_
      refine lv_istore_n (lv' := [(3, .int 0), (0, .ref (ad 3 0)), (1, .int l1), (2, .int l2)]) S.1 S.2.1 dX7_areAllPlayed_8 rfl hl (by decide) rfl (fun ls hl => ?_)
      have hl := lv_sub hl (l' := [(0, .ref (ad 3 0)), (1, .int l1), (2, .int l2), (3, .int 0)]) [1, 2, 3, 0] rfl
      obtain ⟨n1, h⟩ := h
      exact bX7_areAllPlayed_9 S hg hr hlk hout ih n1 hS hw hl h
def wpX7_areAllPlayed (post : Int32 → Prop) (M : KS) (ap : Int64) (p1 : Int32) : Prop := ∃ n1 : Nat, wX7_areAllPlayed_2 post n1 p1 0 M ap
theorem hdX7_areAllPlayed : yX7_areAllPlayed.cls ≠ "java/lang/invoke/MethodHandle" ∧ yX7_areAllPlayed.cls ≠ "java/lang/invoke/VarHandle" ∧ (parseMethodDescriptor yX7_areAllPlayed.desc).map (fun d => d.parameters.length) = some 1 := by decide +kernel
set_option maxHeartbeats 4000000 in
set_option maxRecDepth 100000 in
theorem mtX7_areAllPlayed {l : Launch} {D : va_G} {cI : Nat → ClassId} {e0 : Nat} {A : Nat → Prop} {ad : Nat → Nat → Nat} {K M : KS} {ap o : Int64} {od : UInt64} {mc ms : Nat} {p1 : Int32} {post : Int32 → Prop} (h : wpX7_areAllPlayed post M ap p1) : CM l D cI e0 A yX7_areAllPlayed cX7_areAllPlayed 4 (some FieldType.boolean) 0 0 mc ms [.ref (ad 3 0), .int p1] (HT D cI e0 A ad K M ap o od) (qP D cI e0 A ad K M ap o od rI post) xN := by
  refine CM.of (by decide) (Nat.le_of_ble_eq_true rfl) (fun p e s m below meth c ls FX hw hS hl => ?_)
  obtain ⟨S, hg, hr, hlk, hnm, hout⟩ := FX
  have hl : lv_has ls 4 [(0, .ref (ad 3 0)), (1, .int p1)] := hl
  unfold wpX7_areAllPlayed at h
  refine lv_iconst (v := 0) S.1 S.2.1 dX7_areAllPlayed_0 (by decide) ?_
  refine lv_istore_n (lv' := [(2, .int 0), (0, .ref (ad 3 0)), (1, .int p1)]) S.1 S.2.1 dX7_areAllPlayed_1 rfl hl (by decide) rfl (fun ls hl => ?_)
  have hl := lv_sub hl (l' := [(0, .ref (ad 3 0)), (1, .int p1), (2, .int 0)]) [1, 2, 0] rfl
  obtain ⟨n1, h⟩ := h
  exact bX7_areAllPlayed_2 S hg hr hlk hout n1 hS hw hl h

-- X7.ends
theorem dX7_ends_0 : decode cX7_ends 0 = .ok (.aload_n 0, 1) := by decide +kernel
theorem dX7_ends_1 : decode cX7_ends 1 = .ok (.getfield 44, 3) := by decide +kernel
theorem dX7_ends_4 : decode cX7_ends 4 = .ok (.iconst 2, 1) := by decide +kernel
theorem dX7_ends_5 : decode cX7_ends 5 = .ok (.iload_n 1, 1) := by decide +kernel
theorem dX7_ends_6 : decode cX7_ends 6 = .ok (.imul, 1) := by decide +kernel
theorem dX7_ends_7 : decode cX7_ends 7 = .ok (.iaload, 1) := by decide +kernel
theorem dX7_ends_8 : decode cX7_ends 8 = .ok (.istore_n 2, 1) := by decide +kernel
theorem dX7_ends_9 : decode cX7_ends 9 = .ok (.aload_n 0, 1) := by decide +kernel
theorem dX7_ends_10 : decode cX7_ends 10 = .ok (.getfield 44, 3) := by decide +kernel
theorem dX7_ends_13 : decode cX7_ends 13 = .ok (.iconst 2, 1) := by decide +kernel
theorem dX7_ends_14 : decode cX7_ends 14 = .ok (.iload_n 1, 1) := by decide +kernel
theorem dX7_ends_15 : decode cX7_ends 15 = .ok (.imul, 1) := by decide +kernel
theorem dX7_ends_16 : decode cX7_ends 16 = .ok (.iconst 1, 1) := by decide +kernel
theorem dX7_ends_17 : decode cX7_ends 17 = .ok (.iadd, 1) := by decide +kernel
theorem dX7_ends_18 : decode cX7_ends 18 = .ok (.iaload, 1) := by decide +kernel
theorem dX7_ends_19 : decode cX7_ends 19 = .ok (.istore_n 3, 1) := by decide +kernel
theorem dX7_ends_20 : decode cX7_ends 20 = .ok (.iload_n 2, 1) := by decide +kernel
theorem dX7_ends_21 : decode cX7_ends 21 = .ok (.iload_n 3, 1) := by decide +kernel
theorem dX7_ends_22 : decode cX7_ends 22 = .ok (.if_icmp .le 12, 3) := by decide +kernel
theorem dX7_ends_25 : decode cX7_ends 25 = .ok (.aload_n 0, 1) := by decide +kernel
theorem dX7_ends_26 : decode cX7_ends 26 = .ok (.getfield 32, 3) := by decide +kernel
theorem dX7_ends_29 : decode cX7_ends 29 = .ok (.iload_n 1, 1) := by decide +kernel
theorem dX7_ends_30 : decode cX7_ends 30 = .ok (.iaload, 1) := by decide +kernel
theorem dX7_ends_31 : decode cX7_ends 31 = .ok (.goto 18, 3) := by decide +kernel
theorem dX7_ends_34 : decode cX7_ends 34 = .ok (.iload_n 3, 1) := by decide +kernel
theorem dX7_ends_35 : decode cX7_ends 35 = .ok (.iload_n 2, 1) := by decide +kernel
theorem dX7_ends_36 : decode cX7_ends 36 = .ok (.if_icmp .le 12, 3) := by decide +kernel
theorem dX7_ends_39 : decode cX7_ends 39 = .ok (.aload_n 0, 1) := by decide +kernel
theorem dX7_ends_40 : decode cX7_ends 40 = .ok (.getfield 35, 3) := by decide +kernel
theorem dX7_ends_43 : decode cX7_ends 43 = .ok (.iload_n 1, 1) := by decide +kernel
theorem dX7_ends_44 : decode cX7_ends 44 = .ok (.iaload, 1) := by decide +kernel
theorem dX7_ends_45 : decode cX7_ends 45 = .ok (.goto 4, 3) := by decide +kernel
theorem dX7_ends_48 : decode cX7_ends 48 = .ok (.iconst (-1), 1) := by decide +kernel
theorem dX7_ends_49 : decode cX7_ends 49 = .ok (.istore 4, 2) := by decide +kernel
theorem dX7_ends_51 : decode cX7_ends 51 = .ok (.aload_n 0, 1) := by decide +kernel
theorem dX7_ends_52 : decode cX7_ends 52 = .ok (.getfield 41, 3) := by decide +kernel
theorem dX7_ends_55 : decode cX7_ends 55 = .ok (.iload_n 1, 1) := by decide +kernel
theorem dX7_ends_56 : decode cX7_ends 56 = .ok (.iload 4, 2) := by decide +kernel
theorem dX7_ends_58 : decode cX7_ends 58 = .ok (.iastore, 1) := by decide +kernel
theorem dX7_ends_59 : decode cX7_ends 59 = .ok (.aload_n 0, 1) := by decide +kernel
theorem dX7_ends_60 : decode cX7_ends 60 = .ok (.getfield 38, 3) := by decide +kernel
theorem dX7_ends_63 : decode cX7_ends 63 = .ok (.iload_n 1, 1) := by decide +kernel
theorem dX7_ends_64 : decode cX7_ends 64 = .ok (.bipush 101, 2) := by decide +kernel
theorem dX7_ends_66 : decode cX7_ends 66 = .ok (.castore, 1) := by decide +kernel
theorem dX7_ends_67 : decode cX7_ends 67 = .ok (.iconst 0, 1) := by decide +kernel
theorem dX7_ends_68 : decode cX7_ends 68 = .ok (.istore 5, 2) := by decide +kernel
theorem dX7_ends_70 : decode cX7_ends 70 = .ok (.iload 5, 2) := by decide +kernel
theorem dX7_ends_72 : decode cX7_ends 72 = .ok (.iconst 2, 1) := by decide +kernel
theorem dX7_ends_73 : decode cX7_ends 73 = .ok (.if_icmp .ge 95, 3) := by decide +kernel
theorem dX7_ends_76 : decode cX7_ends 76 = .ok (.iconst 0, 1) := by decide +kernel
theorem dX7_ends_77 : decode cX7_ends 77 = .ok (.istore 6, 2) := by decide +kernel
theorem dX7_ends_79 : decode cX7_ends 79 = .ok (.iload 6, 2) := by decide +kernel
theorem dX7_ends_81 : decode cX7_ends 81 = .ok (.aload_n 0, 1) := by decide +kernel
theorem dX7_ends_82 : decode cX7_ends 82 = .ok (.getfield 53, 3) := by decide +kernel
theorem dX7_ends_85 : decode cX7_ends 85 = .ok (.iconst 2, 1) := by decide +kernel
theorem dX7_ends_86 : decode cX7_ends 86 = .ok (.iload_n 1, 1) := by decide +kernel
theorem dX7_ends_87 : decode cX7_ends 87 = .ok (.imul, 1) := by decide +kernel
theorem dX7_ends_88 : decode cX7_ends 88 = .ok (.iload 5, 2) := by decide +kernel
theorem dX7_ends_90 : decode cX7_ends 90 = .ok (.iadd, 1) := by decide +kernel
theorem dX7_ends_91 : decode cX7_ends 91 = .ok (.iaload, 1) := by decide +kernel
theorem dX7_ends_92 : decode cX7_ends 92 = .ok (.if_icmp .ge 70, 3) := by decide +kernel
theorem dX7_ends_95 : decode cX7_ends 95 = .ok (.aload_n 0, 1) := by decide +kernel
theorem dX7_ends_96 : decode cX7_ends 96 = .ok (.getfield 56, 3) := by decide +kernel
theorem dX7_ends_99 : decode cX7_ends 99 = .ok (.bipush 8, 2) := by decide +kernel
theorem dX7_ends_101 : decode cX7_ends 101 = .ok (.iconst 2, 1) := by decide +kernel
theorem dX7_ends_102 : decode cX7_ends 102 = .ok (.iload_n 1, 1) := by decide +kernel
theorem dX7_ends_103 : decode cX7_ends 103 = .ok (.imul, 1) := by decide +kernel
theorem dX7_ends_104 : decode cX7_ends 104 = .ok (.iload 5, 2) := by decide +kernel
theorem dX7_ends_106 : decode cX7_ends 106 = .ok (.iadd, 1) := by decide +kernel
theorem dX7_ends_107 : decode cX7_ends 107 = .ok (.imul, 1) := by decide +kernel
theorem dX7_ends_108 : decode cX7_ends 108 = .ok (.iload 6, 2) := by decide +kernel
theorem dX7_ends_110 : decode cX7_ends 110 = .ok (.iadd, 1) := by decide +kernel
theorem dX7_ends_111 : decode cX7_ends 111 = .ok (.iaload, 1) := by decide +kernel
theorem dX7_ends_112 : decode cX7_ends 112 = .ok (.istore 7, 2) := by decide +kernel
theorem dX7_ends_114 : decode cX7_ends 114 = .ok (.aload_n 0, 1) := by decide +kernel
theorem dX7_ends_115 : decode cX7_ends 115 = .ok (.getfield 19, 3) := by decide +kernel
theorem dX7_ends_118 : decode cX7_ends 118 = .ok (.iload 7, 2) := by decide +kernel
theorem dX7_ends_120 : decode cX7_ends 120 = .ok (.bipush 119, 2) := by decide +kernel
theorem dX7_ends_122 : decode cX7_ends 122 = .ok (.castore, 1) := by decide +kernel
theorem dX7_ends_123 : decode cX7_ends 123 = .ok (.iload 4, 2) := by decide +kernel
theorem dX7_ends_125 : decode cX7_ends 125 = .ok (.iconst (-1), 1) := by decide +kernel
theorem dX7_ends_126 : decode cX7_ends 126 = .ok (.if_icmp .eq 30, 3) := by decide +kernel
theorem dX7_ends_129 : decode cX7_ends 129 = .ok (.aload_n 0, 1) := by decide +kernel
theorem dX7_ends_130 : decode cX7_ends 130 = .ok (.getfield 16, 3) := by decide +kernel
theorem dX7_ends_133 : decode cX7_ends 133 = .ok (.iload 7, 2) := by decide +kernel
theorem dX7_ends_135 : decode cX7_ends 135 = .ok (.iaload, 1) := by decide +kernel
theorem dX7_ends_136 : decode cX7_ends 136 = .ok (.iload 4, 2) := by decide +kernel
theorem dX7_ends_138 : decode cX7_ends 138 = .ok (.if_icmp .eq 18, 3) := by decide +kernel
theorem dX7_ends_141 : decode cX7_ends 141 = .ok (.aload_n 0, 1) := by decide +kernel
theorem dX7_ends_142 : decode cX7_ends 142 = .ok (.iload 7, 2) := by decide +kernel
theorem dX7_ends_144 : decode cX7_ends 144 = .ok (.aload_n 0, 1) := by decide +kernel
theorem dX7_ends_145 : decode cX7_ends 145 = .ok (.getfield 16, 3) := by decide +kernel
theorem dX7_ends_148 : decode cX7_ends 148 = .ok (.iload 7, 2) := by decide +kernel
theorem dX7_ends_150 : decode cX7_ends 150 = .ok (.iaload, 1) := by decide +kernel
theorem dX7_ends_151 : decode cX7_ends 151 = .ok (.iload 4, 2) := by decide +kernel
theorem dX7_ends_153 : decode cX7_ends 153 = .ok (.invokevirtual 123, 3) := by decide +kernel
theorem dX7_ends_156 : decode cX7_ends 156 = .ok (.iinc 6 1, 3) := by decide +kernel
theorem dX7_ends_159 : decode cX7_ends 159 = .ok (.goto (-80), 3) := by decide +kernel
theorem dX7_ends_162 : decode cX7_ends 162 = .ok (.iinc 5 1, 3) := by decide +kernel
theorem dX7_ends_165 : decode cX7_ends 165 = .ok (.goto (-95), 3) := by decide +kernel
theorem dX7_ends_168 : decode cX7_ends 168 = .ok (.return_, 1) := by decide +kernel
def wX7_ends_156 (post : Unit → KS → Int64 → Prop) (bk70 : Int32 → Int32 → Int32 → KS → Int64 → Prop) (bk79 : Int32 → Int32 → Int32 → Int32 → KS → Int64 → Prop) (l1 : Int32) (l4 : Int32) (l5 : Int32) (l6 : Int32) (M : KS) (ap : Int64) : Prop := bk79 l1 l4 l5 (l6 + 1) M ap
set_option maxHeartbeats 4000000 in
set_option maxRecDepth 100000 in
theorem bX7_ends_156 {p : Program} {l : Launch} {e : Env} {s : State} {m : MethodId} {args : Array Value} {below : List Frame} {meth : Method} {c : Code} {D : va_G} {cI : Nat → ClassId} {e0 : Nat} {A : Nat → Prop} {ad : Nat → Nat → Nat} {K : KS} {o : Int64} {od : UInt64} {mc ms : Nat} {post : Unit → KS → Int64 → Prop} {bk70 : Int32 → Int32 → Int32 → KS → Int64 → Prop} {bk79 : Int32 → Int32 → Int32 → Int32 → KS → Int64 → Prop} (S : CallFix p m c cX7_ends 8 s args WU RX7) (hg : GI D cI e0 A s s.heap) (hr : meth.sig.returnType = none) (hlk : meth.locks = false) (hout : ∀ x ∈ c.exceptionTable.toList, False) (hbk70 : ∀ {H : Heap} {locs : List Loc} {ls : Array Slot} {l1 : Int32} {l4 : Int32} {l5 : Int32} {M : KS} {ap : Int64}, va_S A s.heap H locs → HT D cI e0 A ad K M ap o od H → lv_has ls 8 [(0, .ref (ad 3 0)), (1, .int l1), (4, .int l4), (5, .int l5)] → bk70 l1 l4 l5 M ap → W p l e ({ frames := 1, cells := mc, slots := ms, locals := 23 } : Room) s m args below meth c H locs 0 0 (MQQ below (qM D cI e0 A ad K o od rV post) xN args s mc ms A) (F0 m 70 ls [])) (hbk79 : ∀ {H : Heap} {locs : List Loc} {ls : Array Slot} {l1 : Int32} {l4 : Int32} {l5 : Int32} {l6 : Int32} {M : KS} {ap : Int64}, va_S A s.heap H locs → HT D cI e0 A ad K M ap o od H → lv_has ls 8 [(0, .ref (ad 3 0)), (1, .int l1), (4, .int l4), (5, .int l5), (6, .int l6)] → bk79 l1 l4 l5 l6 M ap → W p l e ({ frames := 1, cells := mc, slots := ms, locals := 23 } : Room) s m args below meth c H locs 0 0 (MQQ below (qM D cI e0 A ad K o od rV post) xN args s mc ms A) (F0 m 79 ls [])) {H : Heap} {locs : List Loc} {ls : Array Slot} {l1 : Int32} {l4 : Int32} {l5 : Int32} {l6 : Int32} {M : KS} {ap : Int64} (hS : va_S A s.heap H locs) (hw : HT D cI e0 A ad K M ap o od H) (hl : lv_has ls 8 [(0, .ref (ad 3 0)), (1, .int l1), (4, .int l4), (5, .int l5), (6, .int l6)]) (h : wX7_ends_156 post bk70 bk79 l1 l4 l5 l6 M ap) : W p l e ({ frames := 1, cells := mc, slots := ms, locals := 23 } : Room) s m args below meth c H locs 0 0 (MQQ below (qM D cI e0 A ad K o od rV post) xN args s mc ms A) (F0 m 156 ls []) := by
  unfold wX7_ends_156 at h
  refine lv_iinc (v := l6 + 1) (lv' := [(6, .int (l6 + 1)), (0, .ref (ad 3 0)), (1, .int l1), (4, .int l4), (5, .int l5)]) S.1 S.2.1 dX7_ends_156 hl (k := 4) rfl rfl (by decide) rfl (fun ls hl => ?_)
  refine lv_goto (tgt := 79) S.1 S.2.1 dX7_ends_159 (by decide) ?_
  have hl := lv_sub hl (l' := [(0, .ref (ad 3 0)), (1, .int l1), (4, .int l4), (5, .int l5), (6, .int (l6 + 1))]) [1, 2, 3, 4, 0] rfl
  exact hbk79 hS hw hl h
def wX7_ends_79 (post : Unit → KS → Int64 → Prop) (bk70 : Int32 → Int32 → Int32 → KS → Int64 → Prop) : Nat → Int32 → Int32 → Int32 → Int32 → KS → Int64 → Prop
  | 0 => fun _ _ _ _ _ _ => False
  | n + 1 => fun l1 l4 l5 l6 M ap => (vp_in ((2 * l1) + l5) 16) ∧ ((((M 16 21 (((2 * l1) + l5).toNatClampNeg)) ≤ l6 → (bk70 l1 l4 (l5 + 1) M ap)) ∧ (¬ (M 16 21 (((2 * l1) + l5).toNatClampNeg)) ≤ l6 → ((vp_in ((8 * ((2 * l1) + l5)) + l6) 128) ∧ (∀ x13 : Int32, x13 = M 16 22 (((8 * ((2 * l1) + l5)) + l6).toNatClampNeg) → ((vp_in x13 40) ∧ (((l4 = (-1) → (wX7_ends_156 post bk70 (wX7_ends_79 post bk70 n) l1 l4 l5 l6 (k3 M 13 8 x13.toNatClampNeg 119) ap)) ∧ (¬ l4 = (-1) → ((vp_in x13 40) ∧ (((((k3 M 13 8 x13.toNatClampNeg 119) 16 7 x13.toNatClampNeg) = l4 → (wX7_ends_156 post bk70 (wX7_ends_79 post bk70 n) l1 l4 l5 l6 (k3 M 13 8 x13.toNatClampNeg 119) ap)) ∧ (¬ ((k3 M 13 8 x13.toNatClampNeg 119) 16 7 x13.toNatClampNeg) = l4 → ((wpX7_posts (fun _ M18 ap19 => wX7_ends_156 post bk70 (wX7_ends_79 post bk70 n) l1 l4 l5 l6 M18 ap19) (k3 M 13 8 x13.toNatClampNeg 119) ap x13 ((k3 M 13 8 x13.toNatClampNeg 119) 16 7 x13.toNatClampNeg) l4)))))))))))))))
set_option maxHeartbeats 4000000 in
set_option maxRecDepth 100000 in
theorem bX7_ends_79 {p : Program} {l : Launch} {e : Env} {s : State} {m : MethodId} {args : Array Value} {below : List Frame} {meth : Method} {c : Code} {D : va_G} {cI : Nat → ClassId} {e0 : Nat} {A : Nat → Prop} {ad : Nat → Nat → Nat} {K : KS} {o : Int64} {od : UInt64} {mc ms : Nat} {post : Unit → KS → Int64 → Prop} {bk70 : Int32 → Int32 → Int32 → KS → Int64 → Prop} (S : CallFix p m c cX7_ends 8 s args WU RX7) (hg : GI D cI e0 A s s.heap) (hr : meth.sig.returnType = none) (hlk : meth.locks = false) (hout : ∀ x ∈ c.exceptionTable.toList, False) (hbk70 : ∀ {H : Heap} {locs : List Loc} {ls : Array Slot} {l1 : Int32} {l4 : Int32} {l5 : Int32} {M : KS} {ap : Int64}, va_S A s.heap H locs → HT D cI e0 A ad K M ap o od H → lv_has ls 8 [(0, .ref (ad 3 0)), (1, .int l1), (4, .int l4), (5, .int l5)] → bk70 l1 l4 l5 M ap → W p l e ({ frames := 1, cells := mc, slots := ms, locals := 23 } : Room) s m args below meth c H locs 0 0 (MQQ below (qM D cI e0 A ad K o od rV post) xN args s mc ms A) (F0 m 70 ls [])) : ∀ n : Nat, ∀ {H : Heap} {locs : List Loc} {ls : Array Slot} {l1 : Int32} {l4 : Int32} {l5 : Int32} {l6 : Int32} {M : KS} {ap : Int64}, va_S A s.heap H locs → HT D cI e0 A ad K M ap o od H → lv_has ls 8 [(0, .ref (ad 3 0)), (1, .int l1), (4, .int l4), (5, .int l5), (6, .int l6)] → wX7_ends_79 post bk70 n l1 l4 l5 l6 M ap → W p l e ({ frames := 1, cells := mc, slots := ms, locals := 23 } : Room) s m args below meth c H locs 0 0 (MQQ below (qM D cI e0 A ad K o od rV post) xN args s mc ms A) (F0 m 79 ls []) := by
  intro n
  induction n with
  | zero => intros; exact False.elim (by assumption)
  | succ n ih =>
    intro H locs ls l1 l4 l5 l6 M ap hS hw hl h
    unfold wX7_ends_79 at h
    refine lv_iload S.1 S.2.1 dX7_ends_79 (lv_at hl 4 rfl) ?_
    refine lv_aload_n S.1 S.2.1 dX7_ends_81 rfl (lv_at hl 0 rfl) ?_
    refine g3_21 S hg hw u1065 dX7_ends_82 ?_
    refine lv_iconst (v := 2) S.1 S.2.1 dX7_ends_85 (by decide) ?_
    refine lv_iload_n S.1 S.2.1 dX7_ends_86 rfl (lv_at hl 1 rfl) ?_
    refine lv_imul S.1 S.2.1 dX7_ends_87 ?_
    refine lv_iload S.1 S.2.1 dX7_ends_88 (lv_at hl 3 rfl) ?_
    refine lv_iadd S.1 S.2.1 dX7_ends_90 ?_
    obtain ⟨g10, h⟩ := h
    refine a16 S hg hw rfl g10 dX7_ends_91 ?_
    refine lv_icmp_ge (tgt := 162) S.1 S.2.1 dX7_ends_92 (by decide) (fun c11 => ?_) (fun c11 => ?_)
    · have h := h.1 c11
      refine lv_iinc (v := l5 + 1) (lv' := [(5, .int (l5 + 1)), (0, .ref (ad 3 0)), (1, .int l1), (4, .int l4), (6, .int l6)]) S.1 S.2.1 dX7_ends_162 hl (k := 3) rfl rfl (by decide) rfl (fun ls hl => ?_)
      refine lv_goto (tgt := 70) S.1 S.2.1 dX7_ends_165 (by decide) ?_
      have hl := lv_sub hl (l' := [(0, .ref (ad 3 0)), (1, .int l1), (4, .int l4), (5, .int (l5 + 1))]) [1, 2, 3, 0] rfl
      exact hbk70 hS hw hl h
    · have h := h.2 c11
      refine lv_aload_n S.1 S.2.1 dX7_ends_95 rfl (lv_at hl 0 rfl) ?_
      refine g3_22 S hg hw u1066 dX7_ends_96 ?_
      refine lv_bipush (v := 8) S.1 S.2.1 dX7_ends_99 (by decide) ?_
      refine lv_iconst (v := 2) S.1 S.2.1 dX7_ends_101 (by decide) ?_
      refine lv_iload_n S.1 S.2.1 dX7_ends_102 rfl (lv_at hl 1 rfl) ?_
      refine lv_imul S.1 S.2.1 dX7_ends_103 ?_
      refine lv_iload S.1 S.2.1 dX7_ends_104 (lv_at hl 3 rfl) ?_
      refine lv_iadd S.1 S.2.1 dX7_ends_106 ?_
      refine lv_imul S.1 S.2.1 dX7_ends_107 ?_
      refine lv_iload S.1 S.2.1 dX7_ends_108 (lv_at hl 4 rfl) ?_
      refine lv_iadd S.1 S.2.1 dX7_ends_110 ?_
      obtain ⟨g12, h⟩ := h
      refine a16 S hg hw rfl g12 dX7_ends_111 ?_
      refine lv_topi (fun x13 ex13 => ?_)
      have h := h x13 ex13
      refine lv_istore (lv' := [(7, .int x13), (0, .ref (ad 3 0)), (1, .int l1), (4, .int l4), (5, .int l5), (6, .int l6)]) S.1 S.2.1 dX7_ends_112 hl (by decide) rfl (fun ls hl => ?_)
      refine lv_aload_n S.1 S.2.1 dX7_ends_114 rfl (lv_at hl 1 rfl) ?_
      refine g3_8 S hg hw u1052 dX7_ends_115 ?_
      refine lv_iload S.1 S.2.1 dX7_ends_118 (lv_at hl 0 rfl) ?_
      refine lv_bipush (v := 119) S.1 S.2.1 dX7_ends_120 (by decide) ?_
      obtain ⟨g14, h⟩ := h
      refine s13 S hg hS hw rfl g14 (by decide) dX7_ends_122 (fun H locs hw hS => ?_)
      refine lv_iload S.1 S.2.1 dX7_ends_123 (lv_at hl 3 rfl) ?_
      refine lv_iconst (v := (-1)) S.1 S.2.1 dX7_ends_125 (by decide) ?_
      refine lv_icmp_eq (tgt := 156) S.1 S.2.1 dX7_ends_126 (by decide) (fun c15 => ?_) (fun c15 => ?_)
      · have h := h.1 c15
        have hl := lv_sub hl (l' := [(0, .ref (ad 3 0)), (1, .int l1), (4, .int l4), (5, .int l5), (6, .int l6)]) [1, 2, 3, 4, 5] rfl
        exact bX7_ends_156 S hg hr hlk hout hbk70 ih hS hw hl h
      · have h := h.2 c15
        refine lv_aload_n S.1 S.2.1 dX7_ends_129 rfl (lv_at hl 1 rfl) ?_
        refine g3_7 S hg hw u1051 dX7_ends_130 ?_
        refine lv_iload S.1 S.2.1 dX7_ends_133 (lv_at hl 0 rfl) ?_
        obtain ⟨g16, h⟩ := h
        refine a16 S hg hw rfl g16 dX7_ends_135 ?_
        refine lv_iload S.1 S.2.1 dX7_ends_136 (lv_at hl 3 rfl) ?_
        refine lv_icmp_eq (tgt := 156) S.1 S.2.1 dX7_ends_138 (by decide) (fun c17 => ?_) (fun c17 => ?_)
        · have h := h.1 c17
          have hl := lv_sub hl (l' := [(0, .ref (ad 3 0)), (1, .int l1), (4, .int l4), (5, .int l5), (6, .int l6)]) [1, 2, 3, 4, 5] rfl
          exact bX7_ends_156 S hg hr hlk hout hbk70 ih hS hw hl h
        · have h := h.2 c17
          refine lv_aload_n S.1 S.2.1 dX7_ends_141 rfl (lv_at hl 1 rfl) ?_
          refine lv_iload S.1 S.2.1 dX7_ends_142 (lv_at hl 0 rfl) ?_
          refine lv_aload_n S.1 S.2.1 dX7_ends_144 rfl (lv_at hl 1 rfl) ?_
          refine g3_7 S hg hw u1051 dX7_ends_145 ?_
          refine lv_iload S.1 S.2.1 dX7_ends_148 (lv_at hl 0 rfl) ?_
          refine a16 S hg hw rfl g16 dX7_ends_150 ?_
          refine lv_iload S.1 S.2.1 dX7_ends_151 (lv_at hl 3 rfl) ?_
          refine r_call (rest := []) S hg hS (mtX7_posts (mc := 0) (ms := 0) h) u1183 u1185 u28 u49 u1186 hdX7_posts (rv3 hg hw) hw ⟨Nat.le_of_ble_eq_true rfl, Nat.le_of_ble_eq_true rfl⟩ ⟨by show 0 + 0 ≤ mc; omega, by show 0 + 0 ≤ ms; omega⟩ hl.1 (Nat.le_of_ble_eq_true rfl) rfl dX7_ends_153 (fun E ce q H1 locs1 hx hS1 hc1 hc2 hc3 => hx.elim) (fun rv H locs hq hS => ?_)
          obtain ⟨_, M18, ap19, rfl, h, hw⟩ := hq
          show W p l e _ s m _ below meth c H locs _ _ _ (F0 m 156 ls [])
          show W p l e _ s m _ below meth c H locs 0 0 _ _
          have hl := lv_sub hl (l' := [(0, .ref (ad 3 0)), (1, .int l1), (4, .int l4), (5, .int l5), (6, .int l6)]) [1, 2, 3, 4, 5] rfl
          exact bX7_ends_156 S hg hr hlk hout hbk70 ih hS hw hl h
def wX7_ends_70 (post : Unit → KS → Int64 → Prop) : Nat → Int32 → Int32 → Int32 → KS → Int64 → Prop
  | 0 => fun _ _ _ _ _ => False
  | n + 1 => fun l1 l4 l5 M ap => ((2 ≤ l5 → (post () M ap)) ∧ (¬ 2 ≤ l5 → (∃ n1 : Nat, wX7_ends_79 post (wX7_ends_70 post n) n1 l1 l4 l5 0 M ap)))
set_option maxHeartbeats 4000000 in
set_option maxRecDepth 100000 in
theorem bX7_ends_70 {p : Program} {l : Launch} {e : Env} {s : State} {m : MethodId} {args : Array Value} {below : List Frame} {meth : Method} {c : Code} {D : va_G} {cI : Nat → ClassId} {e0 : Nat} {A : Nat → Prop} {ad : Nat → Nat → Nat} {K : KS} {o : Int64} {od : UInt64} {mc ms : Nat} {post : Unit → KS → Int64 → Prop} (S : CallFix p m c cX7_ends 8 s args WU RX7) (hg : GI D cI e0 A s s.heap) (hr : meth.sig.returnType = none) (hlk : meth.locks = false) (hout : ∀ x ∈ c.exceptionTable.toList, False) : ∀ n : Nat, ∀ {H : Heap} {locs : List Loc} {ls : Array Slot} {l1 : Int32} {l4 : Int32} {l5 : Int32} {M : KS} {ap : Int64}, va_S A s.heap H locs → HT D cI e0 A ad K M ap o od H → lv_has ls 8 [(0, .ref (ad 3 0)), (1, .int l1), (4, .int l4), (5, .int l5)] → wX7_ends_70 post n l1 l4 l5 M ap → W p l e ({ frames := 1, cells := mc, slots := ms, locals := 23 } : Room) s m args below meth c H locs 0 0 (MQQ below (qM D cI e0 A ad K o od rV post) xN args s mc ms A) (F0 m 70 ls []) := by
  intro n
  induction n with
  | zero => intros; exact False.elim (by assumption)
  | succ n ih =>
    intro H locs ls l1 l4 l5 M ap hS hw hl h
    unfold wX7_ends_70 at h
    refine lv_iload S.1 S.2.1 dX7_ends_70 (lv_at hl 3 rfl) ?_
    refine lv_iconst (v := 2) S.1 S.2.1 dX7_ends_72 (by decide) ?_
    refine lv_icmp_ge (tgt := 168) S.1 S.2.1 dX7_ends_73 (by decide) (fun c9 => ?_) (fun c9 => ?_)
    · have h := h.1 c9
      exact r_vret (y := yX7_ends) S hr hlk hS (by omega) (by omega) dX7_ends_168 ⟨(), _, _, rfl, h, hw⟩
    · have h := h.2 c9
      refine lv_iconst (v := 0) S.1 S.2.1 dX7_ends_76 (by decide) ?_
      refine lv_istore (lv' := [(6, .int 0), (0, .ref (ad 3 0)), (1, .int l1), (4, .int l4), (5, .int l5)]) S.1 S.2.1 dX7_ends_77 hl (by decide) rfl (fun ls hl => ?_)
      have hl := lv_sub hl (l' := [(0, .ref (ad 3 0)), (1, .int l1), (4, .int l4), (5, .int l5), (6, .int 0)]) [1, 2, 3, 4, 0] rfl
      obtain ⟨n1, h⟩ := h
      exact bX7_ends_79 S hg hr hlk hout ih n1 hS hw hl h
def wX7_ends_49 (post : Unit → KS → Int64 → Prop) (l1 : Int32) (t0 : Int32) (M : KS) (ap : Int64) : Prop := (vp_in l1 8) ∧ ((vp_in l1 8) ∧ (∃ n1 : Nat, wX7_ends_70 post n1 l1 t0 0 (k3 (k3 M 16 17 l1.toNatClampNeg t0) 13 16 l1.toNatClampNeg 101) ap))
set_option maxHeartbeats 4000000 in
set_option maxRecDepth 100000 in
theorem bX7_ends_49 {p : Program} {l : Launch} {e : Env} {s : State} {m : MethodId} {args : Array Value} {below : List Frame} {meth : Method} {c : Code} {D : va_G} {cI : Nat → ClassId} {e0 : Nat} {A : Nat → Prop} {ad : Nat → Nat → Nat} {K : KS} {o : Int64} {od : UInt64} {mc ms : Nat} {post : Unit → KS → Int64 → Prop} (S : CallFix p m c cX7_ends 8 s args WU RX7) (hg : GI D cI e0 A s s.heap) (hr : meth.sig.returnType = none) (hlk : meth.locks = false) (hout : ∀ x ∈ c.exceptionTable.toList, False) {H : Heap} {locs : List Loc} {ls : Array Slot} {l1 : Int32} {t0 : Int32} {M : KS} {ap : Int64} (hS : va_S A s.heap H locs) (hw : HT D cI e0 A ad K M ap o od H) (hl : lv_has ls 8 [(0, .ref (ad 3 0)), (1, .int l1)]) (h : wX7_ends_49 post l1 t0 M ap) : W p l e ({ frames := 1, cells := mc, slots := ms, locals := 23 } : Room) s m args below meth c H locs 0 0 (MQQ below (qM D cI e0 A ad K o od rV post) xN args s mc ms A) (F0 m 49 ls [.int t0]) := by
  unfold wX7_ends_49 at h
  refine lv_istore (lv' := [(4, .int t0), (0, .ref (ad 3 0)), (1, .int l1)]) S.1 S.2.1 dX7_ends_49 hl (by decide) rfl (fun ls hl => ?_)
  refine lv_aload_n S.1 S.2.1 dX7_ends_51 rfl (lv_at hl 1 rfl) ?_
  refine g3_17 S hg hw u1061 dX7_ends_52 ?_
  refine lv_iload_n S.1 S.2.1 dX7_ends_55 rfl (lv_at hl 2 rfl) ?_
  refine lv_iload S.1 S.2.1 dX7_ends_56 (lv_at hl 0 rfl) ?_
  obtain ⟨g7, h⟩ := h
  refine s16 S hg hS hw rfl g7 dX7_ends_58 (fun H locs hw hS => ?_)
  refine lv_aload_n S.1 S.2.1 dX7_ends_59 rfl (lv_at hl 1 rfl) ?_
  refine g3_16 S hg hw u1060 dX7_ends_60 ?_
  refine lv_iload_n S.1 S.2.1 dX7_ends_63 rfl (lv_at hl 2 rfl) ?_
  refine lv_bipush (v := 101) S.1 S.2.1 dX7_ends_64 (by decide) ?_
  obtain ⟨g8, h⟩ := h
  refine s13 S hg hS hw rfl g8 (by decide) dX7_ends_66 (fun H locs hw hS => ?_)
  refine lv_iconst (v := 0) S.1 S.2.1 dX7_ends_67 (by decide) ?_
  refine lv_istore (lv' := [(5, .int 0), (4, .int t0), (0, .ref (ad 3 0)), (1, .int l1)]) S.1 S.2.1 dX7_ends_68 hl (by decide) rfl (fun ls hl => ?_)
  have hl := lv_sub hl (l' := [(0, .ref (ad 3 0)), (1, .int l1), (4, .int t0), (5, .int 0)]) [2, 3, 1, 0] rfl
  obtain ⟨n1, h⟩ := h
  exact bX7_ends_70 S hg hr hlk hout n1 hS hw hl h
def wpX7_ends (post : Unit → KS → Int64 → Prop) (M : KS) (ap : Int64) (p1 : Int32) : Prop := (vp_in (2 * p1) 16) ∧ (∀ x2 : Int32, x2 = M 16 18 ((2 * p1).toNatClampNeg) → ((vp_in ((2 * p1) + 1) 16) ∧ (∀ x4 : Int32, x4 = M 16 18 (((2 * p1) + 1).toNatClampNeg) → (((x2 ≤ x4 → (((x4 ≤ x2 → (wX7_ends_49 post p1 (-1) M ap)) ∧ (¬ x4 ≤ x2 → ((vp_in p1 8) ∧ (wX7_ends_49 post p1 (M 16 15 p1.toNatClampNeg) M ap)))))) ∧ (¬ x2 ≤ x4 → ((vp_in p1 8) ∧ (wX7_ends_49 post p1 (M 16 14 p1.toNatClampNeg) M ap))))))))
theorem hdX7_ends : yX7_ends.cls ≠ "java/lang/invoke/MethodHandle" ∧ yX7_ends.cls ≠ "java/lang/invoke/VarHandle" ∧ (parseMethodDescriptor yX7_ends.desc).map (fun d => d.parameters.length) = some 1 := by decide +kernel
set_option maxHeartbeats 4000000 in
set_option maxRecDepth 100000 in
theorem mtX7_ends {l : Launch} {D : va_G} {cI : Nat → ClassId} {e0 : Nat} {A : Nat → Prop} {ad : Nat → Nat → Nat} {K M : KS} {ap o : Int64} {od : UInt64} {mc ms : Nat} {p1 : Int32} {post : Unit → KS → Int64 → Prop} (h : wpX7_ends post M ap p1) : CM l D cI e0 A yX7_ends cX7_ends 8 none 1 23 mc ms [.ref (ad 3 0), .int p1] (HT D cI e0 A ad K M ap o od) (qM D cI e0 A ad K o od rV post) xN := by
  refine CM.of (by decide) (Nat.le_of_ble_eq_true rfl) (fun p e s m below meth c ls FX hw hS hl => ?_)
  obtain ⟨S, hg, hr, hlk, hnm, hout⟩ := FX
  have hl : lv_has ls 8 [(0, .ref (ad 3 0)), (1, .int p1)] := hl
  unfold wpX7_ends at h
  refine lv_aload_n S.1 S.2.1 dX7_ends_0 rfl (lv_at hl 0 rfl) ?_
  refine g3_18 S hg hw u1062 dX7_ends_1 ?_
  refine lv_iconst (v := 2) S.1 S.2.1 dX7_ends_4 (by decide) ?_
  refine lv_iload_n S.1 S.2.1 dX7_ends_5 rfl (lv_at hl 1 rfl) ?_
  refine lv_imul S.1 S.2.1 dX7_ends_6 ?_
  obtain ⟨g1, h⟩ := h
  refine a16 S hg hw rfl g1 dX7_ends_7 ?_
  refine lv_topi (fun x2 ex2 => ?_)
  have h := h x2 ex2
  refine lv_istore_n (lv' := [(2, .int x2), (0, .ref (ad 3 0)), (1, .int p1)]) S.1 S.2.1 dX7_ends_8 rfl hl (by decide) rfl (fun ls hl => ?_)
  refine lv_aload_n S.1 S.2.1 dX7_ends_9 rfl (lv_at hl 1 rfl) ?_
  refine g3_18 S hg hw u1062 dX7_ends_10 ?_
  refine lv_iconst (v := 2) S.1 S.2.1 dX7_ends_13 (by decide) ?_
  refine lv_iload_n S.1 S.2.1 dX7_ends_14 rfl (lv_at hl 2 rfl) ?_
  refine lv_imul S.1 S.2.1 dX7_ends_15 ?_
  refine lv_iconst (v := 1) S.1 S.2.1 dX7_ends_16 (by decide) ?_
  refine lv_iadd S.1 S.2.1 dX7_ends_17 ?_
  obtain ⟨g3, h⟩ := h
  refine a16 S hg hw rfl g3 dX7_ends_18 ?_
  refine lv_topi (fun x4 ex4 => ?_)
  have h := h x4 ex4
  refine lv_istore_n (lv' := [(3, .int x4), (2, .int x2), (0, .ref (ad 3 0)), (1, .int p1)]) S.1 S.2.1 dX7_ends_19 rfl hl (by decide) rfl (fun ls hl => ?_)
  refine lv_iload_n S.1 S.2.1 dX7_ends_20 rfl (lv_at hl 1 rfl) ?_
  refine lv_iload_n S.1 S.2.1 dX7_ends_21 rfl (lv_at hl 0 rfl) ?_
  refine lv_icmp_le (tgt := 34) S.1 S.2.1 dX7_ends_22 (by decide) (fun c5 => ?_) (fun c5 => ?_)
  · have h := h.1 c5
    refine lv_iload_n S.1 S.2.1 dX7_ends_34 rfl (lv_at hl 0 rfl) ?_
    refine lv_iload_n S.1 S.2.1 dX7_ends_35 rfl (lv_at hl 1 rfl) ?_
    refine lv_icmp_le (tgt := 48) S.1 S.2.1 dX7_ends_36 (by decide) (fun c6 => ?_) (fun c6 => ?_)
    · have h := h.1 c6
      refine lv_iconst (v := (-1)) S.1 S.2.1 dX7_ends_48 (by decide) ?_
      have hl := lv_sub hl (l' := [(0, .ref (ad 3 0)), (1, .int p1)]) [2, 3] rfl
      exact bX7_ends_49 S hg hr hlk hout hS hw hl h
    · have h := h.2 c6
      refine lv_aload_n S.1 S.2.1 dX7_ends_39 rfl (lv_at hl 2 rfl) ?_
      refine g3_15 S hg hw u1059 dX7_ends_40 ?_
      refine lv_iload_n S.1 S.2.1 dX7_ends_43 rfl (lv_at hl 3 rfl) ?_
      obtain ⟨g20, h⟩ := h
      refine a16 S hg hw rfl g20 dX7_ends_44 ?_
      refine lv_goto (tgt := 49) S.1 S.2.1 dX7_ends_45 (by decide) ?_
      have hl := lv_sub hl (l' := [(0, .ref (ad 3 0)), (1, .int p1)]) [2, 3] rfl
      exact bX7_ends_49 S hg hr hlk hout hS hw hl h
  · have h := h.2 c5
    refine lv_aload_n S.1 S.2.1 dX7_ends_25 rfl (lv_at hl 2 rfl) ?_
    refine g3_14 S hg hw u1058 dX7_ends_26 ?_
    refine lv_iload_n S.1 S.2.1 dX7_ends_29 rfl (lv_at hl 3 rfl) ?_
    obtain ⟨g21, h⟩ := h
    refine a16 S hg hw rfl g21 dX7_ends_30 ?_
    refine lv_goto (tgt := 49) S.1 S.2.1 dX7_ends_31 (by decide) ?_
    have hl := lv_sub hl (l' := [(0, .ref (ad 3 0)), (1, .int p1)]) [2, 3] rfl
    exact bX7_ends_49 S hg hr hlk hout hS hw hl h

-- X7.endTurn
theorem dX7_endTurn_0 : decode cX7_endTurn 0 = .ok (.aload_n 0, 1) := by decide +kernel
theorem dX7_endTurn_1 : decode cX7_endTurn 1 = .ok (.iconst 0, 1) := by decide +kernel
theorem dX7_endTurn_2 : decode cX7_endTurn 2 = .ok (.putfield 98, 3) := by decide +kernel
theorem dX7_endTurn_5 : decode cX7_endTurn 5 = .ok (.aload_n 0, 1) := by decide +kernel
theorem dX7_endTurn_6 : decode cX7_endTurn 6 = .ok (.iload_n 1, 1) := by decide +kernel
theorem dX7_endTurn_7 : decode cX7_endTurn 7 = .ok (.invokevirtual 141, 3) := by decide +kernel
theorem dX7_endTurn_10 : decode cX7_endTurn 10 = .ok (.ifCond .ne 9, 3) := by decide +kernel
theorem dX7_endTurn_13 : decode cX7_endTurn 13 = .ok (.aload_n 0, 1) := by decide +kernel
theorem dX7_endTurn_14 : decode cX7_endTurn 14 = .ok (.iconst 1, 1) := by decide +kernel
theorem dX7_endTurn_15 : decode cX7_endTurn 15 = .ok (.invokevirtual 130, 3) := by decide +kernel
theorem dX7_endTurn_18 : decode cX7_endTurn 18 = .ok (.ireturn, 1) := by decide +kernel
theorem dX7_endTurn_19 : decode cX7_endTurn 19 = .ok (.aload_n 0, 1) := by decide +kernel
theorem dX7_endTurn_20 : decode cX7_endTurn 20 = .ok (.getfield 38, 3) := by decide +kernel
theorem dX7_endTurn_23 : decode cX7_endTurn 23 = .ok (.iload_n 1, 1) := by decide +kernel
theorem dX7_endTurn_24 : decode cX7_endTurn 24 = .ok (.caload, 1) := by decide +kernel
theorem dX7_endTurn_25 : decode cX7_endTurn 25 = .ok (.bipush 103, 2) := by decide +kernel
theorem dX7_endTurn_27 : decode cX7_endTurn 27 = .ok (.if_icmp .eq 9, 3) := by decide +kernel
theorem dX7_endTurn_30 : decode cX7_endTurn 30 = .ok (.aload_n 0, 1) := by decide +kernel
theorem dX7_endTurn_31 : decode cX7_endTurn 31 = .ok (.iconst 2, 1) := by decide +kernel
theorem dX7_endTurn_32 : decode cX7_endTurn 32 = .ok (.invokevirtual 130, 3) := by decide +kernel
theorem dX7_endTurn_35 : decode cX7_endTurn 35 = .ok (.ireturn, 1) := by decide +kernel
theorem dX7_endTurn_36 : decode cX7_endTurn 36 = .ok (.aload_n 0, 1) := by decide +kernel
theorem dX7_endTurn_37 : decode cX7_endTurn 37 = .ok (.iload_n 1, 1) := by decide +kernel
theorem dX7_endTurn_38 : decode cX7_endTurn 38 = .ok (.invokevirtual 144, 3) := by decide +kernel
theorem dX7_endTurn_41 : decode cX7_endTurn 41 = .ok (.istore_n 2, 1) := by decide +kernel
theorem dX7_endTurn_42 : decode cX7_endTurn 42 = .ok (.aload_n 0, 1) := by decide +kernel
theorem dX7_endTurn_43 : decode cX7_endTurn 43 = .ok (.getfield 50, 3) := by decide +kernel
theorem dX7_endTurn_46 : decode cX7_endTurn 46 = .ok (.iload_n 1, 1) := by decide +kernel
theorem dX7_endTurn_47 : decode cX7_endTurn 47 = .ok (.dup2, 1) := by decide +kernel
theorem dX7_endTurn_48 : decode cX7_endTurn 48 = .ok (.iaload, 1) := by decide +kernel
theorem dX7_endTurn_49 : decode cX7_endTurn 49 = .ok (.iconst 1, 1) := by decide +kernel
theorem dX7_endTurn_50 : decode cX7_endTurn 50 = .ok (.iadd, 1) := by decide +kernel
theorem dX7_endTurn_51 : decode cX7_endTurn 51 = .ok (.iastore, 1) := by decide +kernel
theorem dX7_endTurn_52 : decode cX7_endTurn 52 = .ok (.iload_n 2, 1) := by decide +kernel
theorem dX7_endTurn_53 : decode cX7_endTurn 53 = .ok (.ifCond .ne 11, 3) := by decide +kernel
theorem dX7_endTurn_56 : decode cX7_endTurn 56 = .ok (.aload_n 0, 1) := by decide +kernel
theorem dX7_endTurn_57 : decode cX7_endTurn 57 = .ok (.iload_n 1, 1) := by decide +kernel
theorem dX7_endTurn_58 : decode cX7_endTurn 58 = .ok (.invokevirtual 147, 3) := by decide +kernel
theorem dX7_endTurn_61 : decode cX7_endTurn 61 = .ok (.ifCond .eq 11, 3) := by decide +kernel
theorem dX7_endTurn_64 : decode cX7_endTurn 64 = .ok (.aload_n 0, 1) := by decide +kernel
theorem dX7_endTurn_65 : decode cX7_endTurn 65 = .ok (.iload_n 1, 1) := by decide +kernel
theorem dX7_endTurn_66 : decode cX7_endTurn 66 = .ok (.invokevirtual 150, 3) := by decide +kernel
theorem dX7_endTurn_69 : decode cX7_endTurn 69 = .ok (.goto 32, 3) := by decide +kernel
theorem dX7_endTurn_72 : decode cX7_endTurn 72 = .ok (.iconst 1, 1) := by decide +kernel
theorem dX7_endTurn_73 : decode cX7_endTurn 73 = .ok (.aload_n 0, 1) := by decide +kernel
theorem dX7_endTurn_74 : decode cX7_endTurn 74 = .ok (.getfield 50, 3) := by decide +kernel
theorem dX7_endTurn_77 : decode cX7_endTurn 77 = .ok (.iload_n 1, 1) := by decide +kernel
theorem dX7_endTurn_78 : decode cX7_endTurn 78 = .ok (.iaload, 1) := by decide +kernel
theorem dX7_endTurn_79 : decode cX7_endTurn 79 = .ok (.iconst 2, 1) := by decide +kernel
theorem dX7_endTurn_80 : decode cX7_endTurn 80 = .ok (.idiv, 1) := by decide +kernel
theorem dX7_endTurn_81 : decode cX7_endTurn 81 = .ok (.iadd, 1) := by decide +kernel
theorem dX7_endTurn_82 : decode cX7_endTurn 82 = .ok (.istore_n 3, 1) := by decide +kernel
theorem dX7_endTurn_83 : decode cX7_endTurn 83 = .ok (.aload_n 0, 1) := by decide +kernel
theorem dX7_endTurn_84 : decode cX7_endTurn 84 = .ok (.getfield 47, 3) := by decide +kernel
theorem dX7_endTurn_87 : decode cX7_endTurn 87 = .ok (.iload_n 1, 1) := by decide +kernel
theorem dX7_endTurn_88 : decode cX7_endTurn 88 = .ok (.iload_n 3, 1) := by decide +kernel
theorem dX7_endTurn_89 : decode cX7_endTurn 89 = .ok (.bipush 6, 2) := by decide +kernel
theorem dX7_endTurn_91 : decode cX7_endTurn 91 = .ok (.if_icmp .le 8, 3) := by decide +kernel
theorem dX7_endTurn_94 : decode cX7_endTurn 94 = .ok (.bipush 6, 2) := by decide +kernel
theorem dX7_endTurn_96 : decode cX7_endTurn 96 = .ok (.goto 4, 3) := by decide +kernel
theorem dX7_endTurn_99 : decode cX7_endTurn 99 = .ok (.iload_n 3, 1) := by decide +kernel
theorem dX7_endTurn_100 : decode cX7_endTurn 100 = .ok (.iastore, 1) := by decide +kernel
theorem dX7_endTurn_101 : decode cX7_endTurn 101 = .ok (.aload_n 0, 1) := by decide +kernel
theorem dX7_endTurn_102 : decode cX7_endTurn 102 = .ok (.getfield 38, 3) := by decide +kernel
theorem dX7_endTurn_105 : decode cX7_endTurn 105 = .ok (.iload_n 1, 1) := by decide +kernel
theorem dX7_endTurn_106 : decode cX7_endTurn 106 = .ok (.caload, 1) := by decide +kernel
theorem dX7_endTurn_107 : decode cX7_endTurn 107 = .ok (.ireturn, 1) := by decide +kernel
def wpX7_endTurn (post : Int32 → KS → Int64 → Prop) (M : KS) (ap : Int64) (p1 : Int32) : Prop := (wpX7_isDuel (fun r1 => ((¬ r1 = 0 → ((vp_in p1 8) ∧ (((((k3 M 3 0 0 0) 13 16 p1.toNatClampNeg) = 103 → ((wpX7_resolves (fun r5 M6 ap7 => (vp_in p1 8) ∧ (((¬ r5 = 0 → ((wpX7_ends (fun _ M10 ap11 => (narrow .char (.int (M10 13 16 p1.toNatClampNeg)) = .int (M10 13 16 p1.toNatClampNeg)) ∧ post (M10 13 16 p1.toNatClampNeg) M10 ap11) (k3 M6 16 20 p1.toNatClampNeg ((M6 16 20 p1.toNatClampNeg) + 1)) ap7 p1))) ∧ (r5 = 0 → ((wpX7_areAllPlayed (fun r13 => ((r13 = 0 → (∀ x15 : Int32, x15 = 1 + (((k3 M6 16 20 p1.toNatClampNeg ((M6 16 20 p1.toNatClampNeg) + 1)) 16 20 p1.toNatClampNeg) / 2) → (((x15 ≤ 6 → ((vp_in p1 8) ∧ ((narrow .char (.int ((k3 (k3 M6 16 20 p1.toNatClampNeg ((M6 16 20 p1.toNatClampNeg) + 1)) 16 19 p1.toNatClampNeg x15) 13 16 p1.toNatClampNeg)) = .int ((k3 (k3 M6 16 20 p1.toNatClampNeg ((M6 16 20 p1.toNatClampNeg) + 1)) 16 19 p1.toNatClampNeg x15) 13 16 p1.toNatClampNeg)) ∧ post ((k3 (k3 M6 16 20 p1.toNatClampNeg ((M6 16 20 p1.toNatClampNeg) + 1)) 16 19 p1.toNatClampNeg x15) 13 16 p1.toNatClampNeg) (k3 (k3 M6 16 20 p1.toNatClampNeg ((M6 16 20 p1.toNatClampNeg) + 1)) 16 19 p1.toNatClampNeg x15) ap7))) ∧ (¬ x15 ≤ 6 → ((vp_in p1 8) ∧ ((narrow .char (.int ((k3 (k3 M6 16 20 p1.toNatClampNeg ((M6 16 20 p1.toNatClampNeg) + 1)) 16 19 p1.toNatClampNeg 6) 13 16 p1.toNatClampNeg)) = .int ((k3 (k3 M6 16 20 p1.toNatClampNeg ((M6 16 20 p1.toNatClampNeg) + 1)) 16 19 p1.toNatClampNeg 6) 13 16 p1.toNatClampNeg)) ∧ post ((k3 (k3 M6 16 20 p1.toNatClampNeg ((M6 16 20 p1.toNatClampNeg) + 1)) 16 19 p1.toNatClampNeg 6) 13 16 p1.toNatClampNeg) (k3 (k3 M6 16 20 p1.toNatClampNeg ((M6 16 20 p1.toNatClampNeg) + 1)) 16 19 p1.toNatClampNeg 6) ap7))))))) ∧ (¬ r13 = 0 → ((wpX7_ends (fun _ M21 ap22 => (narrow .char (.int (M21 13 16 p1.toNatClampNeg)) = .int (M21 13 16 p1.toNatClampNeg)) ∧ post (M21 13 16 p1.toNatClampNeg) M21 ap22) (k3 M6 16 20 p1.toNatClampNeg ((M6 16 20 p1.toNatClampNeg) + 1)) ap7 p1))))) (k3 M6 16 20 p1.toNatClampNeg ((M6 16 20 p1.toNatClampNeg) + 1)) ap7 p1)))))) (k3 M 3 0 0 0) ap p1))) ∧ (¬ ((k3 M 3 0 0 0) 13 16 p1.toNatClampNeg) = 103 → ((wpX7_failsChar (fun r24 M25 ap26 => (narrow .char (.int r24) = .int r24) ∧ post r24 M25 ap26) (k3 M 3 0 0 0) ap 2))))))) ∧ (r1 = 0 → ((wpX7_failsChar (fun r28 M29 ap30 => (narrow .char (.int r28) = .int r28) ∧ post r28 M29 ap30) (k3 M 3 0 0 0) ap 1))))) (k3 M 3 0 0 0) ap p1)
theorem hdX7_endTurn : yX7_endTurn.cls ≠ "java/lang/invoke/MethodHandle" ∧ yX7_endTurn.cls ≠ "java/lang/invoke/VarHandle" ∧ (parseMethodDescriptor yX7_endTurn.desc).map (fun d => d.parameters.length) = some 1 := by decide +kernel
set_option maxHeartbeats 4000000 in
set_option maxRecDepth 100000 in
theorem mtX7_endTurn {l : Launch} {D : va_G} {cI : Nat → ClassId} {e0 : Nat} {A : Nat → Prop} {ad : Nat → Nat → Nat} {K M : KS} {ap o : Int64} {od : UInt64} {mc ms : Nat} {p1 : Int32} {post : Int32 → KS → Int64 → Prop} (h : wpX7_endTurn post M ap p1) : CM l D cI e0 A yX7_endTurn cX7_endTurn 4 (some FieldType.char) 2 50 mc ms [.ref (ad 3 0), .int p1] (HT D cI e0 A ad K M ap o od) (qM D cI e0 A ad K o od rI post) xN := by
  refine CM.of (by decide) (Nat.le_of_ble_eq_true rfl) (fun p e s m below meth c ls FX hw hS hl => ?_)
  obtain ⟨S, hg, hr, hlk, hnm, hout⟩ := FX
  have hl : lv_has ls 4 [(0, .ref (ad 3 0)), (1, .int p1)] := hl
  unfold wpX7_endTurn at h
  refine lv_aload_n S.1 S.2.1 dX7_endTurn_0 rfl (lv_at hl 0 rfl) ?_
  refine lv_iconst (v := 0) S.1 S.2.1 dX7_endTurn_1 (by decide) ?_
  refine p3_0 S hg hS hw u1044 dX7_endTurn_2 (fun H locs hw hS => ?_)
  refine lv_aload_n S.1 S.2.1 dX7_endTurn_5 rfl (lv_at hl 0 rfl) ?_
  refine lv_iload_n S.1 S.2.1 dX7_endTurn_6 rfl (lv_at hl 1 rfl) ?_
  refine r_call (rest := []) S hg hS (mtX7_isDuel (mc := 0) (ms := 0) h) u1235 u1237 u32 u49 u1238 hdX7_isDuel (rv3 hg hw) hw ⟨Nat.le_of_ble_eq_true rfl, Nat.le_of_ble_eq_true rfl⟩ ⟨by show 0 + 0 ≤ mc; omega, by show 0 + 0 ≤ ms; omega⟩ hl.1 (Nat.le_of_ble_eq_true rfl) rfl dX7_endTurn_7 (fun E ce q H1 locs1 hx hS1 hc1 hc2 hc3 => hx.elim) (fun rv H locs hq hS => ?_)
  obtain ⟨r1, rfl, h, hw⟩ := hq
  show W p l e _ s m _ below meth c H locs _ _ _ (F0 m 10 ls [.int r1])
  show W p l e _ s m _ below meth c H locs 0 0 _ _
  refine lv_if_ne (tgt := 19) S.1 S.2.1 dX7_endTurn_10 (by decide) (fun c2 => ?_) (fun c2 => ?_)
  · have h := h.1 c2
    refine lv_aload_n S.1 S.2.1 dX7_endTurn_19 rfl (lv_at hl 0 rfl) ?_
    refine g3_16 S hg hw u1060 dX7_endTurn_20 ?_
    refine lv_iload_n S.1 S.2.1 dX7_endTurn_23 rfl (lv_at hl 1 rfl) ?_
    obtain ⟨g3, h⟩ := h
    refine a13 S hg hw rfl g3 dX7_endTurn_24 ?_
    refine lv_bipush (v := 103) S.1 S.2.1 dX7_endTurn_25 (by decide) ?_
    refine lv_icmp_eq (tgt := 36) S.1 S.2.1 dX7_endTurn_27 (by decide) (fun c4 => ?_) (fun c4 => ?_)
    · have h := h.1 c4
      refine lv_aload_n S.1 S.2.1 dX7_endTurn_36 rfl (lv_at hl 0 rfl) ?_
      refine lv_iload_n S.1 S.2.1 dX7_endTurn_37 rfl (lv_at hl 1 rfl) ?_
      refine r_call (rest := []) S hg hS (mtX7_resolves (mc := 0) (ms := 0) h) u1251 u1253 u33 u49 u1254 hdX7_resolves (rv3 hg hw) hw ⟨Nat.le_of_ble_eq_true rfl, Nat.le_of_ble_eq_true rfl⟩ ⟨by show 0 + 0 ≤ mc; omega, by show 0 + 0 ≤ ms; omega⟩ hl.1 (Nat.le_of_ble_eq_true rfl) rfl dX7_endTurn_38 (fun E ce q H1 locs1 hx hS1 hc1 hc2 hc3 => hx.elim) (fun rv H locs hq hS => ?_)
      obtain ⟨r5, M6, ap7, rfl, h, hw⟩ := hq
      show W p l e _ s m _ below meth c H locs _ _ _ (F0 m 41 ls [.int r5])
      show W p l e _ s m _ below meth c H locs 0 0 _ _
      refine lv_istore_n (lv' := [(2, .int r5), (0, .ref (ad 3 0)), (1, .int p1)]) S.1 S.2.1 dX7_endTurn_41 rfl hl (by decide) rfl (fun ls hl => ?_)
      refine lv_aload_n S.1 S.2.1 dX7_endTurn_42 rfl (lv_at hl 1 rfl) ?_
      refine g3_20 S hg hw u1064 dX7_endTurn_43 ?_
      refine lv_iload_n S.1 S.2.1 dX7_endTurn_46 rfl (lv_at hl 2 rfl) ?_
      refine lv_dup2_11 S.1 S.2.1 dX7_endTurn_47 rfl rfl ?_
      obtain ⟨g8, h⟩ := h
      refine a16 S hg hw rfl g8 dX7_endTurn_48 ?_
      refine lv_iconst (v := 1) S.1 S.2.1 dX7_endTurn_49 (by decide) ?_
      refine lv_iadd S.1 S.2.1 dX7_endTurn_50 ?_
      refine s16 S hg hS hw rfl g8 dX7_endTurn_51 (fun H locs hw hS => ?_)
      refine lv_iload_n S.1 S.2.1 dX7_endTurn_52 rfl (lv_at hl 0 rfl) ?_
      refine lv_if_ne (tgt := 64) S.1 S.2.1 dX7_endTurn_53 (by decide) (fun c9 => ?_) (fun c9 => ?_)
      · have h := h.1 c9
        refine lv_aload_n S.1 S.2.1 dX7_endTurn_64 rfl (lv_at hl 1 rfl) ?_
        refine lv_iload_n S.1 S.2.1 dX7_endTurn_65 rfl (lv_at hl 2 rfl) ?_
        refine r_call (rest := []) S hg hS (mtX7_ends (mc := 0) (ms := 0) h) u1259 u1261 u35 u49 u1262 hdX7_ends (rv3 hg hw) hw ⟨Nat.le_of_ble_eq_true rfl, Nat.le_of_ble_eq_true rfl⟩ ⟨by show 0 + 0 ≤ mc; omega, by show 0 + 0 ≤ ms; omega⟩ hl.1 (Nat.le_of_ble_eq_true rfl) rfl dX7_endTurn_66 (fun E ce q H1 locs1 hx hS1 hc1 hc2 hc3 => hx.elim) (fun rv H locs hq hS => ?_)
        obtain ⟨_, M10, ap11, rfl, h, hw⟩ := hq
        show W p l e _ s m _ below meth c H locs _ _ _ (F0 m 69 ls [])
        show W p l e _ s m _ below meth c H locs 0 0 _ _
        refine lv_goto (tgt := 101) S.1 S.2.1 dX7_endTurn_69 (by decide) ?_
        refine lv_aload_n S.1 S.2.1 dX7_endTurn_101 rfl (lv_at hl 1 rfl) ?_
        refine g3_16 S hg hw u1060 dX7_endTurn_102 ?_
        refine lv_iload_n S.1 S.2.1 dX7_endTurn_105 rfl (lv_at hl 2 rfl) ?_
        refine a13 S hg hw rfl g3 dX7_endTurn_106 ?_
        obtain ⟨g12, h⟩ := h
        exact r_iret (y := yX7_endTurn) S hr g12 hlk hS (by omega) (by omega) dX7_endTurn_107 ⟨(M10 13 16 p1.toNatClampNeg), _, _, rfl, h, hw⟩
      · have h := h.2 c9
        refine lv_aload_n S.1 S.2.1 dX7_endTurn_56 rfl (lv_at hl 1 rfl) ?_
        refine lv_iload_n S.1 S.2.1 dX7_endTurn_57 rfl (lv_at hl 2 rfl) ?_
        refine r_call (rest := []) S hg hS (mtX7_areAllPlayed (mc := 0) (ms := 0) h) u1255 u1257 u34 u49 u1258 hdX7_areAllPlayed (rv3 hg hw) hw ⟨Nat.le_of_ble_eq_true rfl, Nat.le_of_ble_eq_true rfl⟩ ⟨by show 0 + 0 ≤ mc; omega, by show 0 + 0 ≤ ms; omega⟩ hl.1 (Nat.le_of_ble_eq_true rfl) rfl dX7_endTurn_58 (fun E ce q H1 locs1 hx hS1 hc1 hc2 hc3 => hx.elim) (fun rv H locs hq hS => ?_)
        obtain ⟨r13, rfl, h, hw⟩ := hq
        show W p l e _ s m _ below meth c H locs _ _ _ (F0 m 61 ls [.int r13])
        show W p l e _ s m _ below meth c H locs 0 0 _ _
        refine lv_if_eq (tgt := 72) S.1 S.2.1 dX7_endTurn_61 (by decide) (fun c14 => ?_) (fun c14 => ?_)
        · have h := h.1 c14
          refine lv_iconst (v := 1) S.1 S.2.1 dX7_endTurn_72 (by decide) ?_
          refine lv_aload_n S.1 S.2.1 dX7_endTurn_73 rfl (lv_at hl 1 rfl) ?_
          refine g3_20 S hg hw u1064 dX7_endTurn_74 ?_
          refine lv_iload_n S.1 S.2.1 dX7_endTurn_77 rfl (lv_at hl 2 rfl) ?_
          refine a16 S hg hw rfl g8 dX7_endTurn_78 ?_
          refine lv_iconst (v := 2) S.1 S.2.1 dX7_endTurn_79 (by decide) ?_
          refine lv_idiv S.1 S.2.1 dX7_endTurn_80 (by decide) ?_
          refine lv_iadd S.1 S.2.1 dX7_endTurn_81 ?_
          refine lv_topi (fun x15 ex15 => ?_)
          have h := h x15 ex15
          refine lv_istore_n (lv' := [(3, .int x15), (2, .int r5), (0, .ref (ad 3 0)), (1, .int p1)]) S.1 S.2.1 dX7_endTurn_82 rfl hl (by decide) rfl (fun ls hl => ?_)
          refine lv_aload_n S.1 S.2.1 dX7_endTurn_83 rfl (lv_at hl 2 rfl) ?_
          refine g3_19 S hg hw u1063 dX7_endTurn_84 ?_
          refine lv_iload_n S.1 S.2.1 dX7_endTurn_87 rfl (lv_at hl 3 rfl) ?_
          refine lv_iload_n S.1 S.2.1 dX7_endTurn_88 rfl (lv_at hl 0 rfl) ?_
          refine lv_bipush (v := 6) S.1 S.2.1 dX7_endTurn_89 (by decide) ?_
          refine lv_icmp_le (tgt := 99) S.1 S.2.1 dX7_endTurn_91 (by decide) (fun c16 => ?_) (fun c16 => ?_)
          · have h := h.1 c16
            refine lv_iload_n S.1 S.2.1 dX7_endTurn_99 rfl (lv_at hl 0 rfl) ?_
            obtain ⟨g17, h⟩ := h
            refine s16 S hg hS hw rfl g17 dX7_endTurn_100 (fun H locs hw hS => ?_)
            refine lv_aload_n S.1 S.2.1 dX7_endTurn_101 rfl (lv_at hl 2 rfl) ?_
            refine g3_16 S hg hw u1060 dX7_endTurn_102 ?_
            refine lv_iload_n S.1 S.2.1 dX7_endTurn_105 rfl (lv_at hl 3 rfl) ?_
            refine a13 S hg hw rfl g3 dX7_endTurn_106 ?_
            obtain ⟨g18, h⟩ := h
            exact r_iret (y := yX7_endTurn) S hr g18 hlk hS (by omega) (by omega) dX7_endTurn_107 ⟨((k3 (k3 M6 16 20 p1.toNatClampNeg ((M6 16 20 p1.toNatClampNeg) + 1)) 16 19 p1.toNatClampNeg x15) 13 16 p1.toNatClampNeg), _, _, rfl, h, hw⟩
          · have h := h.2 c16
            refine lv_bipush (v := 6) S.1 S.2.1 dX7_endTurn_94 (by decide) ?_
            refine lv_goto (tgt := 100) S.1 S.2.1 dX7_endTurn_96 (by decide) ?_
            obtain ⟨g19, h⟩ := h
            refine s16 S hg hS hw rfl g19 dX7_endTurn_100 (fun H locs hw hS => ?_)
            refine lv_aload_n S.1 S.2.1 dX7_endTurn_101 rfl (lv_at hl 2 rfl) ?_
            refine g3_16 S hg hw u1060 dX7_endTurn_102 ?_
            refine lv_iload_n S.1 S.2.1 dX7_endTurn_105 rfl (lv_at hl 3 rfl) ?_
            refine a13 S hg hw rfl g3 dX7_endTurn_106 ?_
            obtain ⟨g20, h⟩ := h
            exact r_iret (y := yX7_endTurn) S hr g20 hlk hS (by omega) (by omega) dX7_endTurn_107 ⟨((k3 (k3 M6 16 20 p1.toNatClampNeg ((M6 16 20 p1.toNatClampNeg) + 1)) 16 19 p1.toNatClampNeg 6) 13 16 p1.toNatClampNeg), _, _, rfl, h, hw⟩
        · have h := h.2 c14
          refine lv_aload_n S.1 S.2.1 dX7_endTurn_64 rfl (lv_at hl 1 rfl) ?_
          refine lv_iload_n S.1 S.2.1 dX7_endTurn_65 rfl (lv_at hl 2 rfl) ?_
          refine r_call (rest := []) S hg hS (mtX7_ends (mc := 0) (ms := 0) h) u1259 u1261 u35 u49 u1262 hdX7_ends (rv3 hg hw) hw ⟨Nat.le_of_ble_eq_true rfl, Nat.le_of_ble_eq_true rfl⟩ ⟨by show 0 + 0 ≤ mc; omega, by show 0 + 0 ≤ ms; omega⟩ hl.1 (Nat.le_of_ble_eq_true rfl) rfl dX7_endTurn_66 (fun E ce q H1 locs1 hx hS1 hc1 hc2 hc3 => hx.elim) (fun rv H locs hq hS => ?_)
          obtain ⟨_, M21, ap22, rfl, h, hw⟩ := hq
          show W p l e _ s m _ below meth c H locs _ _ _ (F0 m 69 ls [])
          show W p l e _ s m _ below meth c H locs 0 0 _ _
          refine lv_goto (tgt := 101) S.1 S.2.1 dX7_endTurn_69 (by decide) ?_
          refine lv_aload_n S.1 S.2.1 dX7_endTurn_101 rfl (lv_at hl 1 rfl) ?_
          refine g3_16 S hg hw u1060 dX7_endTurn_102 ?_
          refine lv_iload_n S.1 S.2.1 dX7_endTurn_105 rfl (lv_at hl 2 rfl) ?_
          refine a13 S hg hw rfl g3 dX7_endTurn_106 ?_
          obtain ⟨g23, h⟩ := h
          exact r_iret (y := yX7_endTurn) S hr g23 hlk hS (by omega) (by omega) dX7_endTurn_107 ⟨(M21 13 16 p1.toNatClampNeg), _, _, rfl, h, hw⟩
    · have h := h.2 c4
      refine lv_aload_n S.1 S.2.1 dX7_endTurn_30 rfl (lv_at hl 0 rfl) ?_
      refine lv_iconst (v := 2) S.1 S.2.1 dX7_endTurn_31 (by decide) ?_
      refine r_call (rest := []) S hg hS (mtX7_failsChar (mc := 0) (ms := 0) h) u1203 u1205 u30 u49 u1206 hdX7_failsChar (rv3 hg hw) hw ⟨Nat.le_of_ble_eq_true rfl, Nat.le_of_ble_eq_true rfl⟩ ⟨by show 0 + 0 ≤ mc; omega, by show 0 + 0 ≤ ms; omega⟩ hl.1 (Nat.le_of_ble_eq_true rfl) rfl dX7_endTurn_32 (fun E ce q H1 locs1 hx hS1 hc1 hc2 hc3 => hx.elim) (fun rv H locs hq hS => ?_)
      obtain ⟨r24, M25, ap26, rfl, h, hw⟩ := hq
      show W p l e _ s m _ below meth c H locs _ _ _ (F0 m 35 ls [.int r24])
      show W p l e _ s m _ below meth c H locs 0 0 _ _
      obtain ⟨g27, h⟩ := h
      exact r_iret (y := yX7_endTurn) S hr g27 hlk hS (by omega) (by omega) dX7_endTurn_35 ⟨r24, _, _, rfl, h, hw⟩
  · have h := h.2 c2
    refine lv_aload_n S.1 S.2.1 dX7_endTurn_13 rfl (lv_at hl 0 rfl) ?_
    refine lv_iconst (v := 1) S.1 S.2.1 dX7_endTurn_14 (by decide) ?_
    refine r_call (rest := []) S hg hS (mtX7_failsChar (mc := 0) (ms := 0) h) u1203 u1205 u30 u49 u1206 hdX7_failsChar (rv3 hg hw) hw ⟨Nat.le_of_ble_eq_true rfl, Nat.le_of_ble_eq_true rfl⟩ ⟨by show 0 + 0 ≤ mc; omega, by show 0 + 0 ≤ ms; omega⟩ hl.1 (Nat.le_of_ble_eq_true rfl) rfl dX7_endTurn_15 (fun E ce q H1 locs1 hx hS1 hc1 hc2 hc3 => hx.elim) (fun rv H locs hq hS => ?_)
    obtain ⟨r28, M29, ap30, rfl, h, hw⟩ := hq
    show W p l e _ s m _ below meth c H locs _ _ _ (F0 m 18 ls [.int r28])
    show W p l e _ s m _ below meth c H locs 0 0 _ _
    obtain ⟨g31, h⟩ := h
    exact r_iret (y := yX7_endTurn) S hr g31 hlk hS (by omega) (by omega) dX7_endTurn_18 ⟨r28, _, _, rfl, h, hw⟩

-- X7.duelState
theorem dX7_duelState_0 : decode cX7_duelState 0 = .ok (.aload_n 0, 1) := by decide +kernel
theorem dX7_duelState_1 : decode cX7_duelState 1 = .ok (.iconst 0, 1) := by decide +kernel
theorem dX7_duelState_2 : decode cX7_duelState 2 = .ok (.putfield 98, 3) := by decide +kernel
theorem dX7_duelState_5 : decode cX7_duelState 5 = .ok (.aload_n 0, 1) := by decide +kernel
theorem dX7_duelState_6 : decode cX7_duelState 6 = .ok (.iload_n 1, 1) := by decide +kernel
theorem dX7_duelState_7 : decode cX7_duelState 7 = .ok (.invokevirtual 141, 3) := by decide +kernel
theorem dX7_duelState_10 : decode cX7_duelState 10 = .ok (.ifCond .eq 12, 3) := by decide +kernel
theorem dX7_duelState_13 : decode cX7_duelState 13 = .ok (.aload_n 0, 1) := by decide +kernel
theorem dX7_duelState_14 : decode cX7_duelState 14 = .ok (.getfield 38, 3) := by decide +kernel
theorem dX7_duelState_17 : decode cX7_duelState 17 = .ok (.iload_n 1, 1) := by decide +kernel
theorem dX7_duelState_18 : decode cX7_duelState 18 = .ok (.caload, 1) := by decide +kernel
theorem dX7_duelState_19 : decode cX7_duelState 19 = .ok (.goto 8, 3) := by decide +kernel
theorem dX7_duelState_22 : decode cX7_duelState 22 = .ok (.aload_n 0, 1) := by decide +kernel
theorem dX7_duelState_23 : decode cX7_duelState 23 = .ok (.iconst 1, 1) := by decide +kernel
theorem dX7_duelState_24 : decode cX7_duelState 24 = .ok (.invokevirtual 130, 3) := by decide +kernel
theorem dX7_duelState_27 : decode cX7_duelState 27 = .ok (.ireturn, 1) := by decide +kernel
def wpX7_duelState (post : Int32 → KS → Int64 → Prop) (M : KS) (ap : Int64) (p1 : Int32) : Prop := (wpX7_isDuel (fun r1 => ((r1 = 0 → ((wpX7_failsChar (fun r3 M4 ap5 => (narrow .char (.int r3) = .int r3) ∧ post r3 M4 ap5) (k3 M 3 0 0 0) ap 1))) ∧ (¬ r1 = 0 → ((vp_in p1 8) ∧ ((narrow .char (.int ((k3 M 3 0 0 0) 13 16 p1.toNatClampNeg)) = .int ((k3 M 3 0 0 0) 13 16 p1.toNatClampNeg)) ∧ post ((k3 M 3 0 0 0) 13 16 p1.toNatClampNeg) (k3 M 3 0 0 0) ap))))) (k3 M 3 0 0 0) ap p1)
theorem hdX7_duelState : yX7_duelState.cls ≠ "java/lang/invoke/MethodHandle" ∧ yX7_duelState.cls ≠ "java/lang/invoke/VarHandle" ∧ (parseMethodDescriptor yX7_duelState.desc).map (fun d => d.parameters.length) = some 1 := by decide +kernel
set_option maxHeartbeats 4000000 in
set_option maxRecDepth 100000 in
theorem mtX7_duelState {l : Launch} {D : va_G} {cI : Nat → ClassId} {e0 : Nat} {A : Nat → Prop} {ad : Nat → Nat → Nat} {K M : KS} {ap o : Int64} {od : UInt64} {mc ms : Nat} {p1 : Int32} {post : Int32 → KS → Int64 → Prop} (h : wpX7_duelState post M ap p1) : CM l D cI e0 A yX7_duelState cX7_duelState 2 (some FieldType.char) 2 43 mc ms [.ref (ad 3 0), .int p1] (HT D cI e0 A ad K M ap o od) (qM D cI e0 A ad K o od rI post) xN := by
  refine CM.of (by decide) (Nat.le_of_ble_eq_true rfl) (fun p e s m below meth c ls FX hw hS hl => ?_)
  obtain ⟨S, hg, hr, hlk, hnm, hout⟩ := FX
  have hl : lv_has ls 2 [(0, .ref (ad 3 0)), (1, .int p1)] := hl
  unfold wpX7_duelState at h
  refine lv_aload_n S.1 S.2.1 dX7_duelState_0 rfl (lv_at hl 0 rfl) ?_
  refine lv_iconst (v := 0) S.1 S.2.1 dX7_duelState_1 (by decide) ?_
  refine p3_0 S hg hS hw u1044 dX7_duelState_2 (fun H locs hw hS => ?_)
  refine lv_aload_n S.1 S.2.1 dX7_duelState_5 rfl (lv_at hl 0 rfl) ?_
  refine lv_iload_n S.1 S.2.1 dX7_duelState_6 rfl (lv_at hl 1 rfl) ?_
  refine r_call (rest := []) S hg hS (mtX7_isDuel (mc := 0) (ms := 0) h) u1235 u1237 u32 u49 u1238 hdX7_isDuel (rv3 hg hw) hw ⟨Nat.le_of_ble_eq_true rfl, Nat.le_of_ble_eq_true rfl⟩ ⟨by show 0 + 0 ≤ mc; omega, by show 0 + 0 ≤ ms; omega⟩ hl.1 (Nat.le_of_ble_eq_true rfl) rfl dX7_duelState_7 (fun E ce q H1 locs1 hx hS1 hc1 hc2 hc3 => hx.elim) (fun rv H locs hq hS => ?_)
  obtain ⟨r1, rfl, h, hw⟩ := hq
  show W p l e _ s m _ below meth c H locs _ _ _ (F0 m 10 ls [.int r1])
  show W p l e _ s m _ below meth c H locs 0 0 _ _
  refine lv_if_eq (tgt := 22) S.1 S.2.1 dX7_duelState_10 (by decide) (fun c2 => ?_) (fun c2 => ?_)
  · have h := h.1 c2
    refine lv_aload_n S.1 S.2.1 dX7_duelState_22 rfl (lv_at hl 0 rfl) ?_
    refine lv_iconst (v := 1) S.1 S.2.1 dX7_duelState_23 (by decide) ?_
    refine r_call (rest := []) S hg hS (mtX7_failsChar (mc := 0) (ms := 0) h) u1203 u1205 u30 u49 u1206 hdX7_failsChar (rv3 hg hw) hw ⟨Nat.le_of_ble_eq_true rfl, Nat.le_of_ble_eq_true rfl⟩ ⟨by show 0 + 0 ≤ mc; omega, by show 0 + 0 ≤ ms; omega⟩ hl.1 (Nat.le_of_ble_eq_true rfl) rfl dX7_duelState_24 (fun E ce q H1 locs1 hx hS1 hc1 hc2 hc3 => hx.elim) (fun rv H locs hq hS => ?_)
    obtain ⟨r3, M4, ap5, rfl, h, hw⟩ := hq
    show W p l e _ s m _ below meth c H locs _ _ _ (F0 m 27 ls [.int r3])
    show W p l e _ s m _ below meth c H locs 0 0 _ _
    obtain ⟨g6, h⟩ := h
    exact r_iret (y := yX7_duelState) S hr g6 hlk hS (by omega) (by omega) dX7_duelState_27 ⟨r3, _, _, rfl, h, hw⟩
  · have h := h.2 c2
    refine lv_aload_n S.1 S.2.1 dX7_duelState_13 rfl (lv_at hl 0 rfl) ?_
    refine g3_16 S hg hw u1060 dX7_duelState_14 ?_
    refine lv_iload_n S.1 S.2.1 dX7_duelState_17 rfl (lv_at hl 1 rfl) ?_
    obtain ⟨g7, h⟩ := h
    refine a13 S hg hw rfl g7 dX7_duelState_18 ?_
    refine lv_goto (tgt := 27) S.1 S.2.1 dX7_duelState_19 (by decide) ?_
    obtain ⟨g8, h⟩ := h
    exact r_iret (y := yX7_duelState) S hr g8 hlk hS (by omega) (by omega) dX7_duelState_27 ⟨((k3 M 3 0 0 0) 13 16 p1.toNatClampNeg), _, _, rfl, h, hw⟩

-- X7.life
theorem dX7_life_0 : decode cX7_life 0 = .ok (.aload_n 0, 1) := by decide +kernel
theorem dX7_life_1 : decode cX7_life 1 = .ok (.iconst 0, 1) := by decide +kernel
theorem dX7_life_2 : decode cX7_life 2 = .ok (.putfield 98, 3) := by decide +kernel
theorem dX7_life_5 : decode cX7_life 5 = .ok (.aload_n 0, 1) := by decide +kernel
theorem dX7_life_6 : decode cX7_life 6 = .ok (.iload_n 1, 1) := by decide +kernel
theorem dX7_life_7 : decode cX7_life 7 = .ok (.invokevirtual 141, 3) := by decide +kernel
theorem dX7_life_10 : decode cX7_life 10 = .ok (.ifCond .eq 24, 3) := by decide +kernel
theorem dX7_life_13 : decode cX7_life 13 = .ok (.aload_n 0, 1) := by decide +kernel
theorem dX7_life_14 : decode cX7_life 14 = .ok (.getfield 44, 3) := by decide +kernel
theorem dX7_life_17 : decode cX7_life 17 = .ok (.iconst 2, 1) := by decide +kernel
theorem dX7_life_18 : decode cX7_life 18 = .ok (.iload_n 1, 1) := by decide +kernel
theorem dX7_life_19 : decode cX7_life 19 = .ok (.imul, 1) := by decide +kernel
theorem dX7_life_20 : decode cX7_life 20 = .ok (.iload_n 2, 1) := by decide +kernel
theorem dX7_life_21 : decode cX7_life 21 = .ok (.ifCond .eq 7, 3) := by decide +kernel
theorem dX7_life_24 : decode cX7_life 24 = .ok (.iconst 1, 1) := by decide +kernel
theorem dX7_life_25 : decode cX7_life 25 = .ok (.goto 4, 3) := by decide +kernel
theorem dX7_life_28 : decode cX7_life 28 = .ok (.iconst 0, 1) := by decide +kernel
theorem dX7_life_29 : decode cX7_life 29 = .ok (.iadd, 1) := by decide +kernel
theorem dX7_life_30 : decode cX7_life 30 = .ok (.iaload, 1) := by decide +kernel
theorem dX7_life_31 : decode cX7_life 31 = .ok (.goto 8, 3) := by decide +kernel
theorem dX7_life_34 : decode cX7_life 34 = .ok (.aload_n 0, 1) := by decide +kernel
theorem dX7_life_35 : decode cX7_life 35 = .ok (.iconst 1, 1) := by decide +kernel
theorem dX7_life_36 : decode cX7_life 36 = .ok (.invokevirtual 106, 3) := by decide +kernel
theorem dX7_life_39 : decode cX7_life 39 = .ok (.ireturn, 1) := by decide +kernel
def wpX7_life (post : Int32 → KS → Int64 → Prop) (M : KS) (ap : Int64) (p1 : Int32) (p2 : Int32) : Prop := (wpX7_isDuel (fun r1 => ((r1 = 0 → ((wpX7_fails (fun r3 M4 ap5 => post r3 M4 ap5) (k3 M 3 0 0 0) ap 1))) ∧ (¬ r1 = 0 → (((p2 = 0 → ((vp_in ((2 * p1) + 0) 16) ∧ (post ((k3 M 3 0 0 0) 16 18 (((2 * p1) + 0).toNatClampNeg)) (k3 M 3 0 0 0) ap))) ∧ (¬ p2 = 0 → ((vp_in ((2 * p1) + 1) 16) ∧ (post ((k3 M 3 0 0 0) 16 18 (((2 * p1) + 1).toNatClampNeg)) (k3 M 3 0 0 0) ap)))))))) (k3 M 3 0 0 0) ap p1)
theorem hdX7_life : yX7_life.cls ≠ "java/lang/invoke/MethodHandle" ∧ yX7_life.cls ≠ "java/lang/invoke/VarHandle" ∧ (parseMethodDescriptor yX7_life.desc).map (fun d => d.parameters.length) = some 2 := by decide +kernel
set_option maxHeartbeats 4000000 in
set_option maxRecDepth 100000 in
theorem mtX7_life {l : Launch} {D : va_G} {cI : Nat → ClassId} {e0 : Nat} {A : Nat → Prop} {ad : Nat → Nat → Nat} {K M : KS} {ap o : Int64} {od : UInt64} {mc ms : Nat} {p1 : Int32} {p2 : Int32} {post : Int32 → KS → Int64 → Prop} (h : wpX7_life post M ap p1 p2) : CM l D cI e0 A yX7_life cX7_life 3 (some FieldType.int) 2 43 mc ms [.ref (ad 3 0), .int p1, .int p2] (HT D cI e0 A ad K M ap o od) (qM D cI e0 A ad K o od rI post) xN := by
  refine CM.of (by decide) (Nat.le_of_ble_eq_true rfl) (fun p e s m below meth c ls FX hw hS hl => ?_)
  obtain ⟨S, hg, hr, hlk, hnm, hout⟩ := FX
  have hl : lv_has ls 3 [(0, .ref (ad 3 0)), (1, .int p1), (2, .int p2)] := hl
  unfold wpX7_life at h
  refine lv_aload_n S.1 S.2.1 dX7_life_0 rfl (lv_at hl 0 rfl) ?_
  refine lv_iconst (v := 0) S.1 S.2.1 dX7_life_1 (by decide) ?_
  refine p3_0 S hg hS hw u1044 dX7_life_2 (fun H locs hw hS => ?_)
  refine lv_aload_n S.1 S.2.1 dX7_life_5 rfl (lv_at hl 0 rfl) ?_
  refine lv_iload_n S.1 S.2.1 dX7_life_6 rfl (lv_at hl 1 rfl) ?_
  refine r_call (rest := []) S hg hS (mtX7_isDuel (mc := 0) (ms := 0) h) u1235 u1237 u32 u49 u1238 hdX7_isDuel (rv3 hg hw) hw ⟨Nat.le_of_ble_eq_true rfl, Nat.le_of_ble_eq_true rfl⟩ ⟨by show 0 + 0 ≤ mc; omega, by show 0 + 0 ≤ ms; omega⟩ hl.1 (Nat.le_of_ble_eq_true rfl) rfl dX7_life_7 (fun E ce q H1 locs1 hx hS1 hc1 hc2 hc3 => hx.elim) (fun rv H locs hq hS => ?_)
  obtain ⟨r1, rfl, h, hw⟩ := hq
  show W p l e _ s m _ below meth c H locs _ _ _ (F0 m 10 ls [.int r1])
  show W p l e _ s m _ below meth c H locs 0 0 _ _
  refine lv_if_eq (tgt := 34) S.1 S.2.1 dX7_life_10 (by decide) (fun c2 => ?_) (fun c2 => ?_)
  · have h := h.1 c2
    refine lv_aload_n S.1 S.2.1 dX7_life_34 rfl (lv_at hl 0 rfl) ?_
    refine lv_iconst (v := 1) S.1 S.2.1 dX7_life_35 (by decide) ?_
    refine r_call (rest := []) S hg hS (mtX7_fails (mc := 0) (ms := 0) h) u1171 u1173 u26 u49 u1174 hdX7_fails (rv3 hg hw) hw ⟨Nat.le_of_ble_eq_true rfl, Nat.le_of_ble_eq_true rfl⟩ ⟨by show 0 + 0 ≤ mc; omega, by show 0 + 0 ≤ ms; omega⟩ hl.1 (Nat.le_of_ble_eq_true rfl) rfl dX7_life_36 (fun E ce q H1 locs1 hx hS1 hc1 hc2 hc3 => hx.elim) (fun rv H locs hq hS => ?_)
    obtain ⟨r3, M4, ap5, rfl, h, hw⟩ := hq
    show W p l e _ s m _ below meth c H locs _ _ _ (F0 m 39 ls [.int r3])
    show W p l e _ s m _ below meth c H locs 0 0 _ _
    exact r_iret (y := yX7_life) S hr rfl hlk hS (by omega) (by omega) dX7_life_39 ⟨r3, _, _, rfl, h, hw⟩
  · have h := h.2 c2
    refine lv_aload_n S.1 S.2.1 dX7_life_13 rfl (lv_at hl 0 rfl) ?_
    refine g3_18 S hg hw u1062 dX7_life_14 ?_
    refine lv_iconst (v := 2) S.1 S.2.1 dX7_life_17 (by decide) ?_
    refine lv_iload_n S.1 S.2.1 dX7_life_18 rfl (lv_at hl 1 rfl) ?_
    refine lv_imul S.1 S.2.1 dX7_life_19 ?_
    refine lv_iload_n S.1 S.2.1 dX7_life_20 rfl (lv_at hl 2 rfl) ?_
    refine lv_if_eq (tgt := 28) S.1 S.2.1 dX7_life_21 (by decide) (fun c6 => ?_) (fun c6 => ?_)
    · have h := h.1 c6
      refine lv_iconst (v := 0) S.1 S.2.1 dX7_life_28 (by decide) ?_
      refine lv_iadd S.1 S.2.1 dX7_life_29 ?_
      obtain ⟨g7, h⟩ := h
      refine a16 S hg hw rfl g7 dX7_life_30 ?_
      refine lv_goto (tgt := 39) S.1 S.2.1 dX7_life_31 (by decide) ?_
      exact r_iret (y := yX7_life) S hr rfl hlk hS (by omega) (by omega) dX7_life_39 ⟨((k3 M 3 0 0 0) 16 18 (((2 * p1) + 0).toNatClampNeg)), _, _, rfl, h, hw⟩
    · have h := h.2 c6
      refine lv_iconst (v := 1) S.1 S.2.1 dX7_life_24 (by decide) ?_
      refine lv_goto (tgt := 29) S.1 S.2.1 dX7_life_25 (by decide) ?_
      refine lv_iadd S.1 S.2.1 dX7_life_29 ?_
      obtain ⟨g8, h⟩ := h
      refine a16 S hg hw rfl g8 dX7_life_30 ?_
      refine lv_goto (tgt := 39) S.1 S.2.1 dX7_life_31 (by decide) ?_
      exact r_iret (y := yX7_life) S hr rfl hlk hS (by omega) (by omega) dX7_life_39 ⟨((k3 M 3 0 0 0) 16 18 (((2 * p1) + 1).toNatClampNeg)), _, _, rfl, h, hw⟩

-- X7.mana
theorem dX7_mana_0 : decode cX7_mana 0 = .ok (.aload_n 0, 1) := by decide +kernel
theorem dX7_mana_1 : decode cX7_mana 1 = .ok (.iconst 0, 1) := by decide +kernel
theorem dX7_mana_2 : decode cX7_mana 2 = .ok (.putfield 98, 3) := by decide +kernel
theorem dX7_mana_5 : decode cX7_mana 5 = .ok (.aload_n 0, 1) := by decide +kernel
theorem dX7_mana_6 : decode cX7_mana 6 = .ok (.iload_n 1, 1) := by decide +kernel
theorem dX7_mana_7 : decode cX7_mana 7 = .ok (.invokevirtual 141, 3) := by decide +kernel
theorem dX7_mana_10 : decode cX7_mana 10 = .ok (.ifCond .ne 9, 3) := by decide +kernel
theorem dX7_mana_13 : decode cX7_mana 13 = .ok (.aload_n 0, 1) := by decide +kernel
theorem dX7_mana_14 : decode cX7_mana 14 = .ok (.iconst 1, 1) := by decide +kernel
theorem dX7_mana_15 : decode cX7_mana 15 = .ok (.invokevirtual 106, 3) := by decide +kernel
theorem dX7_mana_18 : decode cX7_mana 18 = .ok (.ireturn, 1) := by decide +kernel
theorem dX7_mana_19 : decode cX7_mana 19 = .ok (.aload_n 0, 1) := by decide +kernel
theorem dX7_mana_20 : decode cX7_mana 20 = .ok (.getfield 38, 3) := by decide +kernel
theorem dX7_mana_23 : decode cX7_mana 23 = .ok (.iload_n 1, 1) := by decide +kernel
theorem dX7_mana_24 : decode cX7_mana 24 = .ok (.caload, 1) := by decide +kernel
theorem dX7_mana_25 : decode cX7_mana 25 = .ok (.bipush 103, 2) := by decide +kernel
theorem dX7_mana_27 : decode cX7_mana 27 = .ok (.if_icmp .ne 12, 3) := by decide +kernel
theorem dX7_mana_30 : decode cX7_mana 30 = .ok (.aload_n 0, 1) := by decide +kernel
theorem dX7_mana_31 : decode cX7_mana 31 = .ok (.getfield 47, 3) := by decide +kernel
theorem dX7_mana_34 : decode cX7_mana 34 = .ok (.iload_n 1, 1) := by decide +kernel
theorem dX7_mana_35 : decode cX7_mana 35 = .ok (.iaload, 1) := by decide +kernel
theorem dX7_mana_36 : decode cX7_mana 36 = .ok (.goto 8, 3) := by decide +kernel
theorem dX7_mana_39 : decode cX7_mana 39 = .ok (.aload_n 0, 1) := by decide +kernel
theorem dX7_mana_40 : decode cX7_mana 40 = .ok (.iconst 2, 1) := by decide +kernel
theorem dX7_mana_41 : decode cX7_mana 41 = .ok (.invokevirtual 106, 3) := by decide +kernel
theorem dX7_mana_44 : decode cX7_mana 44 = .ok (.ireturn, 1) := by decide +kernel
def wpX7_mana (post : Int32 → KS → Int64 → Prop) (M : KS) (ap : Int64) (p1 : Int32) : Prop := (wpX7_isDuel (fun r1 => ((¬ r1 = 0 → ((vp_in p1 8) ∧ (((¬ ((k3 M 3 0 0 0) 13 16 p1.toNatClampNeg) = 103 → ((wpX7_fails (fun r5 M6 ap7 => post r5 M6 ap7) (k3 M 3 0 0 0) ap 2))) ∧ (((k3 M 3 0 0 0) 13 16 p1.toNatClampNeg) = 103 → ((vp_in p1 8) ∧ (post ((k3 M 3 0 0 0) 16 19 p1.toNatClampNeg) (k3 M 3 0 0 0) ap))))))) ∧ (r1 = 0 → ((wpX7_fails (fun r9 M10 ap11 => post r9 M10 ap11) (k3 M 3 0 0 0) ap 1))))) (k3 M 3 0 0 0) ap p1)
theorem hdX7_mana : yX7_mana.cls ≠ "java/lang/invoke/MethodHandle" ∧ yX7_mana.cls ≠ "java/lang/invoke/VarHandle" ∧ (parseMethodDescriptor yX7_mana.desc).map (fun d => d.parameters.length) = some 1 := by decide +kernel
set_option maxHeartbeats 4000000 in
set_option maxRecDepth 100000 in
theorem mtX7_mana {l : Launch} {D : va_G} {cI : Nat → ClassId} {e0 : Nat} {A : Nat → Prop} {ad : Nat → Nat → Nat} {K M : KS} {ap o : Int64} {od : UInt64} {mc ms : Nat} {p1 : Int32} {post : Int32 → KS → Int64 → Prop} (h : wpX7_mana post M ap p1) : CM l D cI e0 A yX7_mana cX7_mana 2 (some FieldType.int) 2 43 mc ms [.ref (ad 3 0), .int p1] (HT D cI e0 A ad K M ap o od) (qM D cI e0 A ad K o od rI post) xN := by
  refine CM.of (by decide) (Nat.le_of_ble_eq_true rfl) (fun p e s m below meth c ls FX hw hS hl => ?_)
  obtain ⟨S, hg, hr, hlk, hnm, hout⟩ := FX
  have hl : lv_has ls 2 [(0, .ref (ad 3 0)), (1, .int p1)] := hl
  unfold wpX7_mana at h
  refine lv_aload_n S.1 S.2.1 dX7_mana_0 rfl (lv_at hl 0 rfl) ?_
  refine lv_iconst (v := 0) S.1 S.2.1 dX7_mana_1 (by decide) ?_
  refine p3_0 S hg hS hw u1044 dX7_mana_2 (fun H locs hw hS => ?_)
  refine lv_aload_n S.1 S.2.1 dX7_mana_5 rfl (lv_at hl 0 rfl) ?_
  refine lv_iload_n S.1 S.2.1 dX7_mana_6 rfl (lv_at hl 1 rfl) ?_
  refine r_call (rest := []) S hg hS (mtX7_isDuel (mc := 0) (ms := 0) h) u1235 u1237 u32 u49 u1238 hdX7_isDuel (rv3 hg hw) hw ⟨Nat.le_of_ble_eq_true rfl, Nat.le_of_ble_eq_true rfl⟩ ⟨by show 0 + 0 ≤ mc; omega, by show 0 + 0 ≤ ms; omega⟩ hl.1 (Nat.le_of_ble_eq_true rfl) rfl dX7_mana_7 (fun E ce q H1 locs1 hx hS1 hc1 hc2 hc3 => hx.elim) (fun rv H locs hq hS => ?_)
  obtain ⟨r1, rfl, h, hw⟩ := hq
  show W p l e _ s m _ below meth c H locs _ _ _ (F0 m 10 ls [.int r1])
  show W p l e _ s m _ below meth c H locs 0 0 _ _
  refine lv_if_ne (tgt := 19) S.1 S.2.1 dX7_mana_10 (by decide) (fun c2 => ?_) (fun c2 => ?_)
  · have h := h.1 c2
    refine lv_aload_n S.1 S.2.1 dX7_mana_19 rfl (lv_at hl 0 rfl) ?_
    refine g3_16 S hg hw u1060 dX7_mana_20 ?_
    refine lv_iload_n S.1 S.2.1 dX7_mana_23 rfl (lv_at hl 1 rfl) ?_
    obtain ⟨g3, h⟩ := h
    refine a13 S hg hw rfl g3 dX7_mana_24 ?_
    refine lv_bipush (v := 103) S.1 S.2.1 dX7_mana_25 (by decide) ?_
    refine lv_icmp_ne (tgt := 39) S.1 S.2.1 dX7_mana_27 (by decide) (fun c4 => ?_) (fun c4 => ?_)
    · have h := h.1 c4
      refine lv_aload_n S.1 S.2.1 dX7_mana_39 rfl (lv_at hl 0 rfl) ?_
      refine lv_iconst (v := 2) S.1 S.2.1 dX7_mana_40 (by decide) ?_
      refine r_call (rest := []) S hg hS (mtX7_fails (mc := 0) (ms := 0) h) u1171 u1173 u26 u49 u1174 hdX7_fails (rv3 hg hw) hw ⟨Nat.le_of_ble_eq_true rfl, Nat.le_of_ble_eq_true rfl⟩ ⟨by show 0 + 0 ≤ mc; omega, by show 0 + 0 ≤ ms; omega⟩ hl.1 (Nat.le_of_ble_eq_true rfl) rfl dX7_mana_41 (fun E ce q H1 locs1 hx hS1 hc1 hc2 hc3 => hx.elim) (fun rv H locs hq hS => ?_)
      obtain ⟨r5, M6, ap7, rfl, h, hw⟩ := hq
      show W p l e _ s m _ below meth c H locs _ _ _ (F0 m 44 ls [.int r5])
      show W p l e _ s m _ below meth c H locs 0 0 _ _
      exact r_iret (y := yX7_mana) S hr rfl hlk hS (by omega) (by omega) dX7_mana_44 ⟨r5, _, _, rfl, h, hw⟩
    · have h := h.2 c4
      refine lv_aload_n S.1 S.2.1 dX7_mana_30 rfl (lv_at hl 0 rfl) ?_
      refine g3_19 S hg hw u1063 dX7_mana_31 ?_
      refine lv_iload_n S.1 S.2.1 dX7_mana_34 rfl (lv_at hl 1 rfl) ?_
      obtain ⟨g8, h⟩ := h
      refine a16 S hg hw rfl g8 dX7_mana_35 ?_
      refine lv_goto (tgt := 44) S.1 S.2.1 dX7_mana_36 (by decide) ?_
      exact r_iret (y := yX7_mana) S hr rfl hlk hS (by omega) (by omega) dX7_mana_44 ⟨((k3 M 3 0 0 0) 16 19 p1.toNatClampNeg), _, _, rfl, h, hw⟩
  · have h := h.2 c2
    refine lv_aload_n S.1 S.2.1 dX7_mana_13 rfl (lv_at hl 0 rfl) ?_
    refine lv_iconst (v := 1) S.1 S.2.1 dX7_mana_14 (by decide) ?_
    refine r_call (rest := []) S hg hS (mtX7_fails (mc := 0) (ms := 0) h) u1171 u1173 u26 u49 u1174 hdX7_fails (rv3 hg hw) hw ⟨Nat.le_of_ble_eq_true rfl, Nat.le_of_ble_eq_true rfl⟩ ⟨by show 0 + 0 ≤ mc; omega, by show 0 + 0 ≤ ms; omega⟩ hl.1 (Nat.le_of_ble_eq_true rfl) rfl dX7_mana_15 (fun E ce q H1 locs1 hx hS1 hc1 hc2 hc3 => hx.elim) (fun rv H locs hq hS => ?_)
    obtain ⟨r9, M10, ap11, rfl, h, hw⟩ := hq
    show W p l e _ s m _ below meth c H locs _ _ _ (F0 m 18 ls [.int r9])
    show W p l e _ s m _ below meth c H locs 0 0 _ _
    exact r_iret (y := yX7_mana) S hr rfl hlk hS (by omega) (by omega) dX7_mana_18 ⟨r9, _, _, rfl, h, hw⟩

-- X7.depth
theorem dX7_depth_0 : decode cX7_depth 0 = .ok (.aload_n 0, 1) := by decide +kernel
theorem dX7_depth_1 : decode cX7_depth 1 = .ok (.iconst 0, 1) := by decide +kernel
theorem dX7_depth_2 : decode cX7_depth 2 = .ok (.putfield 98, 3) := by decide +kernel
theorem dX7_depth_5 : decode cX7_depth 5 = .ok (.aload_n 0, 1) := by decide +kernel
theorem dX7_depth_6 : decode cX7_depth 6 = .ok (.iload_n 1, 1) := by decide +kernel
theorem dX7_depth_7 : decode cX7_depth 7 = .ok (.invokevirtual 141, 3) := by decide +kernel
theorem dX7_depth_10 : decode cX7_depth 10 = .ok (.ifCond .eq 12, 3) := by decide +kernel
theorem dX7_depth_13 : decode cX7_depth 13 = .ok (.aload_n 0, 1) := by decide +kernel
theorem dX7_depth_14 : decode cX7_depth 14 = .ok (.getfield 62, 3) := by decide +kernel
theorem dX7_depth_17 : decode cX7_depth 17 = .ok (.iload_n 1, 1) := by decide +kernel
theorem dX7_depth_18 : decode cX7_depth 18 = .ok (.iaload, 1) := by decide +kernel
theorem dX7_depth_19 : decode cX7_depth 19 = .ok (.goto 8, 3) := by decide +kernel
theorem dX7_depth_22 : decode cX7_depth 22 = .ok (.aload_n 0, 1) := by decide +kernel
theorem dX7_depth_23 : decode cX7_depth 23 = .ok (.iconst 1, 1) := by decide +kernel
theorem dX7_depth_24 : decode cX7_depth 24 = .ok (.invokevirtual 106, 3) := by decide +kernel
theorem dX7_depth_27 : decode cX7_depth 27 = .ok (.ireturn, 1) := by decide +kernel
def wpX7_depth (post : Int32 → KS → Int64 → Prop) (M : KS) (ap : Int64) (p1 : Int32) : Prop := (wpX7_isDuel (fun r1 => ((r1 = 0 → ((wpX7_fails (fun r3 M4 ap5 => post r3 M4 ap5) (k3 M 3 0 0 0) ap 1))) ∧ (¬ r1 = 0 → ((vp_in p1 8) ∧ (post ((k3 M 3 0 0 0) 16 24 p1.toNatClampNeg) (k3 M 3 0 0 0) ap))))) (k3 M 3 0 0 0) ap p1)
theorem hdX7_depth : yX7_depth.cls ≠ "java/lang/invoke/MethodHandle" ∧ yX7_depth.cls ≠ "java/lang/invoke/VarHandle" ∧ (parseMethodDescriptor yX7_depth.desc).map (fun d => d.parameters.length) = some 1 := by decide +kernel
set_option maxHeartbeats 4000000 in
set_option maxRecDepth 100000 in
theorem mtX7_depth {l : Launch} {D : va_G} {cI : Nat → ClassId} {e0 : Nat} {A : Nat → Prop} {ad : Nat → Nat → Nat} {K M : KS} {ap o : Int64} {od : UInt64} {mc ms : Nat} {p1 : Int32} {post : Int32 → KS → Int64 → Prop} (h : wpX7_depth post M ap p1) : CM l D cI e0 A yX7_depth cX7_depth 2 (some FieldType.int) 2 43 mc ms [.ref (ad 3 0), .int p1] (HT D cI e0 A ad K M ap o od) (qM D cI e0 A ad K o od rI post) xN := by
  refine CM.of (by decide) (Nat.le_of_ble_eq_true rfl) (fun p e s m below meth c ls FX hw hS hl => ?_)
  obtain ⟨S, hg, hr, hlk, hnm, hout⟩ := FX
  have hl : lv_has ls 2 [(0, .ref (ad 3 0)), (1, .int p1)] := hl
  unfold wpX7_depth at h
  refine lv_aload_n S.1 S.2.1 dX7_depth_0 rfl (lv_at hl 0 rfl) ?_
  refine lv_iconst (v := 0) S.1 S.2.1 dX7_depth_1 (by decide) ?_
  refine p3_0 S hg hS hw u1044 dX7_depth_2 (fun H locs hw hS => ?_)
  refine lv_aload_n S.1 S.2.1 dX7_depth_5 rfl (lv_at hl 0 rfl) ?_
  refine lv_iload_n S.1 S.2.1 dX7_depth_6 rfl (lv_at hl 1 rfl) ?_
  refine r_call (rest := []) S hg hS (mtX7_isDuel (mc := 0) (ms := 0) h) u1235 u1237 u32 u49 u1238 hdX7_isDuel (rv3 hg hw) hw ⟨Nat.le_of_ble_eq_true rfl, Nat.le_of_ble_eq_true rfl⟩ ⟨by show 0 + 0 ≤ mc; omega, by show 0 + 0 ≤ ms; omega⟩ hl.1 (Nat.le_of_ble_eq_true rfl) rfl dX7_depth_7 (fun E ce q H1 locs1 hx hS1 hc1 hc2 hc3 => hx.elim) (fun rv H locs hq hS => ?_)
  obtain ⟨r1, rfl, h, hw⟩ := hq
  show W p l e _ s m _ below meth c H locs _ _ _ (F0 m 10 ls [.int r1])
  show W p l e _ s m _ below meth c H locs 0 0 _ _
  refine lv_if_eq (tgt := 22) S.1 S.2.1 dX7_depth_10 (by decide) (fun c2 => ?_) (fun c2 => ?_)
  · have h := h.1 c2
    refine lv_aload_n S.1 S.2.1 dX7_depth_22 rfl (lv_at hl 0 rfl) ?_
    refine lv_iconst (v := 1) S.1 S.2.1 dX7_depth_23 (by decide) ?_
    refine r_call (rest := []) S hg hS (mtX7_fails (mc := 0) (ms := 0) h) u1171 u1173 u26 u49 u1174 hdX7_fails (rv3 hg hw) hw ⟨Nat.le_of_ble_eq_true rfl, Nat.le_of_ble_eq_true rfl⟩ ⟨by show 0 + 0 ≤ mc; omega, by show 0 + 0 ≤ ms; omega⟩ hl.1 (Nat.le_of_ble_eq_true rfl) rfl dX7_depth_24 (fun E ce q H1 locs1 hx hS1 hc1 hc2 hc3 => hx.elim) (fun rv H locs hq hS => ?_)
    obtain ⟨r3, M4, ap5, rfl, h, hw⟩ := hq
    show W p l e _ s m _ below meth c H locs _ _ _ (F0 m 27 ls [.int r3])
    show W p l e _ s m _ below meth c H locs 0 0 _ _
    exact r_iret (y := yX7_depth) S hr rfl hlk hS (by omega) (by omega) dX7_depth_27 ⟨r3, _, _, rfl, h, hw⟩
  · have h := h.2 c2
    refine lv_aload_n S.1 S.2.1 dX7_depth_13 rfl (lv_at hl 0 rfl) ?_
    refine g3_24 S hg hw u1068 dX7_depth_14 ?_
    refine lv_iload_n S.1 S.2.1 dX7_depth_17 rfl (lv_at hl 1 rfl) ?_
    obtain ⟨g6, h⟩ := h
    refine a16 S hg hw rfl g6 dX7_depth_18 ?_
    refine lv_goto (tgt := 27) S.1 S.2.1 dX7_depth_19 (by decide) ?_
    exact r_iret (y := yX7_depth) S hr rfl hlk hS (by omega) (by omega) dX7_depth_27 ⟨((k3 M 3 0 0 0) 16 24 p1.toNatClampNeg), _, _, rfl, h, hw⟩

-- X7.winner
theorem dX7_winner_0 : decode cX7_winner 0 = .ok (.aload_n 0, 1) := by decide +kernel
theorem dX7_winner_1 : decode cX7_winner 1 = .ok (.iconst 0, 1) := by decide +kernel
theorem dX7_winner_2 : decode cX7_winner 2 = .ok (.putfield 98, 3) := by decide +kernel
theorem dX7_winner_5 : decode cX7_winner 5 = .ok (.aload_n 0, 1) := by decide +kernel
theorem dX7_winner_6 : decode cX7_winner 6 = .ok (.iload_n 1, 1) := by decide +kernel
theorem dX7_winner_7 : decode cX7_winner 7 = .ok (.invokevirtual 141, 3) := by decide +kernel
theorem dX7_winner_10 : decode cX7_winner 10 = .ok (.ifCond .ne 9, 3) := by decide +kernel
theorem dX7_winner_13 : decode cX7_winner 13 = .ok (.aload_n 0, 1) := by decide +kernel
theorem dX7_winner_14 : decode cX7_winner 14 = .ok (.iconst 1, 1) := by decide +kernel
theorem dX7_winner_15 : decode cX7_winner 15 = .ok (.invokevirtual 106, 3) := by decide +kernel
theorem dX7_winner_18 : decode cX7_winner 18 = .ok (.ireturn, 1) := by decide +kernel
theorem dX7_winner_19 : decode cX7_winner 19 = .ok (.aload_n 0, 1) := by decide +kernel
theorem dX7_winner_20 : decode cX7_winner 20 = .ok (.getfield 38, 3) := by decide +kernel
theorem dX7_winner_23 : decode cX7_winner 23 = .ok (.iload_n 1, 1) := by decide +kernel
theorem dX7_winner_24 : decode cX7_winner 24 = .ok (.caload, 1) := by decide +kernel
theorem dX7_winner_25 : decode cX7_winner 25 = .ok (.bipush 101, 2) := by decide +kernel
theorem dX7_winner_27 : decode cX7_winner 27 = .ok (.if_icmp .eq 14, 3) := by decide +kernel
theorem dX7_winner_30 : decode cX7_winner 30 = .ok (.aload_n 0, 1) := by decide +kernel
theorem dX7_winner_31 : decode cX7_winner 31 = .ok (.getfield 38, 3) := by decide +kernel
theorem dX7_winner_34 : decode cX7_winner 34 = .ok (.iload_n 1, 1) := by decide +kernel
theorem dX7_winner_35 : decode cX7_winner 35 = .ok (.caload, 1) := by decide +kernel
theorem dX7_winner_36 : decode cX7_winner 36 = .ok (.bipush 102, 2) := by decide +kernel
theorem dX7_winner_38 : decode cX7_winner 38 = .ok (.if_icmp .ne 12, 3) := by decide +kernel
theorem dX7_winner_41 : decode cX7_winner 41 = .ok (.aload_n 0, 1) := by decide +kernel
theorem dX7_winner_42 : decode cX7_winner 42 = .ok (.getfield 41, 3) := by decide +kernel
theorem dX7_winner_45 : decode cX7_winner 45 = .ok (.iload_n 1, 1) := by decide +kernel
theorem dX7_winner_46 : decode cX7_winner 46 = .ok (.iaload, 1) := by decide +kernel
theorem dX7_winner_47 : decode cX7_winner 47 = .ok (.goto 8, 3) := by decide +kernel
theorem dX7_winner_50 : decode cX7_winner 50 = .ok (.aload_n 0, 1) := by decide +kernel
theorem dX7_winner_51 : decode cX7_winner 51 = .ok (.iconst 2, 1) := by decide +kernel
theorem dX7_winner_52 : decode cX7_winner 52 = .ok (.invokevirtual 106, 3) := by decide +kernel
theorem dX7_winner_55 : decode cX7_winner 55 = .ok (.ireturn, 1) := by decide +kernel
def wpX7_winner (post : Int32 → KS → Int64 → Prop) (M : KS) (ap : Int64) (p1 : Int32) : Prop := (wpX7_isDuel (fun r1 => ((¬ r1 = 0 → ((vp_in p1 8) ∧ (((((k3 M 3 0 0 0) 13 16 p1.toNatClampNeg) = 101 → ((vp_in p1 8) ∧ (post ((k3 M 3 0 0 0) 16 17 p1.toNatClampNeg) (k3 M 3 0 0 0) ap))) ∧ (¬ ((k3 M 3 0 0 0) 13 16 p1.toNatClampNeg) = 101 → (((¬ ((k3 M 3 0 0 0) 13 16 p1.toNatClampNeg) = 102 → ((wpX7_fails (fun r7 M8 ap9 => post r7 M8 ap9) (k3 M 3 0 0 0) ap 2))) ∧ (((k3 M 3 0 0 0) 13 16 p1.toNatClampNeg) = 102 → ((vp_in p1 8) ∧ (post ((k3 M 3 0 0 0) 16 17 p1.toNatClampNeg) (k3 M 3 0 0 0) ap)))))))))) ∧ (r1 = 0 → ((wpX7_fails (fun r11 M12 ap13 => post r11 M12 ap13) (k3 M 3 0 0 0) ap 1))))) (k3 M 3 0 0 0) ap p1)
theorem hdX7_winner : yX7_winner.cls ≠ "java/lang/invoke/MethodHandle" ∧ yX7_winner.cls ≠ "java/lang/invoke/VarHandle" ∧ (parseMethodDescriptor yX7_winner.desc).map (fun d => d.parameters.length) = some 1 := by decide +kernel
set_option maxHeartbeats 4000000 in
set_option maxRecDepth 100000 in
theorem mtX7_winner {l : Launch} {D : va_G} {cI : Nat → ClassId} {e0 : Nat} {A : Nat → Prop} {ad : Nat → Nat → Nat} {K M : KS} {ap o : Int64} {od : UInt64} {mc ms : Nat} {p1 : Int32} {post : Int32 → KS → Int64 → Prop} (h : wpX7_winner post M ap p1) : CM l D cI e0 A yX7_winner cX7_winner 2 (some FieldType.int) 2 43 mc ms [.ref (ad 3 0), .int p1] (HT D cI e0 A ad K M ap o od) (qM D cI e0 A ad K o od rI post) xN := by
  refine CM.of (by decide) (Nat.le_of_ble_eq_true rfl) (fun p e s m below meth c ls FX hw hS hl => ?_)
  obtain ⟨S, hg, hr, hlk, hnm, hout⟩ := FX
  have hl : lv_has ls 2 [(0, .ref (ad 3 0)), (1, .int p1)] := hl
  unfold wpX7_winner at h
  refine lv_aload_n S.1 S.2.1 dX7_winner_0 rfl (lv_at hl 0 rfl) ?_
  refine lv_iconst (v := 0) S.1 S.2.1 dX7_winner_1 (by decide) ?_
  refine p3_0 S hg hS hw u1044 dX7_winner_2 (fun H locs hw hS => ?_)
  refine lv_aload_n S.1 S.2.1 dX7_winner_5 rfl (lv_at hl 0 rfl) ?_
  refine lv_iload_n S.1 S.2.1 dX7_winner_6 rfl (lv_at hl 1 rfl) ?_
  refine r_call (rest := []) S hg hS (mtX7_isDuel (mc := 0) (ms := 0) h) u1235 u1237 u32 u49 u1238 hdX7_isDuel (rv3 hg hw) hw ⟨Nat.le_of_ble_eq_true rfl, Nat.le_of_ble_eq_true rfl⟩ ⟨by show 0 + 0 ≤ mc; omega, by show 0 + 0 ≤ ms; omega⟩ hl.1 (Nat.le_of_ble_eq_true rfl) rfl dX7_winner_7 (fun E ce q H1 locs1 hx hS1 hc1 hc2 hc3 => hx.elim) (fun rv H locs hq hS => ?_)
  obtain ⟨r1, rfl, h, hw⟩ := hq
  show W p l e _ s m _ below meth c H locs _ _ _ (F0 m 10 ls [.int r1])
  show W p l e _ s m _ below meth c H locs 0 0 _ _
  refine lv_if_ne (tgt := 19) S.1 S.2.1 dX7_winner_10 (by decide) (fun c2 => ?_) (fun c2 => ?_)
  · have h := h.1 c2
    refine lv_aload_n S.1 S.2.1 dX7_winner_19 rfl (lv_at hl 0 rfl) ?_
    refine g3_16 S hg hw u1060 dX7_winner_20 ?_
    refine lv_iload_n S.1 S.2.1 dX7_winner_23 rfl (lv_at hl 1 rfl) ?_
    obtain ⟨g3, h⟩ := h
    refine a13 S hg hw rfl g3 dX7_winner_24 ?_
    refine lv_bipush (v := 101) S.1 S.2.1 dX7_winner_25 (by decide) ?_
    refine lv_icmp_eq (tgt := 41) S.1 S.2.1 dX7_winner_27 (by decide) (fun c4 => ?_) (fun c4 => ?_)
    · have h := h.1 c4
      refine lv_aload_n S.1 S.2.1 dX7_winner_41 rfl (lv_at hl 0 rfl) ?_
      refine g3_17 S hg hw u1061 dX7_winner_42 ?_
      refine lv_iload_n S.1 S.2.1 dX7_winner_45 rfl (lv_at hl 1 rfl) ?_
      obtain ⟨g5, h⟩ := h
      refine a16 S hg hw rfl g5 dX7_winner_46 ?_
      refine lv_goto (tgt := 55) S.1 S.2.1 dX7_winner_47 (by decide) ?_
      exact r_iret (y := yX7_winner) S hr rfl hlk hS (by omega) (by omega) dX7_winner_55 ⟨((k3 M 3 0 0 0) 16 17 p1.toNatClampNeg), _, _, rfl, h, hw⟩
    · have h := h.2 c4
      refine lv_aload_n S.1 S.2.1 dX7_winner_30 rfl (lv_at hl 0 rfl) ?_
      refine g3_16 S hg hw u1060 dX7_winner_31 ?_
      refine lv_iload_n S.1 S.2.1 dX7_winner_34 rfl (lv_at hl 1 rfl) ?_
      refine a13 S hg hw rfl g3 dX7_winner_35 ?_
      refine lv_bipush (v := 102) S.1 S.2.1 dX7_winner_36 (by decide) ?_
      refine lv_icmp_ne (tgt := 50) S.1 S.2.1 dX7_winner_38 (by decide) (fun c6 => ?_) (fun c6 => ?_)
      · have h := h.1 c6
        refine lv_aload_n S.1 S.2.1 dX7_winner_50 rfl (lv_at hl 0 rfl) ?_
        refine lv_iconst (v := 2) S.1 S.2.1 dX7_winner_51 (by decide) ?_
        refine r_call (rest := []) S hg hS (mtX7_fails (mc := 0) (ms := 0) h) u1171 u1173 u26 u49 u1174 hdX7_fails (rv3 hg hw) hw ⟨Nat.le_of_ble_eq_true rfl, Nat.le_of_ble_eq_true rfl⟩ ⟨by show 0 + 0 ≤ mc; omega, by show 0 + 0 ≤ ms; omega⟩ hl.1 (Nat.le_of_ble_eq_true rfl) rfl dX7_winner_52 (fun E ce q H1 locs1 hx hS1 hc1 hc2 hc3 => hx.elim) (fun rv H locs hq hS => ?_)
        obtain ⟨r7, M8, ap9, rfl, h, hw⟩ := hq
        show W p l e _ s m _ below meth c H locs _ _ _ (F0 m 55 ls [.int r7])
        show W p l e _ s m _ below meth c H locs 0 0 _ _
        exact r_iret (y := yX7_winner) S hr rfl hlk hS (by omega) (by omega) dX7_winner_55 ⟨r7, _, _, rfl, h, hw⟩
      · have h := h.2 c6
        refine lv_aload_n S.1 S.2.1 dX7_winner_41 rfl (lv_at hl 0 rfl) ?_
        refine g3_17 S hg hw u1061 dX7_winner_42 ?_
        refine lv_iload_n S.1 S.2.1 dX7_winner_45 rfl (lv_at hl 1 rfl) ?_
        obtain ⟨g10, h⟩ := h
        refine a16 S hg hw rfl g10 dX7_winner_46 ?_
        refine lv_goto (tgt := 55) S.1 S.2.1 dX7_winner_47 (by decide) ?_
        exact r_iret (y := yX7_winner) S hr rfl hlk hS (by omega) (by omega) dX7_winner_55 ⟨((k3 M 3 0 0 0) 16 17 p1.toNatClampNeg), _, _, rfl, h, hw⟩
  · have h := h.2 c2
    refine lv_aload_n S.1 S.2.1 dX7_winner_13 rfl (lv_at hl 0 rfl) ?_
    refine lv_iconst (v := 1) S.1 S.2.1 dX7_winner_14 (by decide) ?_
    refine r_call (rest := []) S hg hS (mtX7_fails (mc := 0) (ms := 0) h) u1171 u1173 u26 u49 u1174 hdX7_fails (rv3 hg hw) hw ⟨Nat.le_of_ble_eq_true rfl, Nat.le_of_ble_eq_true rfl⟩ ⟨by show 0 + 0 ≤ mc; omega, by show 0 + 0 ≤ ms; omega⟩ hl.1 (Nat.le_of_ble_eq_true rfl) rfl dX7_winner_15 (fun E ce q H1 locs1 hx hS1 hc1 hc2 hc3 => hx.elim) (fun rv H locs hq hS => ?_)
    obtain ⟨r11, M12, ap13, rfl, h, hw⟩ := hq
    show W p l e _ s m _ below meth c H locs _ _ _ (F0 m 18 ls [.int r11])
    show W p l e _ s m _ below meth c H locs 0 0 _ _
    exact r_iret (y := yX7_winner) S hr rfl hlk hS (by omega) (by omega) dX7_winner_18 ⟨r11, _, _, rfl, h, hw⟩

-- X7.pays
theorem dX7_pays_0 : decode cX7_pays 0 = .ok (.aload_n 0, 1) := by decide +kernel
theorem dX7_pays_1 : decode cX7_pays 1 = .ok (.getfield 80, 3) := by decide +kernel
theorem dX7_pays_4 : decode cX7_pays 4 = .ok (.iload_n 1, 1) := by decide +kernel
theorem dX7_pays_5 : decode cX7_pays 5 = .ok (.iaload, 1) := by decide +kernel
theorem dX7_pays_6 : decode cX7_pays 6 = .ok (.bipush 9, 2) := by decide +kernel
theorem dX7_pays_8 : decode cX7_pays 8 = .ok (.iadd, 1) := by decide +kernel
theorem dX7_pays_9 : decode cX7_pays 9 = .ok (.bipush 10, 2) := by decide +kernel
theorem dX7_pays_11 : decode cX7_pays 11 = .ok (.idiv, 1) := by decide +kernel
theorem dX7_pays_12 : decode cX7_pays 12 = .ok (.istore_n 2, 1) := by decide +kernel
theorem dX7_pays_13 : decode cX7_pays 13 = .ok (.aload_n 0, 1) := by decide +kernel
theorem dX7_pays_14 : decode cX7_pays 14 = .ok (.dup, 1) := by decide +kernel
theorem dX7_pays_15 : decode cX7_pays 15 = .ok (.getfield 164, 3) := by decide +kernel
theorem dX7_pays_18 : decode cX7_pays 18 = .ok (.iload_n 2, 1) := by decide +kernel
theorem dX7_pays_19 : decode cX7_pays 19 = .ok (.iadd, 1) := by decide +kernel
theorem dX7_pays_20 : decode cX7_pays 20 = .ok (.putfield 164, 3) := by decide +kernel
theorem dX7_pays_23 : decode cX7_pays 23 = .ok (.aload_n 0, 1) := by decide +kernel
theorem dX7_pays_24 : decode cX7_pays 24 = .ok (.getfield 7, 3) := by decide +kernel
theorem dX7_pays_27 : decode cX7_pays 27 = .ok (.aload_n 0, 1) := by decide +kernel
theorem dX7_pays_28 : decode cX7_pays 28 = .ok (.getfield 86, 3) := by decide +kernel
theorem dX7_pays_31 : decode cX7_pays 31 = .ok (.iload_n 1, 1) := by decide +kernel
theorem dX7_pays_32 : decode cX7_pays 32 = .ok (.iaload, 1) := by decide +kernel
theorem dX7_pays_33 : decode cX7_pays 33 = .ok (.dup2, 1) := by decide +kernel
theorem dX7_pays_34 : decode cX7_pays 34 = .ok (.iaload, 1) := by decide +kernel
theorem dX7_pays_35 : decode cX7_pays 35 = .ok (.aload_n 0, 1) := by decide +kernel
theorem dX7_pays_36 : decode cX7_pays 36 = .ok (.getfield 80, 3) := by decide +kernel
theorem dX7_pays_39 : decode cX7_pays 39 = .ok (.iload_n 1, 1) := by decide +kernel
theorem dX7_pays_40 : decode cX7_pays 40 = .ok (.iaload, 1) := by decide +kernel
theorem dX7_pays_41 : decode cX7_pays 41 = .ok (.iload_n 2, 1) := by decide +kernel
theorem dX7_pays_42 : decode cX7_pays 42 = .ok (.isub, 1) := by decide +kernel
theorem dX7_pays_43 : decode cX7_pays 43 = .ok (.iadd, 1) := by decide +kernel
theorem dX7_pays_44 : decode cX7_pays 44 = .ok (.iastore, 1) := by decide +kernel
theorem dX7_pays_45 : decode cX7_pays 45 = .ok (.return_, 1) := by decide +kernel
def wpX7_pays (post : Unit → KS → Int64 → Prop) (M : KS) (ap : Int64) (p1 : Int32) : Prop := (vp_in p1 60) ∧ (∀ x2 : Int32, x2 = ((M 16 31 p1.toNatClampNeg) + 9) / 10 → ((vp_in p1 60) ∧ ((vp_in ((k3 M 3 3 0 ((M 3 3 0) + x2)) 16 33 p1.toNatClampNeg) 6) ∧ (post () (k3 (k3 M 3 3 0 ((M 3 3 0) + x2)) 16 2 (((k3 M 3 3 0 ((M 3 3 0) + x2)) 16 33 p1.toNatClampNeg).toNatClampNeg) (((k3 M 3 3 0 ((M 3 3 0) + x2)) 16 2 (((k3 M 3 3 0 ((M 3 3 0) + x2)) 16 33 p1.toNatClampNeg).toNatClampNeg)) + (((k3 M 3 3 0 ((M 3 3 0) + x2)) 16 31 p1.toNatClampNeg) - x2))) ap))))
theorem hdX7_pays : yX7_pays.cls ≠ "java/lang/invoke/MethodHandle" ∧ yX7_pays.cls ≠ "java/lang/invoke/VarHandle" ∧ (parseMethodDescriptor yX7_pays.desc).map (fun d => d.parameters.length) = some 1 := by decide +kernel
set_option maxHeartbeats 4000000 in
set_option maxRecDepth 100000 in
theorem mtX7_pays {l : Launch} {D : va_G} {cI : Nat → ClassId} {e0 : Nat} {A : Nat → Prop} {ad : Nat → Nat → Nat} {K M : KS} {ap o : Int64} {od : UInt64} {mc ms : Nat} {p1 : Int32} {post : Unit → KS → Int64 → Prop} (h : wpX7_pays post M ap p1) : CM l D cI e0 A yX7_pays cX7_pays 3 none 0 0 mc ms [.ref (ad 3 0), .int p1] (HT D cI e0 A ad K M ap o od) (qM D cI e0 A ad K o od rV post) xN := by
  refine CM.of (by decide) (Nat.le_of_ble_eq_true rfl) (fun p e s m below meth c ls FX hw hS hl => ?_)
  obtain ⟨S, hg, hr, hlk, hnm, hout⟩ := FX
  have hl : lv_has ls 3 [(0, .ref (ad 3 0)), (1, .int p1)] := hl
  unfold wpX7_pays at h
  refine lv_aload_n S.1 S.2.1 dX7_pays_0 rfl (lv_at hl 0 rfl) ?_
  refine g3_31 S hg hw u1075 dX7_pays_1 ?_
  refine lv_iload_n S.1 S.2.1 dX7_pays_4 rfl (lv_at hl 1 rfl) ?_
  obtain ⟨g1, h⟩ := h
  refine a16 S hg hw rfl g1 dX7_pays_5 ?_
  refine lv_bipush (v := 9) S.1 S.2.1 dX7_pays_6 (by decide) ?_
  refine lv_iadd S.1 S.2.1 dX7_pays_8 ?_
  refine lv_bipush (v := 10) S.1 S.2.1 dX7_pays_9 (by decide) ?_
  refine lv_idiv S.1 S.2.1 dX7_pays_11 (by decide) ?_
  refine lv_topi (fun x2 ex2 => ?_)
  have h := h x2 ex2
  refine lv_istore_n (lv' := [(2, .int x2), (0, .ref (ad 3 0)), (1, .int p1)]) S.1 S.2.1 dX7_pays_12 rfl hl (by decide) rfl (fun ls hl => ?_)
  refine lv_aload_n S.1 S.2.1 dX7_pays_13 rfl (lv_at hl 1 rfl) ?_
  refine lv_dup S.1 S.2.1 dX7_pays_14 rfl ?_
  refine g3_3 S hg hw u1047 dX7_pays_15 ?_
  refine lv_iload_n S.1 S.2.1 dX7_pays_18 rfl (lv_at hl 0 rfl) ?_
  refine lv_iadd S.1 S.2.1 dX7_pays_19 ?_
  refine p3_3 S hg hS hw u1047 dX7_pays_20 (fun H locs hw hS => ?_)
  refine lv_aload_n S.1 S.2.1 dX7_pays_23 rfl (lv_at hl 1 rfl) ?_
  refine g3_2 S hg hw u1046 dX7_pays_24 ?_
  refine lv_aload_n S.1 S.2.1 dX7_pays_27 rfl (lv_at hl 1 rfl) ?_
  refine g3_33 S hg hw u1077 dX7_pays_28 ?_
  refine lv_iload_n S.1 S.2.1 dX7_pays_31 rfl (lv_at hl 2 rfl) ?_
  obtain ⟨g3, h⟩ := h
  refine a16 S hg hw rfl g3 dX7_pays_32 ?_
  refine lv_dup2_11 S.1 S.2.1 dX7_pays_33 rfl rfl ?_
  obtain ⟨g4, h⟩ := h
  refine a16 S hg hw rfl g4 dX7_pays_34 ?_
  refine lv_aload_n S.1 S.2.1 dX7_pays_35 rfl (lv_at hl 1 rfl) ?_
  refine g3_31 S hg hw u1075 dX7_pays_36 ?_
  refine lv_iload_n S.1 S.2.1 dX7_pays_39 rfl (lv_at hl 2 rfl) ?_
  refine a16 S hg hw rfl g1 dX7_pays_40 ?_
  refine lv_iload_n S.1 S.2.1 dX7_pays_41 rfl (lv_at hl 0 rfl) ?_
  refine lv_isub S.1 S.2.1 dX7_pays_42 ?_
  refine lv_iadd S.1 S.2.1 dX7_pays_43 ?_
  refine s16 S hg hS hw rfl g4 dX7_pays_44 (fun H locs hw hS => ?_)
  exact r_vret (y := yX7_pays) S hr hlk hS (by omega) (by omega) dX7_pays_45 ⟨(), _, _, rfl, h, hw⟩

-- X7.close
theorem dX7_close_0 : decode cX7_close 0 = .ok (.aload_n 0, 1) := by decide +kernel
theorem dX7_close_1 : decode cX7_close 1 = .ok (.iconst 0, 1) := by decide +kernel
theorem dX7_close_2 : decode cX7_close 2 = .ok (.putfield 98, 3) := by decide +kernel
theorem dX7_close_5 : decode cX7_close 5 = .ok (.aload_n 0, 1) := by decide +kernel
theorem dX7_close_6 : decode cX7_close 6 = .ok (.iload_n 1, 1) := by decide +kernel
theorem dX7_close_7 : decode cX7_close 7 = .ok (.invokevirtual 141, 3) := by decide +kernel
theorem dX7_close_10 : decode cX7_close 10 = .ok (.ifCond .ne 9, 3) := by decide +kernel
theorem dX7_close_13 : decode cX7_close 13 = .ok (.aload_n 0, 1) := by decide +kernel
theorem dX7_close_14 : decode cX7_close 14 = .ok (.iconst 1, 1) := by decide +kernel
theorem dX7_close_15 : decode cX7_close 15 = .ok (.invokevirtual 106, 3) := by decide +kernel
theorem dX7_close_18 : decode cX7_close 18 = .ok (.ireturn, 1) := by decide +kernel
theorem dX7_close_19 : decode cX7_close 19 = .ok (.aload_n 0, 1) := by decide +kernel
theorem dX7_close_20 : decode cX7_close 20 = .ok (.getfield 38, 3) := by decide +kernel
theorem dX7_close_23 : decode cX7_close 23 = .ok (.iload_n 1, 1) := by decide +kernel
theorem dX7_close_24 : decode cX7_close 24 = .ok (.caload, 1) := by decide +kernel
theorem dX7_close_25 : decode cX7_close 25 = .ok (.bipush 101, 2) := by decide +kernel
theorem dX7_close_27 : decode cX7_close 27 = .ok (.if_icmp .eq 9, 3) := by decide +kernel
theorem dX7_close_30 : decode cX7_close 30 = .ok (.aload_n 0, 1) := by decide +kernel
theorem dX7_close_31 : decode cX7_close 31 = .ok (.iconst 2, 1) := by decide +kernel
theorem dX7_close_32 : decode cX7_close 32 = .ok (.invokevirtual 106, 3) := by decide +kernel
theorem dX7_close_35 : decode cX7_close 35 = .ok (.ireturn, 1) := by decide +kernel
theorem dX7_close_36 : decode cX7_close 36 = .ok (.aload_n 0, 1) := by decide +kernel
theorem dX7_close_37 : decode cX7_close 37 = .ok (.getfield 38, 3) := by decide +kernel
theorem dX7_close_40 : decode cX7_close 40 = .ok (.iload_n 1, 1) := by decide +kernel
theorem dX7_close_41 : decode cX7_close 41 = .ok (.bipush 102, 2) := by decide +kernel
theorem dX7_close_43 : decode cX7_close 43 = .ok (.castore, 1) := by decide +kernel
theorem dX7_close_44 : decode cX7_close 44 = .ok (.iconst 0, 1) := by decide +kernel
theorem dX7_close_45 : decode cX7_close 45 = .ok (.istore_n 2, 1) := by decide +kernel
theorem dX7_close_46 : decode cX7_close 46 = .ok (.iconst 0, 1) := by decide +kernel
theorem dX7_close_47 : decode cX7_close 47 = .ok (.istore_n 3, 1) := by decide +kernel
theorem dX7_close_48 : decode cX7_close 48 = .ok (.iload_n 3, 1) := by decide +kernel
theorem dX7_close_49 : decode cX7_close 49 = .ok (.aload_n 0, 1) := by decide +kernel
theorem dX7_close_50 : decode cX7_close 50 = .ok (.getfield 120, 3) := by decide +kernel
theorem dX7_close_53 : decode cX7_close 53 = .ok (.if_icmp .ge 41, 3) := by decide +kernel
theorem dX7_close_56 : decode cX7_close 56 = .ok (.aload_n 0, 1) := by decide +kernel
theorem dX7_close_57 : decode cX7_close 57 = .ok (.getfield 23, 3) := by decide +kernel
theorem dX7_close_60 : decode cX7_close 60 = .ok (.iload_n 3, 1) := by decide +kernel
theorem dX7_close_61 : decode cX7_close 61 = .ok (.iaload, 1) := by decide +kernel
theorem dX7_close_62 : decode cX7_close 62 = .ok (.iload_n 1, 1) := by decide +kernel
theorem dX7_close_63 : decode cX7_close 63 = .ok (.if_icmp .ne 25, 3) := by decide +kernel
theorem dX7_close_66 : decode cX7_close 66 = .ok (.aload_n 0, 1) := by decide +kernel
theorem dX7_close_67 : decode cX7_close 67 = .ok (.getfield 19, 3) := by decide +kernel
theorem dX7_close_70 : decode cX7_close 70 = .ok (.iload_n 3, 1) := by decide +kernel
theorem dX7_close_71 : decode cX7_close 71 = .ok (.caload, 1) := by decide +kernel
theorem dX7_close_72 : decode cX7_close 72 = .ok (.bipush 119, 2) := by decide +kernel
theorem dX7_close_74 : decode cX7_close 74 = .ok (.if_icmp .ne 14, 3) := by decide +kernel
theorem dX7_close_77 : decode cX7_close 77 = .ok (.aload_n 0, 1) := by decide +kernel
theorem dX7_close_78 : decode cX7_close 78 = .ok (.getfield 19, 3) := by decide +kernel
theorem dX7_close_81 : decode cX7_close 81 = .ok (.iload_n 3, 1) := by decide +kernel
theorem dX7_close_82 : decode cX7_close 82 = .ok (.bipush 45, 2) := by decide +kernel
theorem dX7_close_84 : decode cX7_close 84 = .ok (.castore, 1) := by decide +kernel
theorem dX7_close_85 : decode cX7_close 85 = .ok (.iinc 2 1, 3) := by decide +kernel
theorem dX7_close_88 : decode cX7_close 88 = .ok (.iinc 3 1, 3) := by decide +kernel
theorem dX7_close_91 : decode cX7_close 91 = .ok (.goto (-43), 3) := by decide +kernel
theorem dX7_close_94 : decode cX7_close 94 = .ok (.iconst 0, 1) := by decide +kernel
theorem dX7_close_95 : decode cX7_close 95 = .ok (.istore_n 3, 1) := by decide +kernel
theorem dX7_close_96 : decode cX7_close 96 = .ok (.iload_n 3, 1) := by decide +kernel
theorem dX7_close_97 : decode cX7_close 97 = .ok (.aload_n 0, 1) := by decide +kernel
theorem dX7_close_98 : decode cX7_close 98 = .ok (.getfield 154, 3) := by decide +kernel
theorem dX7_close_101 : decode cX7_close 101 = .ok (.if_icmp .ge 58, 3) := by decide +kernel
theorem dX7_close_104 : decode cX7_close 104 = .ok (.aload_n 0, 1) := by decide +kernel
theorem dX7_close_105 : decode cX7_close 105 = .ok (.getfield 83, 3) := by decide +kernel
theorem dX7_close_108 : decode cX7_close 108 = .ok (.iload_n 3, 1) := by decide +kernel
theorem dX7_close_109 : decode cX7_close 109 = .ok (.caload, 1) := by decide +kernel
theorem dX7_close_110 : decode cX7_close 110 = .ok (.bipush 98, 2) := by decide +kernel
theorem dX7_close_112 : decode cX7_close 112 = .ok (.if_icmp .ne 41, 3) := by decide +kernel
theorem dX7_close_115 : decode cX7_close 115 = .ok (.aload_n 0, 1) := by decide +kernel
theorem dX7_close_116 : decode cX7_close 116 = .ok (.getfield 92, 3) := by decide +kernel
theorem dX7_close_119 : decode cX7_close 119 = .ok (.iload_n 3, 1) := by decide +kernel
theorem dX7_close_120 : decode cX7_close 120 = .ok (.iaload, 1) := by decide +kernel
theorem dX7_close_121 : decode cX7_close 121 = .ok (.iload_n 1, 1) := by decide +kernel
theorem dX7_close_122 : decode cX7_close 122 = .ok (.if_icmp .ne 31, 3) := by decide +kernel
theorem dX7_close_125 : decode cX7_close 125 = .ok (.aload_n 0, 1) := by decide +kernel
theorem dX7_close_126 : decode cX7_close 126 = .ok (.getfield 92, 3) := by decide +kernel
theorem dX7_close_129 : decode cX7_close 129 = .ok (.iload_n 3, 1) := by decide +kernel
theorem dX7_close_130 : decode cX7_close 130 = .ok (.iconst (-1), 1) := by decide +kernel
theorem dX7_close_131 : decode cX7_close 131 = .ok (.iastore, 1) := by decide +kernel
theorem dX7_close_132 : decode cX7_close 132 = .ok (.aload_n 0, 1) := by decide +kernel
theorem dX7_close_133 : decode cX7_close 133 = .ok (.dup, 1) := by decide +kernel
theorem dX7_close_134 : decode cX7_close 134 = .ok (.getfield 157, 3) := by decide +kernel
theorem dX7_close_137 : decode cX7_close 137 = .ok (.aload_n 0, 1) := by decide +kernel
theorem dX7_close_138 : decode cX7_close 138 = .ok (.getfield 80, 3) := by decide +kernel
theorem dX7_close_141 : decode cX7_close 141 = .ok (.iload_n 3, 1) := by decide +kernel
theorem dX7_close_142 : decode cX7_close 142 = .ok (.iaload, 1) := by decide +kernel
theorem dX7_close_143 : decode cX7_close 143 = .ok (.i2l, 1) := by decide +kernel
theorem dX7_close_144 : decode cX7_close 144 = .ok (.lsub, 1) := by decide +kernel
theorem dX7_close_145 : decode cX7_close 145 = .ok (.putfield 157, 3) := by decide +kernel
theorem dX7_close_148 : decode cX7_close 148 = .ok (.aload_n 0, 1) := by decide +kernel
theorem dX7_close_149 : decode cX7_close 149 = .ok (.iload_n 3, 1) := by decide +kernel
theorem dX7_close_150 : decode cX7_close 150 = .ok (.invokevirtual 161, 3) := by decide +kernel
theorem dX7_close_153 : decode cX7_close 153 = .ok (.iinc 3 1, 3) := by decide +kernel
theorem dX7_close_156 : decode cX7_close 156 = .ok (.goto (-60), 3) := by decide +kernel
theorem dX7_close_159 : decode cX7_close 159 = .ok (.iload_n 2, 1) := by decide +kernel
theorem dX7_close_160 : decode cX7_close 160 = .ok (.ireturn, 1) := by decide +kernel
def wX7_close_153 (post : Int32 → KS → Int64 → Prop) (bk96 : Int32 → Int32 → Int32 → KS → Int64 → Prop) (l1 : Int32) (l2 : Int32) (l3 : Int32) (M : KS) (ap : Int64) : Prop := bk96 l1 l2 (l3 + 1) M ap
set_option maxHeartbeats 4000000 in
set_option maxRecDepth 100000 in
theorem bX7_close_153 {p : Program} {l : Launch} {e : Env} {s : State} {m : MethodId} {args : Array Value} {below : List Frame} {meth : Method} {c : Code} {D : va_G} {cI : Nat → ClassId} {e0 : Nat} {A : Nat → Prop} {ad : Nat → Nat → Nat} {K : KS} {o : Int64} {od : UInt64} {mc ms : Nat} {post : Int32 → KS → Int64 → Prop} {bk96 : Int32 → Int32 → Int32 → KS → Int64 → Prop} (S : CallFix p m c cX7_close 4 s args WU RX7) (hg : GI D cI e0 A s s.heap) (hr : meth.sig.returnType = (some FieldType.int)) (hlk : meth.locks = false) (hout : ∀ x ∈ c.exceptionTable.toList, False) (hbk96 : ∀ {H : Heap} {locs : List Loc} {ls : Array Slot} {l1 : Int32} {l2 : Int32} {l3 : Int32} {M : KS} {ap : Int64}, va_S A s.heap H locs → HT D cI e0 A ad K M ap o od H → lv_has ls 4 [(0, .ref (ad 3 0)), (1, .int l1), (2, .int l2), (3, .int l3)] → bk96 l1 l2 l3 M ap → W p l e ({ frames := 2, cells := mc, slots := ms, locals := 43 } : Room) s m args below meth c H locs 0 0 (MQQ below (qM D cI e0 A ad K o od rI post) xN args s mc ms A) (F0 m 96 ls [])) {H : Heap} {locs : List Loc} {ls : Array Slot} {l1 : Int32} {l2 : Int32} {l3 : Int32} {M : KS} {ap : Int64} (hS : va_S A s.heap H locs) (hw : HT D cI e0 A ad K M ap o od H) (hl : lv_has ls 4 [(0, .ref (ad 3 0)), (1, .int l1), (2, .int l2), (3, .int l3)]) (h : wX7_close_153 post bk96 l1 l2 l3 M ap) : W p l e ({ frames := 2, cells := mc, slots := ms, locals := 43 } : Room) s m args below meth c H locs 0 0 (MQQ below (qM D cI e0 A ad K o od rI post) xN args s mc ms A) (F0 m 153 ls []) := by
  unfold wX7_close_153 at h
  refine lv_iinc (v := l3 + 1) (lv' := [(3, .int (l3 + 1)), (0, .ref (ad 3 0)), (1, .int l1), (2, .int l2)]) S.1 S.2.1 dX7_close_153 hl (k := 3) rfl rfl (by decide) rfl (fun ls hl => ?_)
  refine lv_goto (tgt := 96) S.1 S.2.1 dX7_close_156 (by decide) ?_
  have hl := lv_sub hl (l' := [(0, .ref (ad 3 0)), (1, .int l1), (2, .int l2), (3, .int (l3 + 1))]) [1, 2, 3, 0] rfl
  exact hbk96 hS hw hl h
def wX7_close_96 (post : Int32 → KS → Int64 → Prop) : Nat → Int32 → Int32 → Int32 → KS → Int64 → Prop
  | 0 => fun _ _ _ _ _ => False
  | n + 1 => fun l1 l2 l3 M ap => (((M 3 29 0) ≤ l3 → (post l2 M ap)) ∧ (¬ (M 3 29 0) ≤ l3 → ((vp_in l3 60) ∧ (((¬ (M 13 32 l3.toNatClampNeg) = 98 → (wX7_close_153 post (wX7_close_96 post n) l1 l2 l3 M ap)) ∧ ((M 13 32 l3.toNatClampNeg) = 98 → ((vp_in l3 60) ∧ (((¬ (M 16 35 l3.toNatClampNeg) = l1 → (wX7_close_153 post (wX7_close_96 post n) l1 l2 l3 M ap)) ∧ ((M 16 35 l3.toNatClampNeg) = l1 → ((vp_in l3 60) ∧ ((wpX7_pays (fun _ M12 ap13 => wX7_close_153 post (wX7_close_96 post n) l1 l2 l3 M12 ap13) (k3 M 16 35 l3.toNatClampNeg (-1)) (ap - (((k3 M 16 35 l3.toNatClampNeg (-1)) 16 31 l3.toNatClampNeg).toInt64)) l3)))))))))))))
set_option maxHeartbeats 4000000 in
set_option maxRecDepth 100000 in
theorem bX7_close_96 {p : Program} {l : Launch} {e : Env} {s : State} {m : MethodId} {args : Array Value} {below : List Frame} {meth : Method} {c : Code} {D : va_G} {cI : Nat → ClassId} {e0 : Nat} {A : Nat → Prop} {ad : Nat → Nat → Nat} {K : KS} {o : Int64} {od : UInt64} {mc ms : Nat} {post : Int32 → KS → Int64 → Prop} (S : CallFix p m c cX7_close 4 s args WU RX7) (hg : GI D cI e0 A s s.heap) (hr : meth.sig.returnType = (some FieldType.int)) (hlk : meth.locks = false) (hout : ∀ x ∈ c.exceptionTable.toList, False) : ∀ n : Nat, ∀ {H : Heap} {locs : List Loc} {ls : Array Slot} {l1 : Int32} {l2 : Int32} {l3 : Int32} {M : KS} {ap : Int64}, va_S A s.heap H locs → HT D cI e0 A ad K M ap o od H → lv_has ls 4 [(0, .ref (ad 3 0)), (1, .int l1), (2, .int l2), (3, .int l3)] → wX7_close_96 post n l1 l2 l3 M ap → W p l e ({ frames := 2, cells := mc, slots := ms, locals := 43 } : Room) s m args below meth c H locs 0 0 (MQQ below (qM D cI e0 A ad K o od rI post) xN args s mc ms A) (F0 m 96 ls []) := by
  intro n
  induction n with
  | zero => intros; exact False.elim (by assumption)
  | succ n ih =>
    intro H locs ls l1 l2 l3 M ap hS hw hl h
    unfold wX7_close_96 at h
    refine lv_iload_n S.1 S.2.1 dX7_close_96 rfl (lv_at hl 3 rfl) ?_
    refine lv_aload_n S.1 S.2.1 dX7_close_97 rfl (lv_at hl 0 rfl) ?_
    refine g3_29 S hg hw u1073 dX7_close_98 ?_
    refine lv_icmp_ge (tgt := 159) S.1 S.2.1 dX7_close_101 (by decide) (fun c6 => ?_) (fun c6 => ?_)
    · have h := h.1 c6
      refine lv_iload_n S.1 S.2.1 dX7_close_159 rfl (lv_at hl 2 rfl) ?_
      exact r_iret (y := yX7_close) S hr rfl hlk hS (by omega) (by omega) dX7_close_160 ⟨l2, _, _, rfl, h, hw⟩
    · have h := h.2 c6
      refine lv_aload_n S.1 S.2.1 dX7_close_104 rfl (lv_at hl 0 rfl) ?_
      refine g3_32 S hg hw u1076 dX7_close_105 ?_
      refine lv_iload_n S.1 S.2.1 dX7_close_108 rfl (lv_at hl 3 rfl) ?_
      obtain ⟨g7, h⟩ := h
      refine a13 S hg hw rfl g7 dX7_close_109 ?_
      refine lv_bipush (v := 98) S.1 S.2.1 dX7_close_110 (by decide) ?_
      refine lv_icmp_ne (tgt := 153) S.1 S.2.1 dX7_close_112 (by decide) (fun c8 => ?_) (fun c8 => ?_)
      · have h := h.1 c8
        have hl := lv_sub hl (l' := [(0, .ref (ad 3 0)), (1, .int l1), (2, .int l2), (3, .int l3)]) [0, 1, 2, 3] rfl
        exact bX7_close_153 S hg hr hlk hout ih hS hw hl h
      · have h := h.2 c8
        refine lv_aload_n S.1 S.2.1 dX7_close_115 rfl (lv_at hl 0 rfl) ?_
        refine g3_35 S hg hw u1079 dX7_close_116 ?_
        refine lv_iload_n S.1 S.2.1 dX7_close_119 rfl (lv_at hl 3 rfl) ?_
        obtain ⟨g9, h⟩ := h
        refine a16 S hg hw rfl g9 dX7_close_120 ?_
        refine lv_iload_n S.1 S.2.1 dX7_close_121 rfl (lv_at hl 1 rfl) ?_
        refine lv_icmp_ne (tgt := 153) S.1 S.2.1 dX7_close_122 (by decide) (fun c10 => ?_) (fun c10 => ?_)
        · have h := h.1 c10
          have hl := lv_sub hl (l' := [(0, .ref (ad 3 0)), (1, .int l1), (2, .int l2), (3, .int l3)]) [0, 1, 2, 3] rfl
          exact bX7_close_153 S hg hr hlk hout ih hS hw hl h
        · have h := h.2 c10
          refine lv_aload_n S.1 S.2.1 dX7_close_125 rfl (lv_at hl 0 rfl) ?_
          refine g3_35 S hg hw u1079 dX7_close_126 ?_
          refine lv_iload_n S.1 S.2.1 dX7_close_129 rfl (lv_at hl 3 rfl) ?_
          refine lv_iconst (v := (-1)) S.1 S.2.1 dX7_close_130 (by decide) ?_
          refine s16 S hg hS hw rfl g9 dX7_close_131 (fun H locs hw hS => ?_)
          refine lv_aload_n S.1 S.2.1 dX7_close_132 rfl (lv_at hl 0 rfl) ?_
          refine lv_dup S.1 S.2.1 dX7_close_133 rfl ?_
          refine g3_4 S hg hw u1048 dX7_close_134 ?_
          refine lv_aload_n S.1 S.2.1 dX7_close_137 rfl (lv_at hl 0 rfl) ?_
          refine g3_31 S hg hw u1075 dX7_close_138 ?_
          refine lv_iload_n S.1 S.2.1 dX7_close_141 rfl (lv_at hl 3 rfl) ?_
          obtain ⟨g11, h⟩ := h
          refine a16 S hg hw rfl g11 dX7_close_142 ?_
          refine lv_i2l S.1 S.2.1 dX7_close_143 rfl ?_
          refine lv_lsub S.1 S.2.1 dX7_close_144 ?_
          refine p3_4 S hg hS hw u1048 dX7_close_145 (fun H locs hw hS => ?_)
          refine lv_aload_n S.1 S.2.1 dX7_close_148 rfl (lv_at hl 0 rfl) ?_
          refine lv_iload_n S.1 S.2.1 dX7_close_149 rfl (lv_at hl 3 rfl) ?_
          refine r_call (rest := []) S hg hS (mtX7_pays (mc := 0) (ms := 0) h) u1287 u1289 u36 u49 u1290 hdX7_pays (rv3 hg hw) hw ⟨Nat.le_of_ble_eq_true rfl, Nat.le_of_ble_eq_true rfl⟩ ⟨by show 0 + 0 ≤ mc; omega, by show 0 + 0 ≤ ms; omega⟩ hl.1 (Nat.le_of_ble_eq_true rfl) rfl dX7_close_150 (fun E ce q H1 locs1 hx hS1 hc1 hc2 hc3 => hx.elim) (fun rv H locs hq hS => ?_)
          obtain ⟨_, M12, ap13, rfl, h, hw⟩ := hq
          show W p l e _ s m _ below meth c H locs _ _ _ (F0 m 153 ls [])
          show W p l e _ s m _ below meth c H locs 0 0 _ _
          have hl := lv_sub hl (l' := [(0, .ref (ad 3 0)), (1, .int l1), (2, .int l2), (3, .int l3)]) [0, 1, 2, 3] rfl
          exact bX7_close_153 S hg hr hlk hout ih hS hw hl h
def wX7_close_88 (post : Int32 → KS → Int64 → Prop) (bk48 : Int32 → Int32 → Int32 → KS → Int64 → Prop) (l1 : Int32) (l2 : Int32) (l3 : Int32) (M : KS) (ap : Int64) : Prop := bk48 l1 l2 (l3 + 1) M ap
set_option maxHeartbeats 4000000 in
set_option maxRecDepth 100000 in
theorem bX7_close_88 {p : Program} {l : Launch} {e : Env} {s : State} {m : MethodId} {args : Array Value} {below : List Frame} {meth : Method} {c : Code} {D : va_G} {cI : Nat → ClassId} {e0 : Nat} {A : Nat → Prop} {ad : Nat → Nat → Nat} {K : KS} {o : Int64} {od : UInt64} {mc ms : Nat} {post : Int32 → KS → Int64 → Prop} {bk48 : Int32 → Int32 → Int32 → KS → Int64 → Prop} (S : CallFix p m c cX7_close 4 s args WU RX7) (hg : GI D cI e0 A s s.heap) (hr : meth.sig.returnType = (some FieldType.int)) (hlk : meth.locks = false) (hout : ∀ x ∈ c.exceptionTable.toList, False) (hbk48 : ∀ {H : Heap} {locs : List Loc} {ls : Array Slot} {l1 : Int32} {l2 : Int32} {l3 : Int32} {M : KS} {ap : Int64}, va_S A s.heap H locs → HT D cI e0 A ad K M ap o od H → lv_has ls 4 [(0, .ref (ad 3 0)), (1, .int l1), (2, .int l2), (3, .int l3)] → bk48 l1 l2 l3 M ap → W p l e ({ frames := 2, cells := mc, slots := ms, locals := 43 } : Room) s m args below meth c H locs 0 0 (MQQ below (qM D cI e0 A ad K o od rI post) xN args s mc ms A) (F0 m 48 ls [])) {H : Heap} {locs : List Loc} {ls : Array Slot} {l1 : Int32} {l2 : Int32} {l3 : Int32} {M : KS} {ap : Int64} (hS : va_S A s.heap H locs) (hw : HT D cI e0 A ad K M ap o od H) (hl : lv_has ls 4 [(0, .ref (ad 3 0)), (1, .int l1), (2, .int l2), (3, .int l3)]) (h : wX7_close_88 post bk48 l1 l2 l3 M ap) : W p l e ({ frames := 2, cells := mc, slots := ms, locals := 43 } : Room) s m args below meth c H locs 0 0 (MQQ below (qM D cI e0 A ad K o od rI post) xN args s mc ms A) (F0 m 88 ls []) := by
  unfold wX7_close_88 at h
  refine lv_iinc (v := l3 + 1) (lv' := [(3, .int (l3 + 1)), (0, .ref (ad 3 0)), (1, .int l1), (2, .int l2)]) S.1 S.2.1 dX7_close_88 hl (k := 3) rfl rfl (by decide) rfl (fun ls hl => ?_)
  refine lv_goto (tgt := 48) S.1 S.2.1 dX7_close_91 (by decide) ?_
  have hl := lv_sub hl (l' := [(0, .ref (ad 3 0)), (1, .int l1), (2, .int l2), (3, .int (l3 + 1))]) [1, 2, 3, 0] rfl
  exact hbk48 hS hw hl h
def wX7_close_48 (post : Int32 → KS → Int64 → Prop) : Nat → Int32 → Int32 → Int32 → KS → Int64 → Prop
  | 0 => fun _ _ _ _ _ => False
  | n + 1 => fun l1 l2 l3 M ap => (((M 3 5 0) ≤ l3 → (∃ n1 : Nat, wX7_close_96 post n1 l1 l2 0 M ap)) ∧ (¬ (M 3 5 0) ≤ l3 → ((vp_in l3 40) ∧ (((¬ (M 16 9 l3.toNatClampNeg) = l1 → (wX7_close_88 post (wX7_close_48 post n) l1 l2 l3 M ap)) ∧ ((M 16 9 l3.toNatClampNeg) = l1 → ((vp_in l3 40) ∧ (((¬ (M 13 8 l3.toNatClampNeg) = 119 → (wX7_close_88 post (wX7_close_48 post n) l1 l2 l3 M ap)) ∧ ((M 13 8 l3.toNatClampNeg) = 119 → (wX7_close_88 post (wX7_close_48 post n) l1 (l2 + 1) l3 (k3 M 13 8 l3.toNatClampNeg 45) ap)))))))))))
set_option maxHeartbeats 4000000 in
set_option maxRecDepth 100000 in
theorem bX7_close_48 {p : Program} {l : Launch} {e : Env} {s : State} {m : MethodId} {args : Array Value} {below : List Frame} {meth : Method} {c : Code} {D : va_G} {cI : Nat → ClassId} {e0 : Nat} {A : Nat → Prop} {ad : Nat → Nat → Nat} {K : KS} {o : Int64} {od : UInt64} {mc ms : Nat} {post : Int32 → KS → Int64 → Prop} (S : CallFix p m c cX7_close 4 s args WU RX7) (hg : GI D cI e0 A s s.heap) (hr : meth.sig.returnType = (some FieldType.int)) (hlk : meth.locks = false) (hout : ∀ x ∈ c.exceptionTable.toList, False) : ∀ n : Nat, ∀ {H : Heap} {locs : List Loc} {ls : Array Slot} {l1 : Int32} {l2 : Int32} {l3 : Int32} {M : KS} {ap : Int64}, va_S A s.heap H locs → HT D cI e0 A ad K M ap o od H → lv_has ls 4 [(0, .ref (ad 3 0)), (1, .int l1), (2, .int l2), (3, .int l3)] → wX7_close_48 post n l1 l2 l3 M ap → W p l e ({ frames := 2, cells := mc, slots := ms, locals := 43 } : Room) s m args below meth c H locs 0 0 (MQQ below (qM D cI e0 A ad K o od rI post) xN args s mc ms A) (F0 m 48 ls []) := by
  intro n
  induction n with
  | zero => intros; exact False.elim (by assumption)
  | succ n ih =>
    intro H locs ls l1 l2 l3 M ap hS hw hl h
    unfold wX7_close_48 at h
    refine lv_iload_n S.1 S.2.1 dX7_close_48 rfl (lv_at hl 3 rfl) ?_
    refine lv_aload_n S.1 S.2.1 dX7_close_49 rfl (lv_at hl 0 rfl) ?_
    refine g3_5 S hg hw u1049 dX7_close_50 ?_
    refine lv_icmp_ge (tgt := 94) S.1 S.2.1 dX7_close_53 (by decide) (fun c5 => ?_) (fun c5 => ?_)
    · have h := h.1 c5
      refine lv_iconst (v := 0) S.1 S.2.1 dX7_close_94 (by decide) ?_
      refine lv_istore_n (lv' := [(3, .int 0), (0, .ref (ad 3 0)), (1, .int l1), (2, .int l2)]) S.1 S.2.1 dX7_close_95 rfl hl (by decide) rfl (fun ls hl => ?_)
      have hl := lv_sub hl (l' := [(0, .ref (ad 3 0)), (1, .int l1), (2, .int l2), (3, .int 0)]) [1, 2, 3, 0] rfl
      obtain ⟨n1, h⟩ := h
      exact bX7_close_96 S hg hr hlk hout n1 hS hw hl h
    · have h := h.2 c5
      refine lv_aload_n S.1 S.2.1 dX7_close_56 rfl (lv_at hl 0 rfl) ?_
      refine g3_9 S hg hw u1053 dX7_close_57 ?_
      refine lv_iload_n S.1 S.2.1 dX7_close_60 rfl (lv_at hl 3 rfl) ?_
      obtain ⟨g14, h⟩ := h
      refine a16 S hg hw rfl g14 dX7_close_61 ?_
      refine lv_iload_n S.1 S.2.1 dX7_close_62 rfl (lv_at hl 1 rfl) ?_
      refine lv_icmp_ne (tgt := 88) S.1 S.2.1 dX7_close_63 (by decide) (fun c15 => ?_) (fun c15 => ?_)
      · have h := h.1 c15
        have hl := lv_sub hl (l' := [(0, .ref (ad 3 0)), (1, .int l1), (2, .int l2), (3, .int l3)]) [0, 1, 2, 3] rfl
        exact bX7_close_88 S hg hr hlk hout ih hS hw hl h
      · have h := h.2 c15
        refine lv_aload_n S.1 S.2.1 dX7_close_66 rfl (lv_at hl 0 rfl) ?_
        refine g3_8 S hg hw u1052 dX7_close_67 ?_
        refine lv_iload_n S.1 S.2.1 dX7_close_70 rfl (lv_at hl 3 rfl) ?_
        obtain ⟨g16, h⟩ := h
        refine a13 S hg hw rfl g16 dX7_close_71 ?_
        refine lv_bipush (v := 119) S.1 S.2.1 dX7_close_72 (by decide) ?_
        refine lv_icmp_ne (tgt := 88) S.1 S.2.1 dX7_close_74 (by decide) (fun c17 => ?_) (fun c17 => ?_)
        · have h := h.1 c17
          have hl := lv_sub hl (l' := [(0, .ref (ad 3 0)), (1, .int l1), (2, .int l2), (3, .int l3)]) [0, 1, 2, 3] rfl
          exact bX7_close_88 S hg hr hlk hout ih hS hw hl h
        · have h := h.2 c17
          refine lv_aload_n S.1 S.2.1 dX7_close_77 rfl (lv_at hl 0 rfl) ?_
          refine g3_8 S hg hw u1052 dX7_close_78 ?_
          refine lv_iload_n S.1 S.2.1 dX7_close_81 rfl (lv_at hl 3 rfl) ?_
          refine lv_bipush (v := 45) S.1 S.2.1 dX7_close_82 (by decide) ?_
          refine s13 S hg hS hw rfl g16 (by decide) dX7_close_84 (fun H locs hw hS => ?_)
          refine lv_iinc (v := l2 + 1) (lv' := [(2, .int (l2 + 1)), (0, .ref (ad 3 0)), (1, .int l1), (3, .int l3)]) S.1 S.2.1 dX7_close_85 hl (k := 2) rfl rfl (by decide) rfl (fun ls hl => ?_)
          have hl := lv_sub hl (l' := [(0, .ref (ad 3 0)), (1, .int l1), (2, .int (l2 + 1)), (3, .int l3)]) [1, 2, 0, 3] rfl
          exact bX7_close_88 S hg hr hlk hout ih hS hw hl h
def wpX7_close (post : Int32 → KS → Int64 → Prop) (M : KS) (ap : Int64) (p1 : Int32) : Prop := (wpX7_isDuel (fun r1 => ((¬ r1 = 0 → ((vp_in p1 8) ∧ (((((k3 M 3 0 0 0) 13 16 p1.toNatClampNeg) = 101 → (∃ n1 : Nat, wX7_close_48 post n1 p1 0 0 (k3 (k3 M 3 0 0 0) 13 16 p1.toNatClampNeg 102) ap)) ∧ (¬ ((k3 M 3 0 0 0) 13 16 p1.toNatClampNeg) = 101 → ((wpX7_fails (fun r18 M19 ap20 => post r18 M19 ap20) (k3 M 3 0 0 0) ap 2))))))) ∧ (r1 = 0 → ((wpX7_fails (fun r21 M22 ap23 => post r21 M22 ap23) (k3 M 3 0 0 0) ap 1))))) (k3 M 3 0 0 0) ap p1)
theorem hdX7_close : yX7_close.cls ≠ "java/lang/invoke/MethodHandle" ∧ yX7_close.cls ≠ "java/lang/invoke/VarHandle" ∧ (parseMethodDescriptor yX7_close.desc).map (fun d => d.parameters.length) = some 1 := by decide +kernel
set_option maxHeartbeats 4000000 in
set_option maxRecDepth 100000 in
theorem mtX7_close {l : Launch} {D : va_G} {cI : Nat → ClassId} {e0 : Nat} {A : Nat → Prop} {ad : Nat → Nat → Nat} {K M : KS} {ap o : Int64} {od : UInt64} {mc ms : Nat} {p1 : Int32} {post : Int32 → KS → Int64 → Prop} (h : wpX7_close post M ap p1) : CM l D cI e0 A yX7_close cX7_close 4 (some FieldType.int) 2 43 mc ms [.ref (ad 3 0), .int p1] (HT D cI e0 A ad K M ap o od) (qM D cI e0 A ad K o od rI post) xN := by
  refine CM.of (by decide) (Nat.le_of_ble_eq_true rfl) (fun p e s m below meth c ls FX hw hS hl => ?_)
  obtain ⟨S, hg, hr, hlk, hnm, hout⟩ := FX
  have hl : lv_has ls 4 [(0, .ref (ad 3 0)), (1, .int p1)] := hl
  unfold wpX7_close at h
  refine lv_aload_n S.1 S.2.1 dX7_close_0 rfl (lv_at hl 0 rfl) ?_
  refine lv_iconst (v := 0) S.1 S.2.1 dX7_close_1 (by decide) ?_
  refine p3_0 S hg hS hw u1044 dX7_close_2 (fun H locs hw hS => ?_)
  refine lv_aload_n S.1 S.2.1 dX7_close_5 rfl (lv_at hl 0 rfl) ?_
  refine lv_iload_n S.1 S.2.1 dX7_close_6 rfl (lv_at hl 1 rfl) ?_
  refine r_call (rest := []) S hg hS (mtX7_isDuel (mc := 0) (ms := 0) h) u1235 u1237 u32 u49 u1238 hdX7_isDuel (rv3 hg hw) hw ⟨Nat.le_of_ble_eq_true rfl, Nat.le_of_ble_eq_true rfl⟩ ⟨by show 0 + 0 ≤ mc; omega, by show 0 + 0 ≤ ms; omega⟩ hl.1 (Nat.le_of_ble_eq_true rfl) rfl dX7_close_7 (fun E ce q H1 locs1 hx hS1 hc1 hc2 hc3 => hx.elim) (fun rv H locs hq hS => ?_)
  obtain ⟨r1, rfl, h, hw⟩ := hq
  show W p l e _ s m _ below meth c H locs _ _ _ (F0 m 10 ls [.int r1])
  show W p l e _ s m _ below meth c H locs 0 0 _ _
  refine lv_if_ne (tgt := 19) S.1 S.2.1 dX7_close_10 (by decide) (fun c2 => ?_) (fun c2 => ?_)
  · have h := h.1 c2
    refine lv_aload_n S.1 S.2.1 dX7_close_19 rfl (lv_at hl 0 rfl) ?_
    refine g3_16 S hg hw u1060 dX7_close_20 ?_
    refine lv_iload_n S.1 S.2.1 dX7_close_23 rfl (lv_at hl 1 rfl) ?_
    obtain ⟨g3, h⟩ := h
    refine a13 S hg hw rfl g3 dX7_close_24 ?_
    refine lv_bipush (v := 101) S.1 S.2.1 dX7_close_25 (by decide) ?_
    refine lv_icmp_eq (tgt := 36) S.1 S.2.1 dX7_close_27 (by decide) (fun c4 => ?_) (fun c4 => ?_)
    · have h := h.1 c4
      refine lv_aload_n S.1 S.2.1 dX7_close_36 rfl (lv_at hl 0 rfl) ?_
      refine g3_16 S hg hw u1060 dX7_close_37 ?_
      refine lv_iload_n S.1 S.2.1 dX7_close_40 rfl (lv_at hl 1 rfl) ?_
      refine lv_bipush (v := 102) S.1 S.2.1 dX7_close_41 (by decide) ?_
      refine s13 S hg hS hw rfl g3 (by decide) dX7_close_43 (fun H locs hw hS => ?_)
      refine lv_iconst (v := 0) S.1 S.2.1 dX7_close_44 (by decide) ?_
      refine lv_istore_n (lv' := [(2, .int 0), (0, .ref (ad 3 0)), (1, .int p1)]) S.1 S.2.1 dX7_close_45 rfl hl (by decide) rfl (fun ls hl => ?_)
      refine lv_iconst (v := 0) S.1 S.2.1 dX7_close_46 (by decide) ?_
      refine lv_istore_n (lv' := [(3, .int 0), (2, .int 0), (0, .ref (ad 3 0)), (1, .int p1)]) S.1 S.2.1 dX7_close_47 rfl hl (by decide) rfl (fun ls hl => ?_)
      have hl := lv_sub hl (l' := [(0, .ref (ad 3 0)), (1, .int p1), (2, .int 0), (3, .int 0)]) [2, 3, 1, 0] rfl
      obtain ⟨n1, h⟩ := h
      exact bX7_close_48 S hg hr hlk hout n1 hS hw hl h
    · have h := h.2 c4
      refine lv_aload_n S.1 S.2.1 dX7_close_30 rfl (lv_at hl 0 rfl) ?_
      refine lv_iconst (v := 2) S.1 S.2.1 dX7_close_31 (by decide) ?_
      refine r_call (rest := []) S hg hS (mtX7_fails (mc := 0) (ms := 0) h) u1171 u1173 u26 u49 u1174 hdX7_fails (rv3 hg hw) hw ⟨Nat.le_of_ble_eq_true rfl, Nat.le_of_ble_eq_true rfl⟩ ⟨by show 0 + 0 ≤ mc; omega, by show 0 + 0 ≤ ms; omega⟩ hl.1 (Nat.le_of_ble_eq_true rfl) rfl dX7_close_32 (fun E ce q H1 locs1 hx hS1 hc1 hc2 hc3 => hx.elim) (fun rv H locs hq hS => ?_)
      obtain ⟨r18, M19, ap20, rfl, h, hw⟩ := hq
      show W p l e _ s m _ below meth c H locs _ _ _ (F0 m 35 ls [.int r18])
      show W p l e _ s m _ below meth c H locs 0 0 _ _
      exact r_iret (y := yX7_close) S hr rfl hlk hS (by omega) (by omega) dX7_close_35 ⟨r18, _, _, rfl, h, hw⟩
  · have h := h.2 c2
    refine lv_aload_n S.1 S.2.1 dX7_close_13 rfl (lv_at hl 0 rfl) ?_
    refine lv_iconst (v := 1) S.1 S.2.1 dX7_close_14 (by decide) ?_
    refine r_call (rest := []) S hg hS (mtX7_fails (mc := 0) (ms := 0) h) u1171 u1173 u26 u49 u1174 hdX7_fails (rv3 hg hw) hw ⟨Nat.le_of_ble_eq_true rfl, Nat.le_of_ble_eq_true rfl⟩ ⟨by show 0 + 0 ≤ mc; omega, by show 0 + 0 ≤ ms; omega⟩ hl.1 (Nat.le_of_ble_eq_true rfl) rfl dX7_close_15 (fun E ce q H1 locs1 hx hS1 hc1 hc2 hc3 => hx.elim) (fun rv H locs hq hS => ?_)
    obtain ⟨r21, M22, ap23, rfl, h, hw⟩ := hq
    show W p l e _ s m _ below meth c H locs _ _ _ (F0 m 18 ls [.int r21])
    show W p l e _ s m _ below meth c H locs 0 0 _ _
    exact r_iret (y := yX7_close) S hr rfl hlk hS (by omega) (by omega) dX7_close_18 ⟨r21, _, _, rfl, h, hw⟩

-- X7.snapshot
theorem dX7_snapshot_0 : decode cX7_snapshot 0 = .ok (.aload_n 0, 1) := by decide +kernel
theorem dX7_snapshot_1 : decode cX7_snapshot 1 = .ok (.iconst 0, 1) := by decide +kernel
theorem dX7_snapshot_2 : decode cX7_snapshot 2 = .ok (.putfield 98, 3) := by decide +kernel
theorem dX7_snapshot_5 : decode cX7_snapshot 5 = .ok (.aload_n 0, 1) := by decide +kernel
theorem dX7_snapshot_6 : decode cX7_snapshot 6 = .ok (.iload_n 1, 1) := by decide +kernel
theorem dX7_snapshot_7 : decode cX7_snapshot 7 = .ok (.invokevirtual 141, 3) := by decide +kernel
theorem dX7_snapshot_10 : decode cX7_snapshot 10 = .ok (.ifCond .ne 9, 3) := by decide +kernel
theorem dX7_snapshot_13 : decode cX7_snapshot 13 = .ok (.aload_n 0, 1) := by decide +kernel
theorem dX7_snapshot_14 : decode cX7_snapshot 14 = .ok (.iconst 1, 1) := by decide +kernel
theorem dX7_snapshot_15 : decode cX7_snapshot 15 = .ok (.invokevirtual 106, 3) := by decide +kernel
theorem dX7_snapshot_18 : decode cX7_snapshot 18 = .ok (.ireturn, 1) := by decide +kernel
theorem dX7_snapshot_19 : decode cX7_snapshot 19 = .ok (.aload_n 0, 1) := by decide +kernel
theorem dX7_snapshot_20 : decode cX7_snapshot 20 = .ok (.getfield 38, 3) := by decide +kernel
theorem dX7_snapshot_23 : decode cX7_snapshot 23 = .ok (.iload_n 1, 1) := by decide +kernel
theorem dX7_snapshot_24 : decode cX7_snapshot 24 = .ok (.caload, 1) := by decide +kernel
theorem dX7_snapshot_25 : decode cX7_snapshot 25 = .ok (.bipush 103, 2) := by decide +kernel
theorem dX7_snapshot_27 : decode cX7_snapshot 27 = .ok (.if_icmp .eq 9, 3) := by decide +kernel
theorem dX7_snapshot_30 : decode cX7_snapshot 30 = .ok (.aload_n 0, 1) := by decide +kernel
theorem dX7_snapshot_31 : decode cX7_snapshot 31 = .ok (.iconst 2, 1) := by decide +kernel
theorem dX7_snapshot_32 : decode cX7_snapshot 32 = .ok (.invokevirtual 106, 3) := by decide +kernel
theorem dX7_snapshot_35 : decode cX7_snapshot 35 = .ok (.ireturn, 1) := by decide +kernel
theorem dX7_snapshot_36 : decode cX7_snapshot 36 = .ok (.aload_n 0, 1) := by decide +kernel
theorem dX7_snapshot_37 : decode cX7_snapshot 37 = .ok (.getfield 68, 3) := by decide +kernel
theorem dX7_snapshot_40 : decode cX7_snapshot 40 = .ok (.iload_n 1, 1) := by decide +kernel
theorem dX7_snapshot_41 : decode cX7_snapshot 41 = .ok (.iaload, 1) := by decide +kernel
theorem dX7_snapshot_42 : decode cX7_snapshot 42 = .ok (.bipush 6, 2) := by decide +kernel
theorem dX7_snapshot_44 : decode cX7_snapshot 44 = .ok (.if_icmp .ne 9, 3) := by decide +kernel
theorem dX7_snapshot_47 : decode cX7_snapshot 47 = .ok (.aload_n 0, 1) := by decide +kernel
theorem dX7_snapshot_48 : decode cX7_snapshot 48 = .ok (.iconst 3, 1) := by decide +kernel
theorem dX7_snapshot_49 : decode cX7_snapshot 49 = .ok (.invokevirtual 106, 3) := by decide +kernel
theorem dX7_snapshot_52 : decode cX7_snapshot 52 = .ok (.ireturn, 1) := by decide +kernel
theorem dX7_snapshot_53 : decode cX7_snapshot 53 = .ok (.bipush 24, 2) := by decide +kernel
theorem dX7_snapshot_55 : decode cX7_snapshot 55 = .ok (.bipush 6, 2) := by decide +kernel
theorem dX7_snapshot_57 : decode cX7_snapshot 57 = .ok (.iload_n 1, 1) := by decide +kernel
theorem dX7_snapshot_58 : decode cX7_snapshot 58 = .ok (.imul, 1) := by decide +kernel
theorem dX7_snapshot_59 : decode cX7_snapshot 59 = .ok (.aload_n 0, 1) := by decide +kernel
theorem dX7_snapshot_60 : decode cX7_snapshot 60 = .ok (.getfield 68, 3) := by decide +kernel
theorem dX7_snapshot_63 : decode cX7_snapshot 63 = .ok (.iload_n 1, 1) := by decide +kernel
theorem dX7_snapshot_64 : decode cX7_snapshot 64 = .ok (.iaload, 1) := by decide +kernel
theorem dX7_snapshot_65 : decode cX7_snapshot 65 = .ok (.iadd, 1) := by decide +kernel
theorem dX7_snapshot_66 : decode cX7_snapshot 66 = .ok (.imul, 1) := by decide +kernel
theorem dX7_snapshot_67 : decode cX7_snapshot 67 = .ok (.istore_n 2, 1) := by decide +kernel
theorem dX7_snapshot_68 : decode cX7_snapshot 68 = .ok (.aload_n 0, 1) := by decide +kernel
theorem dX7_snapshot_69 : decode cX7_snapshot 69 = .ok (.getfield 71, 3) := by decide +kernel
theorem dX7_snapshot_72 : decode cX7_snapshot 72 = .ok (.iload_n 2, 1) := by decide +kernel
theorem dX7_snapshot_73 : decode cX7_snapshot 73 = .ok (.aload_n 0, 1) := by decide +kernel
theorem dX7_snapshot_74 : decode cX7_snapshot 74 = .ok (.getfield 44, 3) := by decide +kernel
theorem dX7_snapshot_77 : decode cX7_snapshot 77 = .ok (.iconst 2, 1) := by decide +kernel
theorem dX7_snapshot_78 : decode cX7_snapshot 78 = .ok (.iload_n 1, 1) := by decide +kernel
theorem dX7_snapshot_79 : decode cX7_snapshot 79 = .ok (.imul, 1) := by decide +kernel
theorem dX7_snapshot_80 : decode cX7_snapshot 80 = .ok (.iaload, 1) := by decide +kernel
theorem dX7_snapshot_81 : decode cX7_snapshot 81 = .ok (.iastore, 1) := by decide +kernel
theorem dX7_snapshot_82 : decode cX7_snapshot 82 = .ok (.aload_n 0, 1) := by decide +kernel
theorem dX7_snapshot_83 : decode cX7_snapshot 83 = .ok (.getfield 71, 3) := by decide +kernel
theorem dX7_snapshot_86 : decode cX7_snapshot 86 = .ok (.iload_n 2, 1) := by decide +kernel
theorem dX7_snapshot_87 : decode cX7_snapshot 87 = .ok (.iconst 1, 1) := by decide +kernel
theorem dX7_snapshot_88 : decode cX7_snapshot 88 = .ok (.iadd, 1) := by decide +kernel
theorem dX7_snapshot_89 : decode cX7_snapshot 89 = .ok (.aload_n 0, 1) := by decide +kernel
theorem dX7_snapshot_90 : decode cX7_snapshot 90 = .ok (.getfield 44, 3) := by decide +kernel
theorem dX7_snapshot_93 : decode cX7_snapshot 93 = .ok (.iconst 2, 1) := by decide +kernel
theorem dX7_snapshot_94 : decode cX7_snapshot 94 = .ok (.iload_n 1, 1) := by decide +kernel
theorem dX7_snapshot_95 : decode cX7_snapshot 95 = .ok (.imul, 1) := by decide +kernel
theorem dX7_snapshot_96 : decode cX7_snapshot 96 = .ok (.iconst 1, 1) := by decide +kernel
theorem dX7_snapshot_97 : decode cX7_snapshot 97 = .ok (.iadd, 1) := by decide +kernel
theorem dX7_snapshot_98 : decode cX7_snapshot 98 = .ok (.iaload, 1) := by decide +kernel
theorem dX7_snapshot_99 : decode cX7_snapshot 99 = .ok (.iastore, 1) := by decide +kernel
theorem dX7_snapshot_100 : decode cX7_snapshot 100 = .ok (.aload_n 0, 1) := by decide +kernel
theorem dX7_snapshot_101 : decode cX7_snapshot 101 = .ok (.getfield 71, 3) := by decide +kernel
theorem dX7_snapshot_104 : decode cX7_snapshot 104 = .ok (.iload_n 2, 1) := by decide +kernel
theorem dX7_snapshot_105 : decode cX7_snapshot 105 = .ok (.iconst 2, 1) := by decide +kernel
theorem dX7_snapshot_106 : decode cX7_snapshot 106 = .ok (.iadd, 1) := by decide +kernel
theorem dX7_snapshot_107 : decode cX7_snapshot 107 = .ok (.aload_n 0, 1) := by decide +kernel
theorem dX7_snapshot_108 : decode cX7_snapshot 108 = .ok (.getfield 47, 3) := by decide +kernel
theorem dX7_snapshot_111 : decode cX7_snapshot 111 = .ok (.iload_n 1, 1) := by decide +kernel
theorem dX7_snapshot_112 : decode cX7_snapshot 112 = .ok (.iaload, 1) := by decide +kernel
theorem dX7_snapshot_113 : decode cX7_snapshot 113 = .ok (.iastore, 1) := by decide +kernel
theorem dX7_snapshot_114 : decode cX7_snapshot 114 = .ok (.aload_n 0, 1) := by decide +kernel
theorem dX7_snapshot_115 : decode cX7_snapshot 115 = .ok (.getfield 71, 3) := by decide +kernel
theorem dX7_snapshot_118 : decode cX7_snapshot 118 = .ok (.iload_n 2, 1) := by decide +kernel
theorem dX7_snapshot_119 : decode cX7_snapshot 119 = .ok (.iconst 3, 1) := by decide +kernel
theorem dX7_snapshot_120 : decode cX7_snapshot 120 = .ok (.iadd, 1) := by decide +kernel
theorem dX7_snapshot_121 : decode cX7_snapshot 121 = .ok (.aload_n 0, 1) := by decide +kernel
theorem dX7_snapshot_122 : decode cX7_snapshot 122 = .ok (.getfield 50, 3) := by decide +kernel
theorem dX7_snapshot_125 : decode cX7_snapshot 125 = .ok (.iload_n 1, 1) := by decide +kernel
theorem dX7_snapshot_126 : decode cX7_snapshot 126 = .ok (.iaload, 1) := by decide +kernel
theorem dX7_snapshot_127 : decode cX7_snapshot 127 = .ok (.iastore, 1) := by decide +kernel
theorem dX7_snapshot_128 : decode cX7_snapshot 128 = .ok (.iconst 0, 1) := by decide +kernel
theorem dX7_snapshot_129 : decode cX7_snapshot 129 = .ok (.istore_n 3, 1) := by decide +kernel
theorem dX7_snapshot_130 : decode cX7_snapshot 130 = .ok (.iload_n 3, 1) := by decide +kernel
theorem dX7_snapshot_131 : decode cX7_snapshot 131 = .ok (.bipush 16, 2) := by decide +kernel
theorem dX7_snapshot_133 : decode cX7_snapshot 133 = .ok (.if_icmp .ge 98, 3) := by decide +kernel
theorem dX7_snapshot_136 : decode cX7_snapshot 136 = .ok (.iload_n 3, 1) := by decide +kernel
theorem dX7_snapshot_137 : decode cX7_snapshot 137 = .ok (.bipush 8, 2) := by decide +kernel
theorem dX7_snapshot_139 : decode cX7_snapshot 139 = .ok (.irem, 1) := by decide +kernel
theorem dX7_snapshot_140 : decode cX7_snapshot 140 = .ok (.aload_n 0, 1) := by decide +kernel
theorem dX7_snapshot_141 : decode cX7_snapshot 141 = .ok (.getfield 53, 3) := by decide +kernel
theorem dX7_snapshot_144 : decode cX7_snapshot 144 = .ok (.iconst 2, 1) := by decide +kernel
theorem dX7_snapshot_145 : decode cX7_snapshot 145 = .ok (.iload_n 1, 1) := by decide +kernel
theorem dX7_snapshot_146 : decode cX7_snapshot 146 = .ok (.imul, 1) := by decide +kernel
theorem dX7_snapshot_147 : decode cX7_snapshot 147 = .ok (.iload_n 3, 1) := by decide +kernel
theorem dX7_snapshot_148 : decode cX7_snapshot 148 = .ok (.bipush 8, 2) := by decide +kernel
theorem dX7_snapshot_150 : decode cX7_snapshot 150 = .ok (.idiv, 1) := by decide +kernel
theorem dX7_snapshot_151 : decode cX7_snapshot 151 = .ok (.iadd, 1) := by decide +kernel
theorem dX7_snapshot_152 : decode cX7_snapshot 152 = .ok (.iaload, 1) := by decide +kernel
theorem dX7_snapshot_153 : decode cX7_snapshot 153 = .ok (.if_icmp .ge 7, 3) := by decide +kernel
theorem dX7_snapshot_156 : decode cX7_snapshot 156 = .ok (.iconst 1, 1) := by decide +kernel
theorem dX7_snapshot_157 : decode cX7_snapshot 157 = .ok (.goto 4, 3) := by decide +kernel
theorem dX7_snapshot_160 : decode cX7_snapshot 160 = .ok (.iconst 0, 1) := by decide +kernel
theorem dX7_snapshot_161 : decode cX7_snapshot 161 = .ok (.istore 4, 2) := by decide +kernel
theorem dX7_snapshot_163 : decode cX7_snapshot 163 = .ok (.aload_n 0, 1) := by decide +kernel
theorem dX7_snapshot_164 : decode cX7_snapshot 164 = .ok (.getfield 71, 3) := by decide +kernel
theorem dX7_snapshot_167 : decode cX7_snapshot 167 = .ok (.iload_n 2, 1) := by decide +kernel
theorem dX7_snapshot_168 : decode cX7_snapshot 168 = .ok (.iconst 4, 1) := by decide +kernel
theorem dX7_snapshot_169 : decode cX7_snapshot 169 = .ok (.iadd, 1) := by decide +kernel
theorem dX7_snapshot_170 : decode cX7_snapshot 170 = .ok (.iload_n 3, 1) := by decide +kernel
theorem dX7_snapshot_171 : decode cX7_snapshot 171 = .ok (.iadd, 1) := by decide +kernel
theorem dX7_snapshot_172 : decode cX7_snapshot 172 = .ok (.iload 4, 2) := by decide +kernel
theorem dX7_snapshot_174 : decode cX7_snapshot 174 = .ok (.ifCond .eq 17, 3) := by decide +kernel
theorem dX7_snapshot_177 : decode cX7_snapshot 177 = .ok (.aload_n 0, 1) := by decide +kernel
theorem dX7_snapshot_178 : decode cX7_snapshot 178 = .ok (.getfield 59, 3) := by decide +kernel
theorem dX7_snapshot_181 : decode cX7_snapshot 181 = .ok (.bipush 16, 2) := by decide +kernel
theorem dX7_snapshot_183 : decode cX7_snapshot 183 = .ok (.iload_n 1, 1) := by decide +kernel
theorem dX7_snapshot_184 : decode cX7_snapshot 184 = .ok (.imul, 1) := by decide +kernel
theorem dX7_snapshot_185 : decode cX7_snapshot 185 = .ok (.iload_n 3, 1) := by decide +kernel
theorem dX7_snapshot_186 : decode cX7_snapshot 186 = .ok (.iadd, 1) := by decide +kernel
theorem dX7_snapshot_187 : decode cX7_snapshot 187 = .ok (.iaload, 1) := by decide +kernel
theorem dX7_snapshot_188 : decode cX7_snapshot 188 = .ok (.goto 4, 3) := by decide +kernel
theorem dX7_snapshot_191 : decode cX7_snapshot 191 = .ok (.iconst 0, 1) := by decide +kernel
theorem dX7_snapshot_192 : decode cX7_snapshot 192 = .ok (.iastore, 1) := by decide +kernel
theorem dX7_snapshot_193 : decode cX7_snapshot 193 = .ok (.aload_n 0, 1) := by decide +kernel
theorem dX7_snapshot_194 : decode cX7_snapshot 194 = .ok (.getfield 74, 3) := by decide +kernel
theorem dX7_snapshot_197 : decode cX7_snapshot 197 = .ok (.bipush 16, 2) := by decide +kernel
theorem dX7_snapshot_199 : decode cX7_snapshot 199 = .ok (.bipush 6, 2) := by decide +kernel
theorem dX7_snapshot_201 : decode cX7_snapshot 201 = .ok (.iload_n 1, 1) := by decide +kernel
theorem dX7_snapshot_202 : decode cX7_snapshot 202 = .ok (.imul, 1) := by decide +kernel
theorem dX7_snapshot_203 : decode cX7_snapshot 203 = .ok (.aload_n 0, 1) := by decide +kernel
theorem dX7_snapshot_204 : decode cX7_snapshot 204 = .ok (.getfield 68, 3) := by decide +kernel
theorem dX7_snapshot_207 : decode cX7_snapshot 207 = .ok (.iload_n 1, 1) := by decide +kernel
theorem dX7_snapshot_208 : decode cX7_snapshot 208 = .ok (.iaload, 1) := by decide +kernel
theorem dX7_snapshot_209 : decode cX7_snapshot 209 = .ok (.iadd, 1) := by decide +kernel
theorem dX7_snapshot_210 : decode cX7_snapshot 210 = .ok (.imul, 1) := by decide +kernel
theorem dX7_snapshot_211 : decode cX7_snapshot 211 = .ok (.iload_n 3, 1) := by decide +kernel
theorem dX7_snapshot_212 : decode cX7_snapshot 212 = .ok (.iadd, 1) := by decide +kernel
theorem dX7_snapshot_213 : decode cX7_snapshot 213 = .ok (.aload_n 0, 1) := by decide +kernel
theorem dX7_snapshot_214 : decode cX7_snapshot 214 = .ok (.getfield 65, 3) := by decide +kernel
theorem dX7_snapshot_217 : decode cX7_snapshot 217 = .ok (.bipush 16, 2) := by decide +kernel
theorem dX7_snapshot_219 : decode cX7_snapshot 219 = .ok (.iload_n 1, 1) := by decide +kernel
theorem dX7_snapshot_220 : decode cX7_snapshot 220 = .ok (.imul, 1) := by decide +kernel
theorem dX7_snapshot_221 : decode cX7_snapshot 221 = .ok (.iload_n 3, 1) := by decide +kernel
theorem dX7_snapshot_222 : decode cX7_snapshot 222 = .ok (.iadd, 1) := by decide +kernel
theorem dX7_snapshot_223 : decode cX7_snapshot 223 = .ok (.iaload, 1) := by decide +kernel
theorem dX7_snapshot_224 : decode cX7_snapshot 224 = .ok (.iastore, 1) := by decide +kernel
theorem dX7_snapshot_225 : decode cX7_snapshot 225 = .ok (.iinc 3 1, 3) := by decide +kernel
theorem dX7_snapshot_228 : decode cX7_snapshot 228 = .ok (.goto (-98), 3) := by decide +kernel
theorem dX7_snapshot_231 : decode cX7_snapshot 231 = .ok (.aload_n 0, 1) := by decide +kernel
theorem dX7_snapshot_232 : decode cX7_snapshot 232 = .ok (.getfield 71, 3) := by decide +kernel
theorem dX7_snapshot_235 : decode cX7_snapshot 235 = .ok (.iload_n 2, 1) := by decide +kernel
theorem dX7_snapshot_236 : decode cX7_snapshot 236 = .ok (.bipush 20, 2) := by decide +kernel
theorem dX7_snapshot_238 : decode cX7_snapshot 238 = .ok (.iadd, 1) := by decide +kernel
theorem dX7_snapshot_239 : decode cX7_snapshot 239 = .ok (.aload_n 0, 1) := by decide +kernel
theorem dX7_snapshot_240 : decode cX7_snapshot 240 = .ok (.getfield 62, 3) := by decide +kernel
theorem dX7_snapshot_243 : decode cX7_snapshot 243 = .ok (.iload_n 1, 1) := by decide +kernel
theorem dX7_snapshot_244 : decode cX7_snapshot 244 = .ok (.iaload, 1) := by decide +kernel
theorem dX7_snapshot_245 : decode cX7_snapshot 245 = .ok (.iastore, 1) := by decide +kernel
theorem dX7_snapshot_246 : decode cX7_snapshot 246 = .ok (.iconst 0, 1) := by decide +kernel
theorem dX7_snapshot_247 : decode cX7_snapshot 247 = .ok (.istore_n 3, 1) := by decide +kernel
theorem dX7_snapshot_248 : decode cX7_snapshot 248 = .ok (.iload_n 3, 1) := by decide +kernel
theorem dX7_snapshot_249 : decode cX7_snapshot 249 = .ok (.iconst 3, 1) := by decide +kernel
theorem dX7_snapshot_250 : decode cX7_snapshot 250 = .ok (.if_icmp .ge 54, 3) := by decide +kernel
theorem dX7_snapshot_253 : decode cX7_snapshot 253 = .ok (.aload_n 0, 1) := by decide +kernel
theorem dX7_snapshot_254 : decode cX7_snapshot 254 = .ok (.getfield 71, 3) := by decide +kernel
theorem dX7_snapshot_257 : decode cX7_snapshot 257 = .ok (.iload_n 2, 1) := by decide +kernel
theorem dX7_snapshot_258 : decode cX7_snapshot 258 = .ok (.bipush 21, 2) := by decide +kernel
theorem dX7_snapshot_260 : decode cX7_snapshot 260 = .ok (.iadd, 1) := by decide +kernel
theorem dX7_snapshot_261 : decode cX7_snapshot 261 = .ok (.iload_n 3, 1) := by decide +kernel
theorem dX7_snapshot_262 : decode cX7_snapshot 262 = .ok (.iadd, 1) := by decide +kernel
theorem dX7_snapshot_263 : decode cX7_snapshot 263 = .ok (.aload_n 0, 1) := by decide +kernel
theorem dX7_snapshot_264 : decode cX7_snapshot 264 = .ok (.getfield 62, 3) := by decide +kernel
theorem dX7_snapshot_267 : decode cX7_snapshot 267 = .ok (.iload_n 1, 1) := by decide +kernel
theorem dX7_snapshot_268 : decode cX7_snapshot 268 = .ok (.iaload, 1) := by decide +kernel
theorem dX7_snapshot_269 : decode cX7_snapshot 269 = .ok (.iload_n 3, 1) := by decide +kernel
theorem dX7_snapshot_270 : decode cX7_snapshot 270 = .ok (.if_icmp .le 26, 3) := by decide +kernel
theorem dX7_snapshot_273 : decode cX7_snapshot 273 = .ok (.aload_n 0, 1) := by decide +kernel
theorem dX7_snapshot_274 : decode cX7_snapshot 274 = .ok (.getfield 65, 3) := by decide +kernel
theorem dX7_snapshot_277 : decode cX7_snapshot 277 = .ok (.bipush 16, 2) := by decide +kernel
theorem dX7_snapshot_279 : decode cX7_snapshot 279 = .ok (.iload_n 1, 1) := by decide +kernel
theorem dX7_snapshot_280 : decode cX7_snapshot 280 = .ok (.imul, 1) := by decide +kernel
theorem dX7_snapshot_281 : decode cX7_snapshot 281 = .ok (.aload_n 0, 1) := by decide +kernel
theorem dX7_snapshot_282 : decode cX7_snapshot 282 = .ok (.getfield 62, 3) := by decide +kernel
theorem dX7_snapshot_285 : decode cX7_snapshot 285 = .ok (.iload_n 1, 1) := by decide +kernel
theorem dX7_snapshot_286 : decode cX7_snapshot 286 = .ok (.iaload, 1) := by decide +kernel
theorem dX7_snapshot_287 : decode cX7_snapshot 287 = .ok (.iadd, 1) := by decide +kernel
theorem dX7_snapshot_288 : decode cX7_snapshot 288 = .ok (.iconst 1, 1) := by decide +kernel
theorem dX7_snapshot_289 : decode cX7_snapshot 289 = .ok (.isub, 1) := by decide +kernel
theorem dX7_snapshot_290 : decode cX7_snapshot 290 = .ok (.iload_n 3, 1) := by decide +kernel
theorem dX7_snapshot_291 : decode cX7_snapshot 291 = .ok (.isub, 1) := by decide +kernel
theorem dX7_snapshot_292 : decode cX7_snapshot 292 = .ok (.iaload, 1) := by decide +kernel
theorem dX7_snapshot_293 : decode cX7_snapshot 293 = .ok (.goto 4, 3) := by decide +kernel
theorem dX7_snapshot_296 : decode cX7_snapshot 296 = .ok (.iconst (-1), 1) := by decide +kernel
theorem dX7_snapshot_297 : decode cX7_snapshot 297 = .ok (.iastore, 1) := by decide +kernel
theorem dX7_snapshot_298 : decode cX7_snapshot 298 = .ok (.iinc 3 1, 3) := by decide +kernel
theorem dX7_snapshot_301 : decode cX7_snapshot 301 = .ok (.goto (-53), 3) := by decide +kernel
theorem dX7_snapshot_304 : decode cX7_snapshot 304 = .ok (.aload_n 0, 1) := by decide +kernel
theorem dX7_snapshot_305 : decode cX7_snapshot 305 = .ok (.getfield 68, 3) := by decide +kernel
theorem dX7_snapshot_308 : decode cX7_snapshot 308 = .ok (.iload_n 1, 1) := by decide +kernel
theorem dX7_snapshot_309 : decode cX7_snapshot 309 = .ok (.dup2, 1) := by decide +kernel
theorem dX7_snapshot_310 : decode cX7_snapshot 310 = .ok (.iaload, 1) := by decide +kernel
theorem dX7_snapshot_311 : decode cX7_snapshot 311 = .ok (.iconst 1, 1) := by decide +kernel
theorem dX7_snapshot_312 : decode cX7_snapshot 312 = .ok (.iadd, 1) := by decide +kernel
theorem dX7_snapshot_313 : decode cX7_snapshot 313 = .ok (.iastore, 1) := by decide +kernel
theorem dX7_snapshot_314 : decode cX7_snapshot 314 = .ok (.aload_n 0, 1) := by decide +kernel
theorem dX7_snapshot_315 : decode cX7_snapshot 315 = .ok (.getfield 68, 3) := by decide +kernel
theorem dX7_snapshot_318 : decode cX7_snapshot 318 = .ok (.iload_n 1, 1) := by decide +kernel
theorem dX7_snapshot_319 : decode cX7_snapshot 319 = .ok (.iaload, 1) := by decide +kernel
theorem dX7_snapshot_320 : decode cX7_snapshot 320 = .ok (.iconst 1, 1) := by decide +kernel
theorem dX7_snapshot_321 : decode cX7_snapshot 321 = .ok (.isub, 1) := by decide +kernel
theorem dX7_snapshot_322 : decode cX7_snapshot 322 = .ok (.ireturn, 1) := by decide +kernel
def wX7_snapshot_297 (post : Int32 → KS → Int64 → Prop) (bk248 : Int32 → Int32 → Int32 → KS → Int64 → Prop) (l1 : Int32) (l2 : Int32) (l3 : Int32) (t0 : Int32) (t1 : Int32) (M : KS) (ap : Int64) : Prop := (vp_in t1 1152) ∧ (bk248 l1 l2 (l3 + 1) (k3 M 16 27 t1.toNatClampNeg t0) ap)
set_option maxHeartbeats 4000000 in
set_option maxRecDepth 100000 in
theorem bX7_snapshot_297 {p : Program} {l : Launch} {e : Env} {s : State} {m : MethodId} {args : Array Value} {below : List Frame} {meth : Method} {c : Code} {D : va_G} {cI : Nat → ClassId} {e0 : Nat} {A : Nat → Prop} {ad : Nat → Nat → Nat} {K : KS} {o : Int64} {od : UInt64} {mc ms : Nat} {post : Int32 → KS → Int64 → Prop} {bk248 : Int32 → Int32 → Int32 → KS → Int64 → Prop} (S : CallFix p m c cX7_snapshot 5 s args WU RX7) (hg : GI D cI e0 A s s.heap) (hr : meth.sig.returnType = (some FieldType.int)) (hlk : meth.locks = false) (hout : ∀ x ∈ c.exceptionTable.toList, False) (hbk248 : ∀ {H : Heap} {locs : List Loc} {ls : Array Slot} {l1 : Int32} {l2 : Int32} {l3 : Int32} {M : KS} {ap : Int64}, va_S A s.heap H locs → HT D cI e0 A ad K M ap o od H → lv_has ls 5 [(0, .ref (ad 3 0)), (1, .int l1), (2, .int l2), (3, .int l3)] → bk248 l1 l2 l3 M ap → W p l e ({ frames := 2, cells := mc, slots := ms, locals := 43 } : Room) s m args below meth c H locs 0 0 (MQQ below (qM D cI e0 A ad K o od rI post) xN args s mc ms A) (F0 m 248 ls [])) {H : Heap} {locs : List Loc} {ls : Array Slot} {l1 : Int32} {l2 : Int32} {l3 : Int32} {t0 : Int32} {t1 : Int32} {M : KS} {ap : Int64} (hS : va_S A s.heap H locs) (hw : HT D cI e0 A ad K M ap o od H) (hl : lv_has ls 5 [(0, .ref (ad 3 0)), (1, .int l1), (2, .int l2), (3, .int l3)]) (h : wX7_snapshot_297 post bk248 l1 l2 l3 t0 t1 M ap) : W p l e ({ frames := 2, cells := mc, slots := ms, locals := 43 } : Room) s m args below meth c H locs 0 0 (MQQ below (qM D cI e0 A ad K o od rI post) xN args s mc ms A) (F0 m 297 ls [.int t0, .int t1, .ref (ad 16 27)]) := by
  unfold wX7_snapshot_297 at h
  obtain ⟨g23, h⟩ := h
  refine s16 S hg hS hw rfl g23 dX7_snapshot_297 (fun H locs hw hS => ?_)
  refine lv_iinc (v := l3 + 1) (lv' := [(3, .int (l3 + 1)), (0, .ref (ad 3 0)), (1, .int l1), (2, .int l2)]) S.1 S.2.1 dX7_snapshot_298 hl (k := 3) rfl rfl (by decide) rfl (fun ls hl => ?_)
  refine lv_goto (tgt := 248) S.1 S.2.1 dX7_snapshot_301 (by decide) ?_
  have hl := lv_sub hl (l' := [(0, .ref (ad 3 0)), (1, .int l1), (2, .int l2), (3, .int (l3 + 1))]) [1, 2, 3, 0] rfl
  exact hbk248 hS hw hl h
def wX7_snapshot_248 (post : Int32 → KS → Int64 → Prop) : Nat → Int32 → Int32 → Int32 → KS → Int64 → Prop
  | 0 => fun _ _ _ _ _ => False
  | n + 1 => fun l1 l2 l3 M ap => ((3 ≤ l3 → ((vp_in l1 8) ∧ (post (((k3 M 16 26 l1.toNatClampNeg ((M 16 26 l1.toNatClampNeg) + 1)) 16 26 l1.toNatClampNeg) - 1) (k3 M 16 26 l1.toNatClampNeg ((M 16 26 l1.toNatClampNeg) + 1)) ap))) ∧ (¬ 3 ≤ l3 → ((vp_in l1 8) ∧ ((((M 16 24 l1.toNatClampNeg) ≤ l3 → (wX7_snapshot_297 post (wX7_snapshot_248 post n) l1 l2 l3 (-1) ((l2 + 21) + l3) M ap)) ∧ (¬ (M 16 24 l1.toNatClampNeg) ≤ l3 → ((vp_in ((((16 * l1) + (M 16 24 l1.toNatClampNeg)) - 1) - l3) 128) ∧ (wX7_snapshot_297 post (wX7_snapshot_248 post n) l1 l2 l3 (M 16 25 (((((16 * l1) + (M 16 24 l1.toNatClampNeg)) - 1) - l3).toNatClampNeg)) ((l2 + 21) + l3) M ap))))))))
set_option maxHeartbeats 4000000 in
set_option maxRecDepth 100000 in
theorem bX7_snapshot_248 {p : Program} {l : Launch} {e : Env} {s : State} {m : MethodId} {args : Array Value} {below : List Frame} {meth : Method} {c : Code} {D : va_G} {cI : Nat → ClassId} {e0 : Nat} {A : Nat → Prop} {ad : Nat → Nat → Nat} {K : KS} {o : Int64} {od : UInt64} {mc ms : Nat} {post : Int32 → KS → Int64 → Prop} (S : CallFix p m c cX7_snapshot 5 s args WU RX7) (hg : GI D cI e0 A s s.heap) (hr : meth.sig.returnType = (some FieldType.int)) (hlk : meth.locks = false) (hout : ∀ x ∈ c.exceptionTable.toList, False) : ∀ n : Nat, ∀ {H : Heap} {locs : List Loc} {ls : Array Slot} {l1 : Int32} {l2 : Int32} {l3 : Int32} {M : KS} {ap : Int64}, va_S A s.heap H locs → HT D cI e0 A ad K M ap o od H → lv_has ls 5 [(0, .ref (ad 3 0)), (1, .int l1), (2, .int l2), (3, .int l3)] → wX7_snapshot_248 post n l1 l2 l3 M ap → W p l e ({ frames := 2, cells := mc, slots := ms, locals := 43 } : Room) s m args below meth c H locs 0 0 (MQQ below (qM D cI e0 A ad K o od rI post) xN args s mc ms A) (F0 m 248 ls []) := by
  intro n
  induction n with
  | zero => intros; exact False.elim (by assumption)
  | succ n ih =>
    intro H locs ls l1 l2 l3 M ap hS hw hl h
    unfold wX7_snapshot_248 at h
    refine lv_iload_n S.1 S.2.1 dX7_snapshot_248 rfl (lv_at hl 3 rfl) ?_
    refine lv_iconst (v := 3) S.1 S.2.1 dX7_snapshot_249 (by decide) ?_
    refine lv_icmp_ge (tgt := 304) S.1 S.2.1 dX7_snapshot_250 (by decide) (fun c19 => ?_) (fun c19 => ?_)
    · have h := h.1 c19
      refine lv_aload_n S.1 S.2.1 dX7_snapshot_304 rfl (lv_at hl 0 rfl) ?_
      refine g3_26 S hg hw u1070 dX7_snapshot_305 ?_
      refine lv_iload_n S.1 S.2.1 dX7_snapshot_308 rfl (lv_at hl 1 rfl) ?_
      refine lv_dup2_11 S.1 S.2.1 dX7_snapshot_309 rfl rfl ?_
      obtain ⟨g20, h⟩ := h
      refine a16 S hg hw rfl g20 dX7_snapshot_310 ?_
      refine lv_iconst (v := 1) S.1 S.2.1 dX7_snapshot_311 (by decide) ?_
      refine lv_iadd S.1 S.2.1 dX7_snapshot_312 ?_
      refine s16 S hg hS hw rfl g20 dX7_snapshot_313 (fun H locs hw hS => ?_)
      refine lv_aload_n S.1 S.2.1 dX7_snapshot_314 rfl (lv_at hl 0 rfl) ?_
      refine g3_26 S hg hw u1070 dX7_snapshot_315 ?_
      refine lv_iload_n S.1 S.2.1 dX7_snapshot_318 rfl (lv_at hl 1 rfl) ?_
      refine a16 S hg hw rfl g20 dX7_snapshot_319 ?_
      refine lv_iconst (v := 1) S.1 S.2.1 dX7_snapshot_320 (by decide) ?_
      refine lv_isub S.1 S.2.1 dX7_snapshot_321 ?_
      exact r_iret (y := yX7_snapshot) S hr rfl hlk hS (by omega) (by omega) dX7_snapshot_322 ⟨(((k3 M 16 26 l1.toNatClampNeg ((M 16 26 l1.toNatClampNeg) + 1)) 16 26 l1.toNatClampNeg) - 1), _, _, rfl, h, hw⟩
    · have h := h.2 c19
      refine lv_aload_n S.1 S.2.1 dX7_snapshot_253 rfl (lv_at hl 0 rfl) ?_
      refine g3_27 S hg hw u1071 dX7_snapshot_254 ?_
      refine lv_iload_n S.1 S.2.1 dX7_snapshot_257 rfl (lv_at hl 2 rfl) ?_
      refine lv_bipush (v := 21) S.1 S.2.1 dX7_snapshot_258 (by decide) ?_
      refine lv_iadd S.1 S.2.1 dX7_snapshot_260 ?_
      refine lv_iload_n S.1 S.2.1 dX7_snapshot_261 rfl (lv_at hl 3 rfl) ?_
      refine lv_iadd S.1 S.2.1 dX7_snapshot_262 ?_
      refine lv_aload_n S.1 S.2.1 dX7_snapshot_263 rfl (lv_at hl 0 rfl) ?_
      refine g3_24 S hg hw u1068 dX7_snapshot_264 ?_
      refine lv_iload_n S.1 S.2.1 dX7_snapshot_267 rfl (lv_at hl 1 rfl) ?_
      obtain ⟨g21, h⟩ := h
      refine a16 S hg hw rfl g21 dX7_snapshot_268 ?_
      refine lv_iload_n S.1 S.2.1 dX7_snapshot_269 rfl (lv_at hl 3 rfl) ?_
      refine lv_icmp_le (tgt := 296) S.1 S.2.1 dX7_snapshot_270 (by decide) (fun c22 => ?_) (fun c22 => ?_)
      · have h := h.1 c22
        refine lv_iconst (v := (-1)) S.1 S.2.1 dX7_snapshot_296 (by decide) ?_
        have hl := lv_sub hl (l' := [(0, .ref (ad 3 0)), (1, .int l1), (2, .int l2), (3, .int l3)]) [0, 1, 2, 3] rfl
        exact bX7_snapshot_297 S hg hr hlk hout ih hS hw hl h
      · have h := h.2 c22
        refine lv_aload_n S.1 S.2.1 dX7_snapshot_273 rfl (lv_at hl 0 rfl) ?_
        refine g3_25 S hg hw u1069 dX7_snapshot_274 ?_
        refine lv_bipush (v := 16) S.1 S.2.1 dX7_snapshot_277 (by decide) ?_
        refine lv_iload_n S.1 S.2.1 dX7_snapshot_279 rfl (lv_at hl 1 rfl) ?_
        refine lv_imul S.1 S.2.1 dX7_snapshot_280 ?_
        refine lv_aload_n S.1 S.2.1 dX7_snapshot_281 rfl (lv_at hl 0 rfl) ?_
        refine g3_24 S hg hw u1068 dX7_snapshot_282 ?_
        refine lv_iload_n S.1 S.2.1 dX7_snapshot_285 rfl (lv_at hl 1 rfl) ?_
        refine a16 S hg hw rfl g21 dX7_snapshot_286 ?_
        refine lv_iadd S.1 S.2.1 dX7_snapshot_287 ?_
        refine lv_iconst (v := 1) S.1 S.2.1 dX7_snapshot_288 (by decide) ?_
        refine lv_isub S.1 S.2.1 dX7_snapshot_289 ?_
        refine lv_iload_n S.1 S.2.1 dX7_snapshot_290 rfl (lv_at hl 3 rfl) ?_
        refine lv_isub S.1 S.2.1 dX7_snapshot_291 ?_
        obtain ⟨g24, h⟩ := h
        refine a16 S hg hw rfl g24 dX7_snapshot_292 ?_
        refine lv_goto (tgt := 297) S.1 S.2.1 dX7_snapshot_293 (by decide) ?_
        have hl := lv_sub hl (l' := [(0, .ref (ad 3 0)), (1, .int l1), (2, .int l2), (3, .int l3)]) [0, 1, 2, 3] rfl
        exact bX7_snapshot_297 S hg hr hlk hout ih hS hw hl h
def wX7_snapshot_192 (post : Int32 → KS → Int64 → Prop) (bk130 : Int32 → Int32 → Int32 → KS → Int64 → Prop) (l1 : Int32) (l2 : Int32) (l3 : Int32) (t0 : Int32) (t1 : Int32) (M : KS) (ap : Int64) : Prop := (vp_in t1 1152) ∧ ((vp_in l1 8) ∧ ((vp_in ((16 * l1) + l3) 128) ∧ ((vp_in ((16 * ((6 * l1) + ((k3 M 16 27 t1.toNatClampNeg t0) 16 26 l1.toNatClampNeg))) + l3) 768) ∧ (bk130 l1 l2 (l3 + 1) (k3 (k3 M 16 27 t1.toNatClampNeg t0) 16 28 (((16 * ((6 * l1) + ((k3 M 16 27 t1.toNatClampNeg t0) 16 26 l1.toNatClampNeg))) + l3).toNatClampNeg) ((k3 M 16 27 t1.toNatClampNeg t0) 16 25 (((16 * l1) + l3).toNatClampNeg))) ap))))
set_option maxHeartbeats 4000000 in
set_option maxRecDepth 100000 in
theorem bX7_snapshot_192 {p : Program} {l : Launch} {e : Env} {s : State} {m : MethodId} {args : Array Value} {below : List Frame} {meth : Method} {c : Code} {D : va_G} {cI : Nat → ClassId} {e0 : Nat} {A : Nat → Prop} {ad : Nat → Nat → Nat} {K : KS} {o : Int64} {od : UInt64} {mc ms : Nat} {post : Int32 → KS → Int64 → Prop} {bk130 : Int32 → Int32 → Int32 → KS → Int64 → Prop} (S : CallFix p m c cX7_snapshot 5 s args WU RX7) (hg : GI D cI e0 A s s.heap) (hr : meth.sig.returnType = (some FieldType.int)) (hlk : meth.locks = false) (hout : ∀ x ∈ c.exceptionTable.toList, False) (hbk130 : ∀ {H : Heap} {locs : List Loc} {ls : Array Slot} {l1 : Int32} {l2 : Int32} {l3 : Int32} {M : KS} {ap : Int64}, va_S A s.heap H locs → HT D cI e0 A ad K M ap o od H → lv_has ls 5 [(0, .ref (ad 3 0)), (1, .int l1), (2, .int l2), (3, .int l3)] → bk130 l1 l2 l3 M ap → W p l e ({ frames := 2, cells := mc, slots := ms, locals := 43 } : Room) s m args below meth c H locs 0 0 (MQQ below (qM D cI e0 A ad K o od rI post) xN args s mc ms A) (F0 m 130 ls [])) {H : Heap} {locs : List Loc} {ls : Array Slot} {l1 : Int32} {l2 : Int32} {l3 : Int32} {t0 : Int32} {t1 : Int32} {M : KS} {ap : Int64} (hS : va_S A s.heap H locs) (hw : HT D cI e0 A ad K M ap o od H) (hl : lv_has ls 5 [(0, .ref (ad 3 0)), (1, .int l1), (2, .int l2), (3, .int l3)]) (h : wX7_snapshot_192 post bk130 l1 l2 l3 t0 t1 M ap) : W p l e ({ frames := 2, cells := mc, slots := ms, locals := 43 } : Room) s m args below meth c H locs 0 0 (MQQ below (qM D cI e0 A ad K o od rI post) xN args s mc ms A) (F0 m 192 ls [.int t0, .int t1, .ref (ad 16 27)]) := by
  unfold wX7_snapshot_192 at h
  obtain ⟨g28, h⟩ := h
  refine s16 S hg hS hw rfl g28 dX7_snapshot_192 (fun H locs hw hS => ?_)
  refine lv_aload_n S.1 S.2.1 dX7_snapshot_193 rfl (lv_at hl 0 rfl) ?_
  refine g3_28 S hg hw u1072 dX7_snapshot_194 ?_
  refine lv_bipush (v := 16) S.1 S.2.1 dX7_snapshot_197 (by decide) ?_
  refine lv_bipush (v := 6) S.1 S.2.1 dX7_snapshot_199 (by decide) ?_
  refine lv_iload_n S.1 S.2.1 dX7_snapshot_201 rfl (lv_at hl 1 rfl) ?_
  refine lv_imul S.1 S.2.1 dX7_snapshot_202 ?_
  refine lv_aload_n S.1 S.2.1 dX7_snapshot_203 rfl (lv_at hl 0 rfl) ?_
  refine g3_26 S hg hw u1070 dX7_snapshot_204 ?_
  refine lv_iload_n S.1 S.2.1 dX7_snapshot_207 rfl (lv_at hl 1 rfl) ?_
  obtain ⟨g29, h⟩ := h
  refine a16 S hg hw rfl g29 dX7_snapshot_208 ?_
  refine lv_iadd S.1 S.2.1 dX7_snapshot_209 ?_
  refine lv_imul S.1 S.2.1 dX7_snapshot_210 ?_
  refine lv_iload_n S.1 S.2.1 dX7_snapshot_211 rfl (lv_at hl 3 rfl) ?_
  refine lv_iadd S.1 S.2.1 dX7_snapshot_212 ?_
  refine lv_aload_n S.1 S.2.1 dX7_snapshot_213 rfl (lv_at hl 0 rfl) ?_
  refine g3_25 S hg hw u1069 dX7_snapshot_214 ?_
  refine lv_bipush (v := 16) S.1 S.2.1 dX7_snapshot_217 (by decide) ?_
  refine lv_iload_n S.1 S.2.1 dX7_snapshot_219 rfl (lv_at hl 1 rfl) ?_
  refine lv_imul S.1 S.2.1 dX7_snapshot_220 ?_
  refine lv_iload_n S.1 S.2.1 dX7_snapshot_221 rfl (lv_at hl 3 rfl) ?_
  refine lv_iadd S.1 S.2.1 dX7_snapshot_222 ?_
  obtain ⟨g30, h⟩ := h
  refine a16 S hg hw rfl g30 dX7_snapshot_223 ?_
  obtain ⟨g31, h⟩ := h
  refine s16 S hg hS hw rfl g31 dX7_snapshot_224 (fun H locs hw hS => ?_)
  refine lv_iinc (v := l3 + 1) (lv' := [(3, .int (l3 + 1)), (0, .ref (ad 3 0)), (1, .int l1), (2, .int l2)]) S.1 S.2.1 dX7_snapshot_225 hl (k := 3) rfl rfl (by decide) rfl (fun ls hl => ?_)
  refine lv_goto (tgt := 130) S.1 S.2.1 dX7_snapshot_228 (by decide) ?_
  have hl := lv_sub hl (l' := [(0, .ref (ad 3 0)), (1, .int l1), (2, .int l2), (3, .int (l3 + 1))]) [1, 2, 3, 0] rfl
  exact hbk130 hS hw hl h
def wX7_snapshot_161 (post : Int32 → KS → Int64 → Prop) (bk130 : Int32 → Int32 → Int32 → KS → Int64 → Prop) (l1 : Int32) (l2 : Int32) (l3 : Int32) (t0 : Int32) (M : KS) (ap : Int64) : Prop := ((t0 = 0 → (wX7_snapshot_192 post bk130 l1 l2 l3 0 ((l2 + 4) + l3) M ap)) ∧ (¬ t0 = 0 → ((vp_in ((16 * l1) + l3) 128) ∧ (wX7_snapshot_192 post bk130 l1 l2 l3 (M 16 23 (((16 * l1) + l3).toNatClampNeg)) ((l2 + 4) + l3) M ap))))
set_option maxHeartbeats 4000000 in
set_option maxRecDepth 100000 in
theorem bX7_snapshot_161 {p : Program} {l : Launch} {e : Env} {s : State} {m : MethodId} {args : Array Value} {below : List Frame} {meth : Method} {c : Code} {D : va_G} {cI : Nat → ClassId} {e0 : Nat} {A : Nat → Prop} {ad : Nat → Nat → Nat} {K : KS} {o : Int64} {od : UInt64} {mc ms : Nat} {post : Int32 → KS → Int64 → Prop} {bk130 : Int32 → Int32 → Int32 → KS → Int64 → Prop} (S : CallFix p m c cX7_snapshot 5 s args WU RX7) (hg : GI D cI e0 A s s.heap) (hr : meth.sig.returnType = (some FieldType.int)) (hlk : meth.locks = false) (hout : ∀ x ∈ c.exceptionTable.toList, False) (hbk130 : ∀ {H : Heap} {locs : List Loc} {ls : Array Slot} {l1 : Int32} {l2 : Int32} {l3 : Int32} {M : KS} {ap : Int64}, va_S A s.heap H locs → HT D cI e0 A ad K M ap o od H → lv_has ls 5 [(0, .ref (ad 3 0)), (1, .int l1), (2, .int l2), (3, .int l3)] → bk130 l1 l2 l3 M ap → W p l e ({ frames := 2, cells := mc, slots := ms, locals := 43 } : Room) s m args below meth c H locs 0 0 (MQQ below (qM D cI e0 A ad K o od rI post) xN args s mc ms A) (F0 m 130 ls [])) {H : Heap} {locs : List Loc} {ls : Array Slot} {l1 : Int32} {l2 : Int32} {l3 : Int32} {t0 : Int32} {M : KS} {ap : Int64} (hS : va_S A s.heap H locs) (hw : HT D cI e0 A ad K M ap o od H) (hl : lv_has ls 5 [(0, .ref (ad 3 0)), (1, .int l1), (2, .int l2), (3, .int l3)]) (h : wX7_snapshot_161 post bk130 l1 l2 l3 t0 M ap) : W p l e ({ frames := 2, cells := mc, slots := ms, locals := 43 } : Room) s m args below meth c H locs 0 0 (MQQ below (qM D cI e0 A ad K o od rI post) xN args s mc ms A) (F0 m 161 ls [.int t0]) := by
  unfold wX7_snapshot_161 at h
  refine lv_istore (lv' := [(4, .int t0), (0, .ref (ad 3 0)), (1, .int l1), (2, .int l2), (3, .int l3)]) S.1 S.2.1 dX7_snapshot_161 hl (by decide) rfl (fun ls hl => ?_)
  refine lv_aload_n S.1 S.2.1 dX7_snapshot_163 rfl (lv_at hl 1 rfl) ?_
  refine g3_27 S hg hw u1071 dX7_snapshot_164 ?_
  refine lv_iload_n S.1 S.2.1 dX7_snapshot_167 rfl (lv_at hl 3 rfl) ?_
  refine lv_iconst (v := 4) S.1 S.2.1 dX7_snapshot_168 (by decide) ?_
  refine lv_iadd S.1 S.2.1 dX7_snapshot_169 ?_
  refine lv_iload_n S.1 S.2.1 dX7_snapshot_170 rfl (lv_at hl 4 rfl) ?_
  refine lv_iadd S.1 S.2.1 dX7_snapshot_171 ?_
  refine lv_iload S.1 S.2.1 dX7_snapshot_172 (lv_at hl 0 rfl) ?_
  refine lv_if_eq (tgt := 191) S.1 S.2.1 dX7_snapshot_174 (by decide) (fun c27 => ?_) (fun c27 => ?_)
  · have h := h.1 c27
    refine lv_iconst (v := 0) S.1 S.2.1 dX7_snapshot_191 (by decide) ?_
    have hl := lv_sub hl (l' := [(0, .ref (ad 3 0)), (1, .int l1), (2, .int l2), (3, .int l3)]) [1, 2, 3, 4] rfl
    exact bX7_snapshot_192 S hg hr hlk hout hbk130 hS hw hl h
  · have h := h.2 c27
    refine lv_aload_n S.1 S.2.1 dX7_snapshot_177 rfl (lv_at hl 1 rfl) ?_
    refine g3_23 S hg hw u1067 dX7_snapshot_178 ?_
    refine lv_bipush (v := 16) S.1 S.2.1 dX7_snapshot_181 (by decide) ?_
    refine lv_iload_n S.1 S.2.1 dX7_snapshot_183 rfl (lv_at hl 2 rfl) ?_
    refine lv_imul S.1 S.2.1 dX7_snapshot_184 ?_
    refine lv_iload_n S.1 S.2.1 dX7_snapshot_185 rfl (lv_at hl 4 rfl) ?_
    refine lv_iadd S.1 S.2.1 dX7_snapshot_186 ?_
    obtain ⟨g32, h⟩ := h
    refine a16 S hg hw rfl g32 dX7_snapshot_187 ?_
    refine lv_goto (tgt := 192) S.1 S.2.1 dX7_snapshot_188 (by decide) ?_
    have hl := lv_sub hl (l' := [(0, .ref (ad 3 0)), (1, .int l1), (2, .int l2), (3, .int l3)]) [1, 2, 3, 4] rfl
    exact bX7_snapshot_192 S hg hr hlk hout hbk130 hS hw hl h
def wX7_snapshot_130 (post : Int32 → KS → Int64 → Prop) : Nat → Int32 → Int32 → Int32 → KS → Int64 → Prop
  | 0 => fun _ _ _ _ _ => False
  | n + 1 => fun l1 l2 l3 M ap => ((16 ≤ l3 → ((vp_in l1 8) ∧ ((vp_in (l2 + 20) 1152) ∧ (∃ n1 : Nat, wX7_snapshot_248 post n1 l1 l2 0 (k3 M 16 27 ((l2 + 20).toNatClampNeg) (M 16 24 l1.toNatClampNeg)) ap)))) ∧ (¬ 16 ≤ l3 → ((vp_in ((2 * l1) + (l3 / 8)) 16) ∧ ((((M 16 21 (((2 * l1) + (l3 / 8)).toNatClampNeg)) ≤ (l3 - l3 / 8 * 8) → (wX7_snapshot_161 post (wX7_snapshot_130 post n) l1 l2 l3 0 M ap)) ∧ (¬ (M 16 21 (((2 * l1) + (l3 / 8)).toNatClampNeg)) ≤ (l3 - l3 / 8 * 8) → (wX7_snapshot_161 post (wX7_snapshot_130 post n) l1 l2 l3 1 M ap)))))))
set_option maxHeartbeats 4000000 in
set_option maxRecDepth 100000 in
theorem bX7_snapshot_130 {p : Program} {l : Launch} {e : Env} {s : State} {m : MethodId} {args : Array Value} {below : List Frame} {meth : Method} {c : Code} {D : va_G} {cI : Nat → ClassId} {e0 : Nat} {A : Nat → Prop} {ad : Nat → Nat → Nat} {K : KS} {o : Int64} {od : UInt64} {mc ms : Nat} {post : Int32 → KS → Int64 → Prop} (S : CallFix p m c cX7_snapshot 5 s args WU RX7) (hg : GI D cI e0 A s s.heap) (hr : meth.sig.returnType = (some FieldType.int)) (hlk : meth.locks = false) (hout : ∀ x ∈ c.exceptionTable.toList, False) : ∀ n : Nat, ∀ {H : Heap} {locs : List Loc} {ls : Array Slot} {l1 : Int32} {l2 : Int32} {l3 : Int32} {M : KS} {ap : Int64}, va_S A s.heap H locs → HT D cI e0 A ad K M ap o od H → lv_has ls 5 [(0, .ref (ad 3 0)), (1, .int l1), (2, .int l2), (3, .int l3)] → wX7_snapshot_130 post n l1 l2 l3 M ap → W p l e ({ frames := 2, cells := mc, slots := ms, locals := 43 } : Room) s m args below meth c H locs 0 0 (MQQ below (qM D cI e0 A ad K o od rI post) xN args s mc ms A) (F0 m 130 ls []) := by
  intro n
  induction n with
  | zero => intros; exact False.elim (by assumption)
  | succ n ih =>
    intro H locs ls l1 l2 l3 M ap hS hw hl h
    unfold wX7_snapshot_130 at h
    refine lv_iload_n S.1 S.2.1 dX7_snapshot_130 rfl (lv_at hl 3 rfl) ?_
    refine lv_bipush (v := 16) S.1 S.2.1 dX7_snapshot_131 (by decide) ?_
    refine lv_icmp_ge (tgt := 231) S.1 S.2.1 dX7_snapshot_133 (by decide) (fun c16 => ?_) (fun c16 => ?_)
    · have h := h.1 c16
      refine lv_aload_n S.1 S.2.1 dX7_snapshot_231 rfl (lv_at hl 0 rfl) ?_
      refine g3_27 S hg hw u1071 dX7_snapshot_232 ?_
      refine lv_iload_n S.1 S.2.1 dX7_snapshot_235 rfl (lv_at hl 2 rfl) ?_
      refine lv_bipush (v := 20) S.1 S.2.1 dX7_snapshot_236 (by decide) ?_
      refine lv_iadd S.1 S.2.1 dX7_snapshot_238 ?_
      refine lv_aload_n S.1 S.2.1 dX7_snapshot_239 rfl (lv_at hl 0 rfl) ?_
      refine g3_24 S hg hw u1068 dX7_snapshot_240 ?_
      refine lv_iload_n S.1 S.2.1 dX7_snapshot_243 rfl (lv_at hl 1 rfl) ?_
      obtain ⟨g17, h⟩ := h
      refine a16 S hg hw rfl g17 dX7_snapshot_244 ?_
      obtain ⟨g18, h⟩ := h
      refine s16 S hg hS hw rfl g18 dX7_snapshot_245 (fun H locs hw hS => ?_)
      refine lv_iconst (v := 0) S.1 S.2.1 dX7_snapshot_246 (by decide) ?_
      refine lv_istore_n (lv' := [(3, .int 0), (0, .ref (ad 3 0)), (1, .int l1), (2, .int l2)]) S.1 S.2.1 dX7_snapshot_247 rfl hl (by decide) rfl (fun ls hl => ?_)
      have hl := lv_sub hl (l' := [(0, .ref (ad 3 0)), (1, .int l1), (2, .int l2), (3, .int 0)]) [1, 2, 3, 0] rfl
      obtain ⟨n1, h⟩ := h
      exact bX7_snapshot_248 S hg hr hlk hout n1 hS hw hl h
    · have h := h.2 c16
      refine lv_iload_n S.1 S.2.1 dX7_snapshot_136 rfl (lv_at hl 3 rfl) ?_
      refine lv_bipush (v := 8) S.1 S.2.1 dX7_snapshot_137 (by decide) ?_
      refine lv_irem S.1 S.2.1 dX7_snapshot_139 (by decide) ?_
      refine lv_aload_n S.1 S.2.1 dX7_snapshot_140 rfl (lv_at hl 0 rfl) ?_
      refine g3_21 S hg hw u1065 dX7_snapshot_141 ?_
      refine lv_iconst (v := 2) S.1 S.2.1 dX7_snapshot_144 (by decide) ?_
      refine lv_iload_n S.1 S.2.1 dX7_snapshot_145 rfl (lv_at hl 1 rfl) ?_
      refine lv_imul S.1 S.2.1 dX7_snapshot_146 ?_
      refine lv_iload_n S.1 S.2.1 dX7_snapshot_147 rfl (lv_at hl 3 rfl) ?_
      refine lv_bipush (v := 8) S.1 S.2.1 dX7_snapshot_148 (by decide) ?_
      refine lv_idiv S.1 S.2.1 dX7_snapshot_150 (by decide) ?_
      refine lv_iadd S.1 S.2.1 dX7_snapshot_151 ?_
      obtain ⟨g25, h⟩ := h
      refine a16 S hg hw rfl g25 dX7_snapshot_152 ?_
      refine lv_icmp_ge (tgt := 160) S.1 S.2.1 dX7_snapshot_153 (by decide) (fun c26 => ?_) (fun c26 => ?_)
      · have h := h.1 c26
        refine lv_iconst (v := 0) S.1 S.2.1 dX7_snapshot_160 (by decide) ?_
        have hl := lv_sub hl (l' := [(0, .ref (ad 3 0)), (1, .int l1), (2, .int l2), (3, .int l3)]) [0, 1, 2, 3] rfl
        exact bX7_snapshot_161 S hg hr hlk hout ih hS hw hl h
      · have h := h.2 c26
        refine lv_iconst (v := 1) S.1 S.2.1 dX7_snapshot_156 (by decide) ?_
        refine lv_goto (tgt := 161) S.1 S.2.1 dX7_snapshot_157 (by decide) ?_
        have hl := lv_sub hl (l' := [(0, .ref (ad 3 0)), (1, .int l1), (2, .int l2), (3, .int l3)]) [0, 1, 2, 3] rfl
        exact bX7_snapshot_161 S hg hr hlk hout ih hS hw hl h
def wpX7_snapshot (post : Int32 → KS → Int64 → Prop) (M : KS) (ap : Int64) (p1 : Int32) : Prop := (wpX7_isDuel (fun r1 => ((¬ r1 = 0 → ((vp_in p1 8) ∧ (((((k3 M 3 0 0 0) 13 16 p1.toNatClampNeg) = 103 → ((vp_in p1 8) ∧ (((¬ ((k3 M 3 0 0 0) 16 26 p1.toNatClampNeg) = 6 → (∀ x7 : Int32, x7 = 24 * ((6 * p1) + ((k3 M 3 0 0 0) 16 26 p1.toNatClampNeg)) → ((vp_in (2 * p1) 16) ∧ ((vp_in x7 1152) ∧ ((vp_in ((2 * p1) + 1) 16) ∧ ((vp_in (x7 + 1) 1152) ∧ ((vp_in p1 8) ∧ ((vp_in (x7 + 2) 1152) ∧ ((vp_in p1 8) ∧ ((vp_in (x7 + 3) 1152) ∧ (∃ n1 : Nat, wX7_snapshot_130 post n1 p1 x7 0 (k3 (k3 (k3 (k3 (k3 M 3 0 0 0) 16 27 x7.toNatClampNeg ((k3 M 3 0 0 0) 16 18 ((2 * p1).toNatClampNeg))) 16 27 ((x7 + 1).toNatClampNeg) ((k3 (k3 M 3 0 0 0) 16 27 x7.toNatClampNeg ((k3 M 3 0 0 0) 16 18 ((2 * p1).toNatClampNeg))) 16 18 (((2 * p1) + 1).toNatClampNeg))) 16 27 ((x7 + 2).toNatClampNeg) ((k3 (k3 (k3 M 3 0 0 0) 16 27 x7.toNatClampNeg ((k3 M 3 0 0 0) 16 18 ((2 * p1).toNatClampNeg))) 16 27 ((x7 + 1).toNatClampNeg) ((k3 (k3 M 3 0 0 0) 16 27 x7.toNatClampNeg ((k3 M 3 0 0 0) 16 18 ((2 * p1).toNatClampNeg))) 16 18 (((2 * p1) + 1).toNatClampNeg))) 16 19 p1.toNatClampNeg)) 16 27 ((x7 + 3).toNatClampNeg) ((k3 (k3 (k3 (k3 M 3 0 0 0) 16 27 x7.toNatClampNeg ((k3 M 3 0 0 0) 16 18 ((2 * p1).toNatClampNeg))) 16 27 ((x7 + 1).toNatClampNeg) ((k3 (k3 M 3 0 0 0) 16 27 x7.toNatClampNeg ((k3 M 3 0 0 0) 16 18 ((2 * p1).toNatClampNeg))) 16 18 (((2 * p1) + 1).toNatClampNeg))) 16 27 ((x7 + 2).toNatClampNeg) ((k3 (k3 (k3 M 3 0 0 0) 16 27 x7.toNatClampNeg ((k3 M 3 0 0 0) 16 18 ((2 * p1).toNatClampNeg))) 16 27 ((x7 + 1).toNatClampNeg) ((k3 (k3 M 3 0 0 0) 16 27 x7.toNatClampNeg ((k3 M 3 0 0 0) 16 18 ((2 * p1).toNatClampNeg))) 16 18 (((2 * p1) + 1).toNatClampNeg))) 16 19 p1.toNatClampNeg)) 16 20 p1.toNatClampNeg)) ap))))))))))) ∧ (((k3 M 3 0 0 0) 16 26 p1.toNatClampNeg) = 6 → ((wpX7_fails (fun r33 M34 ap35 => post r33 M34 ap35) (k3 M 3 0 0 0) ap 3))))))) ∧ (¬ ((k3 M 3 0 0 0) 13 16 p1.toNatClampNeg) = 103 → ((wpX7_fails (fun r36 M37 ap38 => post r36 M37 ap38) (k3 M 3 0 0 0) ap 2))))))) ∧ (r1 = 0 → ((wpX7_fails (fun r39 M40 ap41 => post r39 M40 ap41) (k3 M 3 0 0 0) ap 1))))) (k3 M 3 0 0 0) ap p1)
theorem hdX7_snapshot : yX7_snapshot.cls ≠ "java/lang/invoke/MethodHandle" ∧ yX7_snapshot.cls ≠ "java/lang/invoke/VarHandle" ∧ (parseMethodDescriptor yX7_snapshot.desc).map (fun d => d.parameters.length) = some 1 := by decide +kernel
set_option maxHeartbeats 4000000 in
set_option maxRecDepth 100000 in
theorem mtX7_snapshot {l : Launch} {D : va_G} {cI : Nat → ClassId} {e0 : Nat} {A : Nat → Prop} {ad : Nat → Nat → Nat} {K M : KS} {ap o : Int64} {od : UInt64} {mc ms : Nat} {p1 : Int32} {post : Int32 → KS → Int64 → Prop} (h : wpX7_snapshot post M ap p1) : CM l D cI e0 A yX7_snapshot cX7_snapshot 5 (some FieldType.int) 2 43 mc ms [.ref (ad 3 0), .int p1] (HT D cI e0 A ad K M ap o od) (qM D cI e0 A ad K o od rI post) xN := by
  refine CM.of (by decide) (Nat.le_of_ble_eq_true rfl) (fun p e s m below meth c ls FX hw hS hl => ?_)
  obtain ⟨S, hg, hr, hlk, hnm, hout⟩ := FX
  have hl : lv_has ls 5 [(0, .ref (ad 3 0)), (1, .int p1)] := hl
  unfold wpX7_snapshot at h
  refine lv_aload_n S.1 S.2.1 dX7_snapshot_0 rfl (lv_at hl 0 rfl) ?_
  refine lv_iconst (v := 0) S.1 S.2.1 dX7_snapshot_1 (by decide) ?_
  refine p3_0 S hg hS hw u1044 dX7_snapshot_2 (fun H locs hw hS => ?_)
  refine lv_aload_n S.1 S.2.1 dX7_snapshot_5 rfl (lv_at hl 0 rfl) ?_
  refine lv_iload_n S.1 S.2.1 dX7_snapshot_6 rfl (lv_at hl 1 rfl) ?_
  refine r_call (rest := []) S hg hS (mtX7_isDuel (mc := 0) (ms := 0) h) u1235 u1237 u32 u49 u1238 hdX7_isDuel (rv3 hg hw) hw ⟨Nat.le_of_ble_eq_true rfl, Nat.le_of_ble_eq_true rfl⟩ ⟨by show 0 + 0 ≤ mc; omega, by show 0 + 0 ≤ ms; omega⟩ hl.1 (Nat.le_of_ble_eq_true rfl) rfl dX7_snapshot_7 (fun E ce q H1 locs1 hx hS1 hc1 hc2 hc3 => hx.elim) (fun rv H locs hq hS => ?_)
  obtain ⟨r1, rfl, h, hw⟩ := hq
  show W p l e _ s m _ below meth c H locs _ _ _ (F0 m 10 ls [.int r1])
  show W p l e _ s m _ below meth c H locs 0 0 _ _
  refine lv_if_ne (tgt := 19) S.1 S.2.1 dX7_snapshot_10 (by decide) (fun c2 => ?_) (fun c2 => ?_)
  · have h := h.1 c2
    refine lv_aload_n S.1 S.2.1 dX7_snapshot_19 rfl (lv_at hl 0 rfl) ?_
    refine g3_16 S hg hw u1060 dX7_snapshot_20 ?_
    refine lv_iload_n S.1 S.2.1 dX7_snapshot_23 rfl (lv_at hl 1 rfl) ?_
    obtain ⟨g3, h⟩ := h
    refine a13 S hg hw rfl g3 dX7_snapshot_24 ?_
    refine lv_bipush (v := 103) S.1 S.2.1 dX7_snapshot_25 (by decide) ?_
    refine lv_icmp_eq (tgt := 36) S.1 S.2.1 dX7_snapshot_27 (by decide) (fun c4 => ?_) (fun c4 => ?_)
    · have h := h.1 c4
      refine lv_aload_n S.1 S.2.1 dX7_snapshot_36 rfl (lv_at hl 0 rfl) ?_
      refine g3_26 S hg hw u1070 dX7_snapshot_37 ?_
      refine lv_iload_n S.1 S.2.1 dX7_snapshot_40 rfl (lv_at hl 1 rfl) ?_
      obtain ⟨g5, h⟩ := h
      refine a16 S hg hw rfl g5 dX7_snapshot_41 ?_
      refine lv_bipush (v := 6) S.1 S.2.1 dX7_snapshot_42 (by decide) ?_
      refine lv_icmp_ne (tgt := 53) S.1 S.2.1 dX7_snapshot_44 (by decide) (fun c6 => ?_) (fun c6 => ?_)
      · have h := h.1 c6
        refine lv_bipush (v := 24) S.1 S.2.1 dX7_snapshot_53 (by decide) ?_
        refine lv_bipush (v := 6) S.1 S.2.1 dX7_snapshot_55 (by decide) ?_
        refine lv_iload_n S.1 S.2.1 dX7_snapshot_57 rfl (lv_at hl 1 rfl) ?_
        refine lv_imul S.1 S.2.1 dX7_snapshot_58 ?_
        refine lv_aload_n S.1 S.2.1 dX7_snapshot_59 rfl (lv_at hl 0 rfl) ?_
        refine g3_26 S hg hw u1070 dX7_snapshot_60 ?_
        refine lv_iload_n S.1 S.2.1 dX7_snapshot_63 rfl (lv_at hl 1 rfl) ?_
        refine a16 S hg hw rfl g5 dX7_snapshot_64 ?_
        refine lv_iadd S.1 S.2.1 dX7_snapshot_65 ?_
        refine lv_imul S.1 S.2.1 dX7_snapshot_66 ?_
        refine lv_topi (fun x7 ex7 => ?_)
        have h := h x7 ex7
        refine lv_istore_n (lv' := [(2, .int x7), (0, .ref (ad 3 0)), (1, .int p1)]) S.1 S.2.1 dX7_snapshot_67 rfl hl (by decide) rfl (fun ls hl => ?_)
        refine lv_aload_n S.1 S.2.1 dX7_snapshot_68 rfl (lv_at hl 1 rfl) ?_
        refine g3_27 S hg hw u1071 dX7_snapshot_69 ?_
        refine lv_iload_n S.1 S.2.1 dX7_snapshot_72 rfl (lv_at hl 0 rfl) ?_
        refine lv_aload_n S.1 S.2.1 dX7_snapshot_73 rfl (lv_at hl 1 rfl) ?_
        refine g3_18 S hg hw u1062 dX7_snapshot_74 ?_
        refine lv_iconst (v := 2) S.1 S.2.1 dX7_snapshot_77 (by decide) ?_
        refine lv_iload_n S.1 S.2.1 dX7_snapshot_78 rfl (lv_at hl 2 rfl) ?_
        refine lv_imul S.1 S.2.1 dX7_snapshot_79 ?_
        obtain ⟨g8, h⟩ := h
        refine a16 S hg hw rfl g8 dX7_snapshot_80 ?_
        obtain ⟨g9, h⟩ := h
        refine s16 S hg hS hw rfl g9 dX7_snapshot_81 (fun H locs hw hS => ?_)
        refine lv_aload_n S.1 S.2.1 dX7_snapshot_82 rfl (lv_at hl 1 rfl) ?_
        refine g3_27 S hg hw u1071 dX7_snapshot_83 ?_
        refine lv_iload_n S.1 S.2.1 dX7_snapshot_86 rfl (lv_at hl 0 rfl) ?_
        refine lv_iconst (v := 1) S.1 S.2.1 dX7_snapshot_87 (by decide) ?_
        refine lv_iadd S.1 S.2.1 dX7_snapshot_88 ?_
        refine lv_aload_n S.1 S.2.1 dX7_snapshot_89 rfl (lv_at hl 1 rfl) ?_
        refine g3_18 S hg hw u1062 dX7_snapshot_90 ?_
        refine lv_iconst (v := 2) S.1 S.2.1 dX7_snapshot_93 (by decide) ?_
        refine lv_iload_n S.1 S.2.1 dX7_snapshot_94 rfl (lv_at hl 2 rfl) ?_
        refine lv_imul S.1 S.2.1 dX7_snapshot_95 ?_
        refine lv_iconst (v := 1) S.1 S.2.1 dX7_snapshot_96 (by decide) ?_
        refine lv_iadd S.1 S.2.1 dX7_snapshot_97 ?_
        obtain ⟨g10, h⟩ := h
        refine a16 S hg hw rfl g10 dX7_snapshot_98 ?_
        obtain ⟨g11, h⟩ := h
        refine s16 S hg hS hw rfl g11 dX7_snapshot_99 (fun H locs hw hS => ?_)
        refine lv_aload_n S.1 S.2.1 dX7_snapshot_100 rfl (lv_at hl 1 rfl) ?_
        refine g3_27 S hg hw u1071 dX7_snapshot_101 ?_
        refine lv_iload_n S.1 S.2.1 dX7_snapshot_104 rfl (lv_at hl 0 rfl) ?_
        refine lv_iconst (v := 2) S.1 S.2.1 dX7_snapshot_105 (by decide) ?_
        refine lv_iadd S.1 S.2.1 dX7_snapshot_106 ?_
        refine lv_aload_n S.1 S.2.1 dX7_snapshot_107 rfl (lv_at hl 1 rfl) ?_
        refine g3_19 S hg hw u1063 dX7_snapshot_108 ?_
        refine lv_iload_n S.1 S.2.1 dX7_snapshot_111 rfl (lv_at hl 2 rfl) ?_
        obtain ⟨g12, h⟩ := h
        refine a16 S hg hw rfl g12 dX7_snapshot_112 ?_
        obtain ⟨g13, h⟩ := h
        refine s16 S hg hS hw rfl g13 dX7_snapshot_113 (fun H locs hw hS => ?_)
        refine lv_aload_n S.1 S.2.1 dX7_snapshot_114 rfl (lv_at hl 1 rfl) ?_
        refine g3_27 S hg hw u1071 dX7_snapshot_115 ?_
        refine lv_iload_n S.1 S.2.1 dX7_snapshot_118 rfl (lv_at hl 0 rfl) ?_
        refine lv_iconst (v := 3) S.1 S.2.1 dX7_snapshot_119 (by decide) ?_
        refine lv_iadd S.1 S.2.1 dX7_snapshot_120 ?_
        refine lv_aload_n S.1 S.2.1 dX7_snapshot_121 rfl (lv_at hl 1 rfl) ?_
        refine g3_20 S hg hw u1064 dX7_snapshot_122 ?_
        refine lv_iload_n S.1 S.2.1 dX7_snapshot_125 rfl (lv_at hl 2 rfl) ?_
        obtain ⟨g14, h⟩ := h
        refine a16 S hg hw rfl g14 dX7_snapshot_126 ?_
        obtain ⟨g15, h⟩ := h
        refine s16 S hg hS hw rfl g15 dX7_snapshot_127 (fun H locs hw hS => ?_)
        refine lv_iconst (v := 0) S.1 S.2.1 dX7_snapshot_128 (by decide) ?_
        refine lv_istore_n (lv' := [(3, .int 0), (2, .int x7), (0, .ref (ad 3 0)), (1, .int p1)]) S.1 S.2.1 dX7_snapshot_129 rfl hl (by decide) rfl (fun ls hl => ?_)
        have hl := lv_sub hl (l' := [(0, .ref (ad 3 0)), (1, .int p1), (2, .int x7), (3, .int 0)]) [2, 3, 1, 0] rfl
        obtain ⟨n1, h⟩ := h
        exact bX7_snapshot_130 S hg hr hlk hout n1 hS hw hl h
      · have h := h.2 c6
        refine lv_aload_n S.1 S.2.1 dX7_snapshot_47 rfl (lv_at hl 0 rfl) ?_
        refine lv_iconst (v := 3) S.1 S.2.1 dX7_snapshot_48 (by decide) ?_
        refine r_call (rest := []) S hg hS (mtX7_fails (mc := 0) (ms := 0) h) u1171 u1173 u26 u49 u1174 hdX7_fails (rv3 hg hw) hw ⟨Nat.le_of_ble_eq_true rfl, Nat.le_of_ble_eq_true rfl⟩ ⟨by show 0 + 0 ≤ mc; omega, by show 0 + 0 ≤ ms; omega⟩ hl.1 (Nat.le_of_ble_eq_true rfl) rfl dX7_snapshot_49 (fun E ce q H1 locs1 hx hS1 hc1 hc2 hc3 => hx.elim) (fun rv H locs hq hS => ?_)
        obtain ⟨r33, M34, ap35, rfl, h, hw⟩ := hq
        show W p l e _ s m _ below meth c H locs _ _ _ (F0 m 52 ls [.int r33])
        show W p l e _ s m _ below meth c H locs 0 0 _ _
        exact r_iret (y := yX7_snapshot) S hr rfl hlk hS (by omega) (by omega) dX7_snapshot_52 ⟨r33, _, _, rfl, h, hw⟩
    · have h := h.2 c4
      refine lv_aload_n S.1 S.2.1 dX7_snapshot_30 rfl (lv_at hl 0 rfl) ?_
      refine lv_iconst (v := 2) S.1 S.2.1 dX7_snapshot_31 (by decide) ?_
      refine r_call (rest := []) S hg hS (mtX7_fails (mc := 0) (ms := 0) h) u1171 u1173 u26 u49 u1174 hdX7_fails (rv3 hg hw) hw ⟨Nat.le_of_ble_eq_true rfl, Nat.le_of_ble_eq_true rfl⟩ ⟨by show 0 + 0 ≤ mc; omega, by show 0 + 0 ≤ ms; omega⟩ hl.1 (Nat.le_of_ble_eq_true rfl) rfl dX7_snapshot_32 (fun E ce q H1 locs1 hx hS1 hc1 hc2 hc3 => hx.elim) (fun rv H locs hq hS => ?_)
      obtain ⟨r36, M37, ap38, rfl, h, hw⟩ := hq
      show W p l e _ s m _ below meth c H locs _ _ _ (F0 m 35 ls [.int r36])
      show W p l e _ s m _ below meth c H locs 0 0 _ _
      exact r_iret (y := yX7_snapshot) S hr rfl hlk hS (by omega) (by omega) dX7_snapshot_35 ⟨r36, _, _, rfl, h, hw⟩
  · have h := h.2 c2
    refine lv_aload_n S.1 S.2.1 dX7_snapshot_13 rfl (lv_at hl 0 rfl) ?_
    refine lv_iconst (v := 1) S.1 S.2.1 dX7_snapshot_14 (by decide) ?_
    refine r_call (rest := []) S hg hS (mtX7_fails (mc := 0) (ms := 0) h) u1171 u1173 u26 u49 u1174 hdX7_fails (rv3 hg hw) hw ⟨Nat.le_of_ble_eq_true rfl, Nat.le_of_ble_eq_true rfl⟩ ⟨by show 0 + 0 ≤ mc; omega, by show 0 + 0 ≤ ms; omega⟩ hl.1 (Nat.le_of_ble_eq_true rfl) rfl dX7_snapshot_15 (fun E ce q H1 locs1 hx hS1 hc1 hc2 hc3 => hx.elim) (fun rv H locs hq hS => ?_)
    obtain ⟨r39, M40, ap41, rfl, h, hw⟩ := hq
    show W p l e _ s m _ below meth c H locs _ _ _ (F0 m 18 ls [.int r39])
    show W p l e _ s m _ below meth c H locs 0 0 _ _
    exact r_iret (y := yX7_snapshot) S hr rfl hlk hS (by omega) (by omega) dX7_snapshot_18 ⟨r39, _, _, rfl, h, hw⟩

-- X7.isSnapshot
theorem dX7_isSnapshot_0 : decode cX7_isSnapshot 0 = .ok (.aload_n 0, 1) := by decide +kernel
theorem dX7_isSnapshot_1 : decode cX7_isSnapshot 1 = .ok (.iload_n 1, 1) := by decide +kernel
theorem dX7_isSnapshot_2 : decode cX7_isSnapshot 2 = .ok (.invokevirtual 141, 3) := by decide +kernel
theorem dX7_isSnapshot_5 : decode cX7_isSnapshot 5 = .ok (.ifCond .eq 23, 3) := by decide +kernel
theorem dX7_isSnapshot_8 : decode cX7_isSnapshot 8 = .ok (.iload_n 2, 1) := by decide +kernel
theorem dX7_isSnapshot_9 : decode cX7_isSnapshot 9 = .ok (.iconst 0, 1) := by decide +kernel
theorem dX7_isSnapshot_10 : decode cX7_isSnapshot 10 = .ok (.aload_n 0, 1) := by decide +kernel
theorem dX7_isSnapshot_11 : decode cX7_isSnapshot 11 = .ok (.getfield 68, 3) := by decide +kernel
theorem dX7_isSnapshot_14 : decode cX7_isSnapshot 14 = .ok (.iload_n 1, 1) := by decide +kernel
theorem dX7_isSnapshot_15 : decode cX7_isSnapshot 15 = .ok (.iaload, 1) := by decide +kernel
theorem dX7_isSnapshot_16 : decode cX7_isSnapshot 16 = .ok (.iconst 1, 1) := by decide +kernel
theorem dX7_isSnapshot_17 : decode cX7_isSnapshot 17 = .ok (.isub, 1) := by decide +kernel
theorem dX7_isSnapshot_18 : decode cX7_isSnapshot 18 = .ok (.invokestatic 102, 3) := by decide +kernel
theorem dX7_isSnapshot_21 : decode cX7_isSnapshot 21 = .ok (.ifCond .eq 7, 3) := by decide +kernel
theorem dX7_isSnapshot_24 : decode cX7_isSnapshot 24 = .ok (.iconst 1, 1) := by decide +kernel
theorem dX7_isSnapshot_25 : decode cX7_isSnapshot 25 = .ok (.goto 4, 3) := by decide +kernel
theorem dX7_isSnapshot_28 : decode cX7_isSnapshot 28 = .ok (.iconst 0, 1) := by decide +kernel
theorem dX7_isSnapshot_29 : decode cX7_isSnapshot 29 = .ok (.ireturn, 1) := by decide +kernel
def wpX7_isSnapshot (post : Int32 → Prop) (M : KS) (ap : Int64) (p1 : Int32) (p2 : Int32) : Prop := (wpX7_isDuel (fun r1 => ((r1 = 0 → (post 0)) ∧ (¬ r1 = 0 → ((vp_in p1 8) ∧ ((wpX7_in (fun r4 => ((r4 = 0 → (post 0)) ∧ (¬ r4 = 0 → (post 1)))) M ap p2 0 ((M 16 26 p1.toNatClampNeg) - 1))))))) M ap p1)
theorem hdX7_isSnapshot : yX7_isSnapshot.cls ≠ "java/lang/invoke/MethodHandle" ∧ yX7_isSnapshot.cls ≠ "java/lang/invoke/VarHandle" ∧ (parseMethodDescriptor yX7_isSnapshot.desc).map (fun d => d.parameters.length) = some 2 := by decide +kernel
set_option maxHeartbeats 4000000 in
set_option maxRecDepth 100000 in
theorem mtX7_isSnapshot {l : Launch} {D : va_G} {cI : Nat → ClassId} {e0 : Nat} {A : Nat → Prop} {ad : Nat → Nat → Nat} {K M : KS} {ap o : Int64} {od : UInt64} {mc ms : Nat} {p1 : Int32} {p2 : Int32} {post : Int32 → Prop} (h : wpX7_isSnapshot post M ap p1 p2) : CM l D cI e0 A yX7_isSnapshot cX7_isSnapshot 3 (some FieldType.boolean) 2 43 mc ms [.ref (ad 3 0), .int p1, .int p2] (HT D cI e0 A ad K M ap o od) (qP D cI e0 A ad K M ap o od rI post) xN := by
  refine CM.of (by decide) (Nat.le_of_ble_eq_true rfl) (fun p e s m below meth c ls FX hw hS hl => ?_)
  obtain ⟨S, hg, hr, hlk, hnm, hout⟩ := FX
  have hl : lv_has ls 3 [(0, .ref (ad 3 0)), (1, .int p1), (2, .int p2)] := hl
  unfold wpX7_isSnapshot at h
  refine lv_aload_n S.1 S.2.1 dX7_isSnapshot_0 rfl (lv_at hl 0 rfl) ?_
  refine lv_iload_n S.1 S.2.1 dX7_isSnapshot_1 rfl (lv_at hl 1 rfl) ?_
  refine r_call (rest := []) S hg hS (mtX7_isDuel (mc := 0) (ms := 0) h) u1235 u1237 u32 u49 u1238 hdX7_isDuel (rv3 hg hw) hw ⟨Nat.le_of_ble_eq_true rfl, Nat.le_of_ble_eq_true rfl⟩ ⟨by show 0 + 0 ≤ mc; omega, by show 0 + 0 ≤ ms; omega⟩ hl.1 (Nat.le_of_ble_eq_true rfl) rfl dX7_isSnapshot_2 (fun E ce q H1 locs1 hx hS1 hc1 hc2 hc3 => hx.elim) (fun rv H locs hq hS => ?_)
  obtain ⟨r1, rfl, h, hw⟩ := hq
  show W p l e _ s m _ below meth c H locs _ _ _ (F0 m 5 ls [.int r1])
  show W p l e _ s m _ below meth c H locs 0 0 _ _
  refine lv_if_eq (tgt := 28) S.1 S.2.1 dX7_isSnapshot_5 (by decide) (fun c2 => ?_) (fun c2 => ?_)
  · have h := h.1 c2
    refine lv_iconst (v := 0) S.1 S.2.1 dX7_isSnapshot_28 (by decide) ?_
    exact r_iret (y := yX7_isSnapshot) S hr rfl hlk hS (by omega) (by omega) dX7_isSnapshot_29 ⟨0, rfl, h, hw⟩
  · have h := h.2 c2
    refine lv_iload_n S.1 S.2.1 dX7_isSnapshot_8 rfl (lv_at hl 2 rfl) ?_
    refine lv_iconst (v := 0) S.1 S.2.1 dX7_isSnapshot_9 (by decide) ?_
    refine lv_aload_n S.1 S.2.1 dX7_isSnapshot_10 rfl (lv_at hl 0 rfl) ?_
    refine g3_26 S hg hw u1070 dX7_isSnapshot_11 ?_
    refine lv_iload_n S.1 S.2.1 dX7_isSnapshot_14 rfl (lv_at hl 1 rfl) ?_
    obtain ⟨g3, h⟩ := h
    refine a16 S hg hw rfl g3 dX7_isSnapshot_15 ?_
    refine lv_iconst (v := 1) S.1 S.2.1 dX7_isSnapshot_16 (by decide) ?_
    refine lv_isub S.1 S.2.1 dX7_isSnapshot_17 ?_
    refine r_callS (rest := []) S hg hS (mtX7_in (mc := 0) (ms := 0) h) u1168 u1169 u49 u1170 hdX7_in hw ⟨Nat.le_of_ble_eq_true rfl, Nat.le_of_ble_eq_true rfl⟩ ⟨by show 0 + 0 ≤ mc; omega, by show 0 + 0 ≤ ms; omega⟩ hl.1 (Nat.le_of_ble_eq_true rfl) rfl dX7_isSnapshot_18 (fun E ce q H1 locs1 hx hS1 hc1 hc2 hc3 => hx.elim) (fun rv H locs hq hS => ?_)
    obtain ⟨r4, rfl, h, hw⟩ := hq
    show W p l e _ s m _ below meth c H locs _ _ _ (F0 m 21 ls [.int r4])
    show W p l e _ s m _ below meth c H locs 0 0 _ _
    refine lv_if_eq (tgt := 28) S.1 S.2.1 dX7_isSnapshot_21 (by decide) (fun c5 => ?_) (fun c5 => ?_)
    · have h := h.1 c5
      refine lv_iconst (v := 0) S.1 S.2.1 dX7_isSnapshot_28 (by decide) ?_
      exact r_iret (y := yX7_isSnapshot) S hr rfl hlk hS (by omega) (by omega) dX7_isSnapshot_29 ⟨0, rfl, h, hw⟩
    · have h := h.2 c5
      refine lv_iconst (v := 1) S.1 S.2.1 dX7_isSnapshot_24 (by decide) ?_
      refine lv_goto (tgt := 29) S.1 S.2.1 dX7_isSnapshot_25 (by decide) ?_
      exact r_iret (y := yX7_isSnapshot) S hr rfl hlk hS (by omega) (by omega) dX7_isSnapshot_29 ⟨1, rfl, h, hw⟩

-- X7.inSnapshot
theorem dX7_inSnapshot_0 : decode cX7_inSnapshot 0 = .ok (.aload_n 0, 1) := by decide +kernel
theorem dX7_inSnapshot_1 : decode cX7_inSnapshot 1 = .ok (.iconst 0, 1) := by decide +kernel
theorem dX7_inSnapshot_2 : decode cX7_inSnapshot 2 = .ok (.putfield 98, 3) := by decide +kernel
theorem dX7_inSnapshot_5 : decode cX7_inSnapshot 5 = .ok (.aload_n 0, 1) := by decide +kernel
theorem dX7_inSnapshot_6 : decode cX7_inSnapshot 6 = .ok (.iload_n 1, 1) := by decide +kernel
theorem dX7_inSnapshot_7 : decode cX7_inSnapshot 7 = .ok (.iload_n 2, 1) := by decide +kernel
theorem dX7_inSnapshot_8 : decode cX7_inSnapshot 8 = .ok (.invokevirtual 167, 3) := by decide +kernel
theorem dX7_inSnapshot_11 : decode cX7_inSnapshot 11 = .ok (.ifCond .eq 32, 3) := by decide +kernel
theorem dX7_inSnapshot_14 : decode cX7_inSnapshot 14 = .ok (.iload_n 3, 1) := by decide +kernel
theorem dX7_inSnapshot_15 : decode cX7_inSnapshot 15 = .ok (.iconst 0, 1) := by decide +kernel
theorem dX7_inSnapshot_16 : decode cX7_inSnapshot 16 = .ok (.bipush 23, 2) := by decide +kernel
theorem dX7_inSnapshot_18 : decode cX7_inSnapshot 18 = .ok (.invokestatic 102, 3) := by decide +kernel
theorem dX7_inSnapshot_21 : decode cX7_inSnapshot 21 = .ok (.ifCond .eq 22, 3) := by decide +kernel
theorem dX7_inSnapshot_24 : decode cX7_inSnapshot 24 = .ok (.aload_n 0, 1) := by decide +kernel
theorem dX7_inSnapshot_25 : decode cX7_inSnapshot 25 = .ok (.getfield 71, 3) := by decide +kernel
theorem dX7_inSnapshot_28 : decode cX7_inSnapshot 28 = .ok (.bipush 24, 2) := by decide +kernel
theorem dX7_inSnapshot_30 : decode cX7_inSnapshot 30 = .ok (.bipush 6, 2) := by decide +kernel
theorem dX7_inSnapshot_32 : decode cX7_inSnapshot 32 = .ok (.iload_n 1, 1) := by decide +kernel
theorem dX7_inSnapshot_33 : decode cX7_inSnapshot 33 = .ok (.imul, 1) := by decide +kernel
theorem dX7_inSnapshot_34 : decode cX7_inSnapshot 34 = .ok (.iload_n 2, 1) := by decide +kernel
theorem dX7_inSnapshot_35 : decode cX7_inSnapshot 35 = .ok (.iadd, 1) := by decide +kernel
theorem dX7_inSnapshot_36 : decode cX7_inSnapshot 36 = .ok (.imul, 1) := by decide +kernel
theorem dX7_inSnapshot_37 : decode cX7_inSnapshot 37 = .ok (.iload_n 3, 1) := by decide +kernel
theorem dX7_inSnapshot_38 : decode cX7_inSnapshot 38 = .ok (.iadd, 1) := by decide +kernel
theorem dX7_inSnapshot_39 : decode cX7_inSnapshot 39 = .ok (.iaload, 1) := by decide +kernel
theorem dX7_inSnapshot_40 : decode cX7_inSnapshot 40 = .ok (.goto 8, 3) := by decide +kernel
theorem dX7_inSnapshot_43 : decode cX7_inSnapshot 43 = .ok (.aload_n 0, 1) := by decide +kernel
theorem dX7_inSnapshot_44 : decode cX7_inSnapshot 44 = .ok (.iconst 1, 1) := by decide +kernel
theorem dX7_inSnapshot_45 : decode cX7_inSnapshot 45 = .ok (.invokevirtual 106, 3) := by decide +kernel
theorem dX7_inSnapshot_48 : decode cX7_inSnapshot 48 = .ok (.ireturn, 1) := by decide +kernel
def wpX7_inSnapshot (post : Int32 → KS → Int64 → Prop) (M : KS) (ap : Int64) (p1 : Int32) (p2 : Int32) (p3 : Int32) : Prop := (wpX7_isSnapshot (fun r1 => ((r1 = 0 → ((wpX7_fails (fun r3 M4 ap5 => post r3 M4 ap5) (k3 M 3 0 0 0) ap 1))) ∧ (¬ r1 = 0 → ((wpX7_in (fun r6 => ((r6 = 0 → ((wpX7_fails (fun r8 M9 ap10 => post r8 M9 ap10) (k3 M 3 0 0 0) ap 1))) ∧ (¬ r6 = 0 → ((vp_in ((24 * ((6 * p1) + p2)) + p3) 1152) ∧ (post ((k3 M 3 0 0 0) 16 27 (((24 * ((6 * p1) + p2)) + p3).toNatClampNeg)) (k3 M 3 0 0 0) ap))))) (k3 M 3 0 0 0) ap p3 0 23))))) (k3 M 3 0 0 0) ap p1 p2)
theorem hdX7_inSnapshot : yX7_inSnapshot.cls ≠ "java/lang/invoke/MethodHandle" ∧ yX7_inSnapshot.cls ≠ "java/lang/invoke/VarHandle" ∧ (parseMethodDescriptor yX7_inSnapshot.desc).map (fun d => d.parameters.length) = some 3 := by decide +kernel
set_option maxHeartbeats 4000000 in
set_option maxRecDepth 100000 in
theorem mtX7_inSnapshot {l : Launch} {D : va_G} {cI : Nat → ClassId} {e0 : Nat} {A : Nat → Prop} {ad : Nat → Nat → Nat} {K M : KS} {ap o : Int64} {od : UInt64} {mc ms : Nat} {p1 : Int32} {p2 : Int32} {p3 : Int32} {post : Int32 → KS → Int64 → Prop} (h : wpX7_inSnapshot post M ap p1 p2 p3) : CM l D cI e0 A yX7_inSnapshot cX7_inSnapshot 4 (some FieldType.int) 3 65 mc ms [.ref (ad 3 0), .int p1, .int p2, .int p3] (HT D cI e0 A ad K M ap o od) (qM D cI e0 A ad K o od rI post) xN := by
  refine CM.of (by decide) (Nat.le_of_ble_eq_true rfl) (fun p e s m below meth c ls FX hw hS hl => ?_)
  obtain ⟨S, hg, hr, hlk, hnm, hout⟩ := FX
  have hl : lv_has ls 4 [(0, .ref (ad 3 0)), (1, .int p1), (2, .int p2), (3, .int p3)] := hl
  unfold wpX7_inSnapshot at h
  refine lv_aload_n S.1 S.2.1 dX7_inSnapshot_0 rfl (lv_at hl 0 rfl) ?_
  refine lv_iconst (v := 0) S.1 S.2.1 dX7_inSnapshot_1 (by decide) ?_
  refine p3_0 S hg hS hw u1044 dX7_inSnapshot_2 (fun H locs hw hS => ?_)
  refine lv_aload_n S.1 S.2.1 dX7_inSnapshot_5 rfl (lv_at hl 0 rfl) ?_
  refine lv_iload_n S.1 S.2.1 dX7_inSnapshot_6 rfl (lv_at hl 1 rfl) ?_
  refine lv_iload_n S.1 S.2.1 dX7_inSnapshot_7 rfl (lv_at hl 2 rfl) ?_
  refine r_call (rest := []) S hg hS (mtX7_isSnapshot (mc := 0) (ms := 0) h) u1299 u1301 u37 u49 u1302 hdX7_isSnapshot (rv3 hg hw) hw ⟨Nat.le_of_ble_eq_true rfl, Nat.le_of_ble_eq_true rfl⟩ ⟨by show 0 + 0 ≤ mc; omega, by show 0 + 0 ≤ ms; omega⟩ hl.1 (Nat.le_of_ble_eq_true rfl) rfl dX7_inSnapshot_8 (fun E ce q H1 locs1 hx hS1 hc1 hc2 hc3 => hx.elim) (fun rv H locs hq hS => ?_)
  obtain ⟨r1, rfl, h, hw⟩ := hq
  show W p l e _ s m _ below meth c H locs _ _ _ (F0 m 11 ls [.int r1])
  show W p l e _ s m _ below meth c H locs 0 0 _ _
  refine lv_if_eq (tgt := 43) S.1 S.2.1 dX7_inSnapshot_11 (by decide) (fun c2 => ?_) (fun c2 => ?_)
  · have h := h.1 c2
    refine lv_aload_n S.1 S.2.1 dX7_inSnapshot_43 rfl (lv_at hl 0 rfl) ?_
    refine lv_iconst (v := 1) S.1 S.2.1 dX7_inSnapshot_44 (by decide) ?_
    refine r_call (rest := []) S hg hS (mtX7_fails (mc := 0) (ms := 0) h) u1171 u1173 u26 u49 u1174 hdX7_fails (rv3 hg hw) hw ⟨Nat.le_of_ble_eq_true rfl, Nat.le_of_ble_eq_true rfl⟩ ⟨by show 0 + 0 ≤ mc; omega, by show 0 + 0 ≤ ms; omega⟩ hl.1 (Nat.le_of_ble_eq_true rfl) rfl dX7_inSnapshot_45 (fun E ce q H1 locs1 hx hS1 hc1 hc2 hc3 => hx.elim) (fun rv H locs hq hS => ?_)
    obtain ⟨r3, M4, ap5, rfl, h, hw⟩ := hq
    show W p l e _ s m _ below meth c H locs _ _ _ (F0 m 48 ls [.int r3])
    show W p l e _ s m _ below meth c H locs 0 0 _ _
    exact r_iret (y := yX7_inSnapshot) S hr rfl hlk hS (by omega) (by omega) dX7_inSnapshot_48 ⟨r3, _, _, rfl, h, hw⟩
  · have h := h.2 c2
    refine lv_iload_n S.1 S.2.1 dX7_inSnapshot_14 rfl (lv_at hl 3 rfl) ?_
    refine lv_iconst (v := 0) S.1 S.2.1 dX7_inSnapshot_15 (by decide) ?_
    refine lv_bipush (v := 23) S.1 S.2.1 dX7_inSnapshot_16 (by decide) ?_
    refine r_callS (rest := []) S hg hS (mtX7_in (mc := 0) (ms := 0) h) u1168 u1169 u49 u1170 hdX7_in hw ⟨Nat.le_of_ble_eq_true rfl, Nat.le_of_ble_eq_true rfl⟩ ⟨by show 0 + 0 ≤ mc; omega, by show 0 + 0 ≤ ms; omega⟩ hl.1 (Nat.le_of_ble_eq_true rfl) rfl dX7_inSnapshot_18 (fun E ce q H1 locs1 hx hS1 hc1 hc2 hc3 => hx.elim) (fun rv H locs hq hS => ?_)
    obtain ⟨r6, rfl, h, hw⟩ := hq
    show W p l e _ s m _ below meth c H locs _ _ _ (F0 m 21 ls [.int r6])
    show W p l e _ s m _ below meth c H locs 0 0 _ _
    refine lv_if_eq (tgt := 43) S.1 S.2.1 dX7_inSnapshot_21 (by decide) (fun c7 => ?_) (fun c7 => ?_)
    · have h := h.1 c7
      refine lv_aload_n S.1 S.2.1 dX7_inSnapshot_43 rfl (lv_at hl 0 rfl) ?_
      refine lv_iconst (v := 1) S.1 S.2.1 dX7_inSnapshot_44 (by decide) ?_
      refine r_call (rest := []) S hg hS (mtX7_fails (mc := 0) (ms := 0) h) u1171 u1173 u26 u49 u1174 hdX7_fails (rv3 hg hw) hw ⟨Nat.le_of_ble_eq_true rfl, Nat.le_of_ble_eq_true rfl⟩ ⟨by show 0 + 0 ≤ mc; omega, by show 0 + 0 ≤ ms; omega⟩ hl.1 (Nat.le_of_ble_eq_true rfl) rfl dX7_inSnapshot_45 (fun E ce q H1 locs1 hx hS1 hc1 hc2 hc3 => hx.elim) (fun rv H locs hq hS => ?_)
      obtain ⟨r8, M9, ap10, rfl, h, hw⟩ := hq
      show W p l e _ s m _ below meth c H locs _ _ _ (F0 m 48 ls [.int r8])
      show W p l e _ s m _ below meth c H locs 0 0 _ _
      exact r_iret (y := yX7_inSnapshot) S hr rfl hlk hS (by omega) (by omega) dX7_inSnapshot_48 ⟨r8, _, _, rfl, h, hw⟩
    · have h := h.2 c7
      refine lv_aload_n S.1 S.2.1 dX7_inSnapshot_24 rfl (lv_at hl 0 rfl) ?_
      refine g3_27 S hg hw u1071 dX7_inSnapshot_25 ?_
      refine lv_bipush (v := 24) S.1 S.2.1 dX7_inSnapshot_28 (by decide) ?_
      refine lv_bipush (v := 6) S.1 S.2.1 dX7_inSnapshot_30 (by decide) ?_
      refine lv_iload_n S.1 S.2.1 dX7_inSnapshot_32 rfl (lv_at hl 1 rfl) ?_
      refine lv_imul S.1 S.2.1 dX7_inSnapshot_33 ?_
      refine lv_iload_n S.1 S.2.1 dX7_inSnapshot_34 rfl (lv_at hl 2 rfl) ?_
      refine lv_iadd S.1 S.2.1 dX7_inSnapshot_35 ?_
      refine lv_imul S.1 S.2.1 dX7_inSnapshot_36 ?_
      refine lv_iload_n S.1 S.2.1 dX7_inSnapshot_37 rfl (lv_at hl 3 rfl) ?_
      refine lv_iadd S.1 S.2.1 dX7_inSnapshot_38 ?_
      obtain ⟨g11, h⟩ := h
      refine a16 S hg hw rfl g11 dX7_inSnapshot_39 ?_
      refine lv_goto (tgt := 48) S.1 S.2.1 dX7_inSnapshot_40 (by decide) ?_
      exact r_iret (y := yX7_inSnapshot) S hr rfl hlk hS (by omega) (by omega) dX7_inSnapshot_48 ⟨((k3 M 3 0 0 0) 16 27 (((24 * ((6 * p1) + p2)) + p3).toNatClampNeg)), _, _, rfl, h, hw⟩

-- X7.isKept
theorem dX7_isKept_0 : decode cX7_isKept 0 = .ok (.iload_n 1, 1) := by decide +kernel
theorem dX7_isKept_1 : decode cX7_isKept 1 = .ok (.bipush 6, 2) := by decide +kernel
theorem dX7_isKept_3 : decode cX7_isKept 3 = .ok (.idiv, 1) := by decide +kernel
theorem dX7_isKept_4 : decode cX7_isKept 4 = .ok (.bipush 6, 2) := by decide +kernel
theorem dX7_isKept_6 : decode cX7_isKept 6 = .ok (.irem, 1) := by decide +kernel
theorem dX7_isKept_7 : decode cX7_isKept 7 = .ok (.aload_n 0, 1) := by decide +kernel
theorem dX7_isKept_8 : decode cX7_isKept 8 = .ok (.getfield 68, 3) := by decide +kernel
theorem dX7_isKept_11 : decode cX7_isKept 11 = .ok (.iload_n 1, 1) := by decide +kernel
theorem dX7_isKept_12 : decode cX7_isKept 12 = .ok (.bipush 36, 2) := by decide +kernel
theorem dX7_isKept_14 : decode cX7_isKept 14 = .ok (.idiv, 1) := by decide +kernel
theorem dX7_isKept_15 : decode cX7_isKept 15 = .ok (.iaload, 1) := by decide +kernel
theorem dX7_isKept_16 : decode cX7_isKept 16 = .ok (.if_icmp .ge 7, 3) := by decide +kernel
theorem dX7_isKept_19 : decode cX7_isKept 19 = .ok (.iconst 1, 1) := by decide +kernel
theorem dX7_isKept_20 : decode cX7_isKept 20 = .ok (.goto 4, 3) := by decide +kernel
theorem dX7_isKept_23 : decode cX7_isKept 23 = .ok (.iconst 0, 1) := by decide +kernel
theorem dX7_isKept_24 : decode cX7_isKept 24 = .ok (.ireturn, 1) := by decide +kernel
def wpX7_isKept (post : Int32 → Prop) (M : KS) (ap : Int64) (p1 : Int32) : Prop := (vp_in (p1 / 36) 8) ∧ ((((M 16 26 ((p1 / 36).toNatClampNeg)) ≤ ((p1 / 6) - (p1 / 6) / 6 * 6) → (post 0)) ∧ (¬ (M 16 26 ((p1 / 36).toNatClampNeg)) ≤ ((p1 / 6) - (p1 / 6) / 6 * 6) → (post 1))))
theorem hdX7_isKept : yX7_isKept.cls ≠ "java/lang/invoke/MethodHandle" ∧ yX7_isKept.cls ≠ "java/lang/invoke/VarHandle" ∧ (parseMethodDescriptor yX7_isKept.desc).map (fun d => d.parameters.length) = some 1 := by decide +kernel
set_option maxHeartbeats 4000000 in
set_option maxRecDepth 100000 in
theorem mtX7_isKept {l : Launch} {D : va_G} {cI : Nat → ClassId} {e0 : Nat} {A : Nat → Prop} {ad : Nat → Nat → Nat} {K M : KS} {ap o : Int64} {od : UInt64} {mc ms : Nat} {p1 : Int32} {post : Int32 → Prop} (h : wpX7_isKept post M ap p1) : CM l D cI e0 A yX7_isKept cX7_isKept 2 (some FieldType.boolean) 0 0 mc ms [.ref (ad 3 0), .int p1] (HT D cI e0 A ad K M ap o od) (qP D cI e0 A ad K M ap o od rI post) xN := by
  refine CM.of (by decide) (Nat.le_of_ble_eq_true rfl) (fun p e s m below meth c ls FX hw hS hl => ?_)
  obtain ⟨S, hg, hr, hlk, hnm, hout⟩ := FX
  have hl : lv_has ls 2 [(0, .ref (ad 3 0)), (1, .int p1)] := hl
  unfold wpX7_isKept at h
  refine lv_iload_n S.1 S.2.1 dX7_isKept_0 rfl (lv_at hl 1 rfl) ?_
  refine lv_bipush (v := 6) S.1 S.2.1 dX7_isKept_1 (by decide) ?_
  refine lv_idiv S.1 S.2.1 dX7_isKept_3 (by decide) ?_
  refine lv_bipush (v := 6) S.1 S.2.1 dX7_isKept_4 (by decide) ?_
  refine lv_irem S.1 S.2.1 dX7_isKept_6 (by decide) ?_
  refine lv_aload_n S.1 S.2.1 dX7_isKept_7 rfl (lv_at hl 0 rfl) ?_
  refine g3_26 S hg hw u1070 dX7_isKept_8 ?_
  refine lv_iload_n S.1 S.2.1 dX7_isKept_11 rfl (lv_at hl 1 rfl) ?_
  refine lv_bipush (v := 36) S.1 S.2.1 dX7_isKept_12 (by decide) ?_
  refine lv_idiv S.1 S.2.1 dX7_isKept_14 (by decide) ?_
  obtain ⟨g1, h⟩ := h
  refine a16 S hg hw rfl g1 dX7_isKept_15 ?_
  refine lv_icmp_ge (tgt := 23) S.1 S.2.1 dX7_isKept_16 (by decide) (fun c2 => ?_) (fun c2 => ?_)
  · have h := h.1 c2
    refine lv_iconst (v := 0) S.1 S.2.1 dX7_isKept_23 (by decide) ?_
    exact r_iret (y := yX7_isKept) S hr rfl hlk hS (by omega) (by omega) dX7_isKept_24 ⟨0, rfl, h, hw⟩
  · have h := h.2 c2
    refine lv_iconst (v := 1) S.1 S.2.1 dX7_isKept_19 (by decide) ?_
    refine lv_goto (tgt := 24) S.1 S.2.1 dX7_isKept_20 (by decide) ?_
    exact r_iret (y := yX7_isKept) S hr rfl hlk hS (by omega) (by omega) dX7_isKept_24 ⟨1, rfl, h, hw⟩

-- X7.blocks
theorem dX7_blocks_0 : decode cX7_blocks 0 = .ok (.aload_n 0, 1) := by decide +kernel
theorem dX7_blocks_1 : decode cX7_blocks 1 = .ok (.iconst 0, 1) := by decide +kernel
theorem dX7_blocks_2 : decode cX7_blocks 2 = .ok (.putfield 98, 3) := by decide +kernel
theorem dX7_blocks_5 : decode cX7_blocks 5 = .ok (.iconst 0, 1) := by decide +kernel
theorem dX7_blocks_6 : decode cX7_blocks 6 = .ok (.istore_n 1, 1) := by decide +kernel
theorem dX7_blocks_7 : decode cX7_blocks 7 = .ok (.iconst 0, 1) := by decide +kernel
theorem dX7_blocks_8 : decode cX7_blocks 8 = .ok (.istore_n 2, 1) := by decide +kernel
theorem dX7_blocks_9 : decode cX7_blocks 9 = .ok (.iload_n 2, 1) := by decide +kernel
theorem dX7_blocks_10 : decode cX7_blocks 10 = .ok (.sipush 288, 3) := by decide +kernel
theorem dX7_blocks_13 : decode cX7_blocks 13 = .ok (.if_icmp .ge 118, 3) := by decide +kernel
theorem dX7_blocks_16 : decode cX7_blocks 16 = .ok (.aload_n 0, 1) := by decide +kernel
theorem dX7_blocks_17 : decode cX7_blocks 17 = .ok (.iload_n 2, 1) := by decide +kernel
theorem dX7_blocks_18 : decode cX7_blocks 18 = .ok (.invokevirtual 170, 3) := by decide +kernel
theorem dX7_blocks_21 : decode cX7_blocks 21 = .ok (.istore_n 3, 1) := by decide +kernel
theorem dX7_blocks_22 : decode cX7_blocks 22 = .ok (.iconst 0, 1) := by decide +kernel
theorem dX7_blocks_23 : decode cX7_blocks 23 = .ok (.istore 4, 2) := by decide +kernel
theorem dX7_blocks_25 : decode cX7_blocks 25 = .ok (.iload 4, 2) := by decide +kernel
theorem dX7_blocks_27 : decode cX7_blocks 27 = .ok (.iload_n 2, 1) := by decide +kernel
theorem dX7_blocks_28 : decode cX7_blocks 28 = .ok (.if_icmp .ge 85, 3) := by decide +kernel
theorem dX7_blocks_31 : decode cX7_blocks 31 = .ok (.iload_n 3, 1) := by decide +kernel
theorem dX7_blocks_32 : decode cX7_blocks 32 = .ok (.ifCond .eq 81, 3) := by decide +kernel
theorem dX7_blocks_35 : decode cX7_blocks 35 = .ok (.aload_n 0, 1) := by decide +kernel
theorem dX7_blocks_36 : decode cX7_blocks 36 = .ok (.iload 4, 2) := by decide +kernel
theorem dX7_blocks_38 : decode cX7_blocks 38 = .ok (.invokevirtual 170, 3) := by decide +kernel
theorem dX7_blocks_41 : decode cX7_blocks 41 = .ok (.istore 5, 2) := by decide +kernel
theorem dX7_blocks_43 : decode cX7_blocks 43 = .ok (.iconst 0, 1) := by decide +kernel
theorem dX7_blocks_44 : decode cX7_blocks 44 = .ok (.istore 6, 2) := by decide +kernel
theorem dX7_blocks_46 : decode cX7_blocks 46 = .ok (.iload 6, 2) := by decide +kernel
theorem dX7_blocks_48 : decode cX7_blocks 48 = .ok (.iconst 4, 1) := by decide +kernel
theorem dX7_blocks_49 : decode cX7_blocks 49 = .ok (.if_icmp .ge 47, 3) := by decide +kernel
theorem dX7_blocks_52 : decode cX7_blocks 52 = .ok (.iload 5, 2) := by decide +kernel
theorem dX7_blocks_54 : decode cX7_blocks 54 = .ok (.ifCond .eq 33, 3) := by decide +kernel
theorem dX7_blocks_57 : decode cX7_blocks 57 = .ok (.aload_n 0, 1) := by decide +kernel
theorem dX7_blocks_58 : decode cX7_blocks 58 = .ok (.getfield 71, 3) := by decide +kernel
theorem dX7_blocks_61 : decode cX7_blocks 61 = .ok (.iconst 4, 1) := by decide +kernel
theorem dX7_blocks_62 : decode cX7_blocks 62 = .ok (.iload 4, 2) := by decide +kernel
theorem dX7_blocks_64 : decode cX7_blocks 64 = .ok (.imul, 1) := by decide +kernel
theorem dX7_blocks_65 : decode cX7_blocks 65 = .ok (.iload 6, 2) := by decide +kernel
theorem dX7_blocks_67 : decode cX7_blocks 67 = .ok (.iadd, 1) := by decide +kernel
theorem dX7_blocks_68 : decode cX7_blocks 68 = .ok (.iaload, 1) := by decide +kernel
theorem dX7_blocks_69 : decode cX7_blocks 69 = .ok (.aload_n 0, 1) := by decide +kernel
theorem dX7_blocks_70 : decode cX7_blocks 70 = .ok (.getfield 71, 3) := by decide +kernel
theorem dX7_blocks_73 : decode cX7_blocks 73 = .ok (.iconst 4, 1) := by decide +kernel
theorem dX7_blocks_74 : decode cX7_blocks 74 = .ok (.iload_n 2, 1) := by decide +kernel
theorem dX7_blocks_75 : decode cX7_blocks 75 = .ok (.imul, 1) := by decide +kernel
theorem dX7_blocks_76 : decode cX7_blocks 76 = .ok (.iload 6, 2) := by decide +kernel
theorem dX7_blocks_78 : decode cX7_blocks 78 = .ok (.iadd, 1) := by decide +kernel
theorem dX7_blocks_79 : decode cX7_blocks 79 = .ok (.iaload, 1) := by decide +kernel
theorem dX7_blocks_80 : decode cX7_blocks 80 = .ok (.if_icmp .ne 7, 3) := by decide +kernel
theorem dX7_blocks_83 : decode cX7_blocks 83 = .ok (.iconst 1, 1) := by decide +kernel
theorem dX7_blocks_84 : decode cX7_blocks 84 = .ok (.goto 4, 3) := by decide +kernel
theorem dX7_blocks_87 : decode cX7_blocks 87 = .ok (.iconst 0, 1) := by decide +kernel
theorem dX7_blocks_88 : decode cX7_blocks 88 = .ok (.istore 5, 2) := by decide +kernel
theorem dX7_blocks_90 : decode cX7_blocks 90 = .ok (.iinc 6 1, 3) := by decide +kernel
theorem dX7_blocks_93 : decode cX7_blocks 93 = .ok (.goto (-47), 3) := by decide +kernel
theorem dX7_blocks_96 : decode cX7_blocks 96 = .ok (.iload 5, 2) := by decide +kernel
theorem dX7_blocks_98 : decode cX7_blocks 98 = .ok (.ifCond .ne 7, 3) := by decide +kernel
theorem dX7_blocks_101 : decode cX7_blocks 101 = .ok (.iconst 1, 1) := by decide +kernel
theorem dX7_blocks_102 : decode cX7_blocks 102 = .ok (.goto 4, 3) := by decide +kernel
theorem dX7_blocks_105 : decode cX7_blocks 105 = .ok (.iconst 0, 1) := by decide +kernel
theorem dX7_blocks_106 : decode cX7_blocks 106 = .ok (.istore_n 3, 1) := by decide +kernel
theorem dX7_blocks_107 : decode cX7_blocks 107 = .ok (.iinc 4 1, 3) := by decide +kernel
theorem dX7_blocks_110 : decode cX7_blocks 110 = .ok (.goto (-85), 3) := by decide +kernel
theorem dX7_blocks_113 : decode cX7_blocks 113 = .ok (.iload_n 1, 1) := by decide +kernel
theorem dX7_blocks_114 : decode cX7_blocks 114 = .ok (.iload_n 3, 1) := by decide +kernel
theorem dX7_blocks_115 : decode cX7_blocks 115 = .ok (.ifCond .eq 7, 3) := by decide +kernel
theorem dX7_blocks_118 : decode cX7_blocks 118 = .ok (.iconst 1, 1) := by decide +kernel
theorem dX7_blocks_119 : decode cX7_blocks 119 = .ok (.goto 4, 3) := by decide +kernel
theorem dX7_blocks_122 : decode cX7_blocks 122 = .ok (.iconst 0, 1) := by decide +kernel
theorem dX7_blocks_123 : decode cX7_blocks 123 = .ok (.iadd, 1) := by decide +kernel
theorem dX7_blocks_124 : decode cX7_blocks 124 = .ok (.istore_n 1, 1) := by decide +kernel
theorem dX7_blocks_125 : decode cX7_blocks 125 = .ok (.iinc 2 1, 3) := by decide +kernel
theorem dX7_blocks_128 : decode cX7_blocks 128 = .ok (.goto (-119), 3) := by decide +kernel
theorem dX7_blocks_131 : decode cX7_blocks 131 = .ok (.iload_n 1, 1) := by decide +kernel
theorem dX7_blocks_132 : decode cX7_blocks 132 = .ok (.ireturn, 1) := by decide +kernel
def wX7_blocks_123 (post : Int32 → KS → Int64 → Prop) (bk9 : Int32 → Int32 → KS → Int64 → Prop) (l2 : Int32) (t0 : Int32) (t1 : Int32) (M : KS) (ap : Int64) : Prop := bk9 (t1 + t0) (l2 + 1) M ap
set_option maxHeartbeats 4000000 in
set_option maxRecDepth 100000 in
theorem bX7_blocks_123 {p : Program} {l : Launch} {e : Env} {s : State} {m : MethodId} {args : Array Value} {below : List Frame} {meth : Method} {c : Code} {D : va_G} {cI : Nat → ClassId} {e0 : Nat} {A : Nat → Prop} {ad : Nat → Nat → Nat} {K : KS} {o : Int64} {od : UInt64} {mc ms : Nat} {post : Int32 → KS → Int64 → Prop} {bk9 : Int32 → Int32 → KS → Int64 → Prop} (S : CallFix p m c cX7_blocks 7 s args WU RX7) (hg : GI D cI e0 A s s.heap) (hr : meth.sig.returnType = (some FieldType.int)) (hlk : meth.locks = false) (hout : ∀ x ∈ c.exceptionTable.toList, False) (hbk9 : ∀ {H : Heap} {locs : List Loc} {ls : Array Slot} {l1 : Int32} {l2 : Int32} {M : KS} {ap : Int64}, va_S A s.heap H locs → HT D cI e0 A ad K M ap o od H → lv_has ls 7 [(0, .ref (ad 3 0)), (1, .int l1), (2, .int l2)] → bk9 l1 l2 M ap → W p l e ({ frames := 1, cells := mc, slots := ms, locals := 21 } : Room) s m args below meth c H locs 0 0 (MQQ below (qM D cI e0 A ad K o od rI post) xN args s mc ms A) (F0 m 9 ls [])) {H : Heap} {locs : List Loc} {ls : Array Slot} {l2 : Int32} {t0 : Int32} {t1 : Int32} {M : KS} {ap : Int64} (hS : va_S A s.heap H locs) (hw : HT D cI e0 A ad K M ap o od H) (hl : lv_has ls 7 [(0, .ref (ad 3 0)), (2, .int l2)]) (h : wX7_blocks_123 post bk9 l2 t0 t1 M ap) : W p l e ({ frames := 1, cells := mc, slots := ms, locals := 21 } : Room) s m args below meth c H locs 0 0 (MQQ below (qM D cI e0 A ad K o od rI post) xN args s mc ms A) (F0 m 123 ls [.int t0, .int t1]) := by
  unfold wX7_blocks_123 at h
  refine lv_iadd S.1 S.2.1 dX7_blocks_123 ?_
  refine lv_istore_n (lv' := [(1, .int (t1 + t0)), (0, .ref (ad 3 0)), (2, .int l2)]) S.1 S.2.1 dX7_blocks_124 rfl hl (by decide) rfl (fun ls hl => ?_)
  refine lv_iinc (v := l2 + 1) (lv' := [(2, .int (l2 + 1)), (1, .int (t1 + t0)), (0, .ref (ad 3 0))]) S.1 S.2.1 dX7_blocks_125 hl (k := 2) rfl rfl (by decide) rfl (fun ls hl => ?_)
  refine lv_goto (tgt := 9) S.1 S.2.1 dX7_blocks_128 (by decide) ?_
  have hl := lv_sub hl (l' := [(0, .ref (ad 3 0)), (1, .int (t1 + t0)), (2, .int (l2 + 1))]) [2, 1, 0] rfl
  exact hbk9 hS hw hl h
def wX7_blocks_113 (post : Int32 → KS → Int64 → Prop) (bk9 : Int32 → Int32 → KS → Int64 → Prop) (l1 : Int32) (l2 : Int32) (l3 : Int32) (M : KS) (ap : Int64) : Prop := ((l3 = 0 → (wX7_blocks_123 post bk9 l2 0 l1 M ap)) ∧ (¬ l3 = 0 → (wX7_blocks_123 post bk9 l2 1 l1 M ap)))
set_option maxHeartbeats 4000000 in
set_option maxRecDepth 100000 in
theorem bX7_blocks_113 {p : Program} {l : Launch} {e : Env} {s : State} {m : MethodId} {args : Array Value} {below : List Frame} {meth : Method} {c : Code} {D : va_G} {cI : Nat → ClassId} {e0 : Nat} {A : Nat → Prop} {ad : Nat → Nat → Nat} {K : KS} {o : Int64} {od : UInt64} {mc ms : Nat} {post : Int32 → KS → Int64 → Prop} {bk9 : Int32 → Int32 → KS → Int64 → Prop} (S : CallFix p m c cX7_blocks 7 s args WU RX7) (hg : GI D cI e0 A s s.heap) (hr : meth.sig.returnType = (some FieldType.int)) (hlk : meth.locks = false) (hout : ∀ x ∈ c.exceptionTable.toList, False) (hbk9 : ∀ {H : Heap} {locs : List Loc} {ls : Array Slot} {l1 : Int32} {l2 : Int32} {M : KS} {ap : Int64}, va_S A s.heap H locs → HT D cI e0 A ad K M ap o od H → lv_has ls 7 [(0, .ref (ad 3 0)), (1, .int l1), (2, .int l2)] → bk9 l1 l2 M ap → W p l e ({ frames := 1, cells := mc, slots := ms, locals := 21 } : Room) s m args below meth c H locs 0 0 (MQQ below (qM D cI e0 A ad K o od rI post) xN args s mc ms A) (F0 m 9 ls [])) {H : Heap} {locs : List Loc} {ls : Array Slot} {l1 : Int32} {l2 : Int32} {l3 : Int32} {M : KS} {ap : Int64} (hS : va_S A s.heap H locs) (hw : HT D cI e0 A ad K M ap o od H) (hl : lv_has ls 7 [(0, .ref (ad 3 0)), (1, .int l1), (2, .int l2), (3, .int l3)]) (h : wX7_blocks_113 post bk9 l1 l2 l3 M ap) : W p l e ({ frames := 1, cells := mc, slots := ms, locals := 21 } : Room) s m args below meth c H locs 0 0 (MQQ below (qM D cI e0 A ad K o od rI post) xN args s mc ms A) (F0 m 113 ls []) := by
  unfold wX7_blocks_113 at h
  refine lv_iload_n S.1 S.2.1 dX7_blocks_113 rfl (lv_at hl 1 rfl) ?_
  refine lv_iload_n S.1 S.2.1 dX7_blocks_114 rfl (lv_at hl 3 rfl) ?_
  refine lv_if_eq (tgt := 122) S.1 S.2.1 dX7_blocks_115 (by decide) (fun c4 => ?_) (fun c4 => ?_)
  · have h := h.1 c4
    refine lv_iconst (v := 0) S.1 S.2.1 dX7_blocks_122 (by decide) ?_
    have hl := lv_sub hl (l' := [(0, .ref (ad 3 0)), (2, .int l2)]) [0, 2] rfl
    exact bX7_blocks_123 S hg hr hlk hout hbk9 hS hw hl h
  · have h := h.2 c4
    refine lv_iconst (v := 1) S.1 S.2.1 dX7_blocks_118 (by decide) ?_
    refine lv_goto (tgt := 123) S.1 S.2.1 dX7_blocks_119 (by decide) ?_
    have hl := lv_sub hl (l' := [(0, .ref (ad 3 0)), (2, .int l2)]) [0, 2] rfl
    exact bX7_blocks_123 S hg hr hlk hout hbk9 hS hw hl h
def wX7_blocks_106 (post : Int32 → KS → Int64 → Prop) (bk9 : Int32 → Int32 → KS → Int64 → Prop) (bk25 : Int32 → Int32 → Int32 → Int32 → KS → Int64 → Prop) (l1 : Int32) (l2 : Int32) (l4 : Int32) (t0 : Int32) (M : KS) (ap : Int64) : Prop := bk25 l1 l2 t0 (l4 + 1) M ap
set_option maxHeartbeats 4000000 in
set_option maxRecDepth 100000 in
theorem bX7_blocks_106 {p : Program} {l : Launch} {e : Env} {s : State} {m : MethodId} {args : Array Value} {below : List Frame} {meth : Method} {c : Code} {D : va_G} {cI : Nat → ClassId} {e0 : Nat} {A : Nat → Prop} {ad : Nat → Nat → Nat} {K : KS} {o : Int64} {od : UInt64} {mc ms : Nat} {post : Int32 → KS → Int64 → Prop} {bk9 : Int32 → Int32 → KS → Int64 → Prop} {bk25 : Int32 → Int32 → Int32 → Int32 → KS → Int64 → Prop} (S : CallFix p m c cX7_blocks 7 s args WU RX7) (hg : GI D cI e0 A s s.heap) (hr : meth.sig.returnType = (some FieldType.int)) (hlk : meth.locks = false) (hout : ∀ x ∈ c.exceptionTable.toList, False) (hbk9 : ∀ {H : Heap} {locs : List Loc} {ls : Array Slot} {l1 : Int32} {l2 : Int32} {M : KS} {ap : Int64}, va_S A s.heap H locs → HT D cI e0 A ad K M ap o od H → lv_has ls 7 [(0, .ref (ad 3 0)), (1, .int l1), (2, .int l2)] → bk9 l1 l2 M ap → W p l e ({ frames := 1, cells := mc, slots := ms, locals := 21 } : Room) s m args below meth c H locs 0 0 (MQQ below (qM D cI e0 A ad K o od rI post) xN args s mc ms A) (F0 m 9 ls [])) (hbk25 : ∀ {H : Heap} {locs : List Loc} {ls : Array Slot} {l1 : Int32} {l2 : Int32} {l3 : Int32} {l4 : Int32} {M : KS} {ap : Int64}, va_S A s.heap H locs → HT D cI e0 A ad K M ap o od H → lv_has ls 7 [(0, .ref (ad 3 0)), (1, .int l1), (2, .int l2), (3, .int l3), (4, .int l4)] → bk25 l1 l2 l3 l4 M ap → W p l e ({ frames := 1, cells := mc, slots := ms, locals := 21 } : Room) s m args below meth c H locs 0 0 (MQQ below (qM D cI e0 A ad K o od rI post) xN args s mc ms A) (F0 m 25 ls [])) {H : Heap} {locs : List Loc} {ls : Array Slot} {l1 : Int32} {l2 : Int32} {l4 : Int32} {t0 : Int32} {M : KS} {ap : Int64} (hS : va_S A s.heap H locs) (hw : HT D cI e0 A ad K M ap o od H) (hl : lv_has ls 7 [(0, .ref (ad 3 0)), (1, .int l1), (2, .int l2), (4, .int l4)]) (h : wX7_blocks_106 post bk9 bk25 l1 l2 l4 t0 M ap) : W p l e ({ frames := 1, cells := mc, slots := ms, locals := 21 } : Room) s m args below meth c H locs 0 0 (MQQ below (qM D cI e0 A ad K o od rI post) xN args s mc ms A) (F0 m 106 ls [.int t0]) := by
  unfold wX7_blocks_106 at h
  refine lv_istore_n (lv' := [(3, .int t0), (0, .ref (ad 3 0)), (1, .int l1), (2, .int l2), (4, .int l4)]) S.1 S.2.1 dX7_blocks_106 rfl hl (by decide) rfl (fun ls hl => ?_)
  refine lv_iinc (v := l4 + 1) (lv' := [(4, .int (l4 + 1)), (3, .int t0), (0, .ref (ad 3 0)), (1, .int l1), (2, .int l2)]) S.1 S.2.1 dX7_blocks_107 hl (k := 4) rfl rfl (by decide) rfl (fun ls hl => ?_)
  refine lv_goto (tgt := 25) S.1 S.2.1 dX7_blocks_110 (by decide) ?_
  have hl := lv_sub hl (l' := [(0, .ref (ad 3 0)), (1, .int l1), (2, .int l2), (3, .int t0), (4, .int (l4 + 1))]) [2, 3, 4, 1, 0] rfl
  exact hbk25 hS hw hl h
def wX7_blocks_88 (post : Int32 → KS → Int64 → Prop) (bk9 : Int32 → Int32 → KS → Int64 → Prop) (bk25 : Int32 → Int32 → Int32 → Int32 → KS → Int64 → Prop) (bk46 : Int32 → Int32 → Int32 → Int32 → Int32 → KS → Int64 → Prop) (l1 : Int32) (l2 : Int32) (l4 : Int32) (l6 : Int32) (t0 : Int32) (M : KS) (ap : Int64) : Prop := bk46 l1 l2 l4 t0 (l6 + 1) M ap
set_option maxHeartbeats 4000000 in
set_option maxRecDepth 100000 in
theorem bX7_blocks_88 {p : Program} {l : Launch} {e : Env} {s : State} {m : MethodId} {args : Array Value} {below : List Frame} {meth : Method} {c : Code} {D : va_G} {cI : Nat → ClassId} {e0 : Nat} {A : Nat → Prop} {ad : Nat → Nat → Nat} {K : KS} {o : Int64} {od : UInt64} {mc ms : Nat} {post : Int32 → KS → Int64 → Prop} {bk9 : Int32 → Int32 → KS → Int64 → Prop} {bk25 : Int32 → Int32 → Int32 → Int32 → KS → Int64 → Prop} {bk46 : Int32 → Int32 → Int32 → Int32 → Int32 → KS → Int64 → Prop} (S : CallFix p m c cX7_blocks 7 s args WU RX7) (hg : GI D cI e0 A s s.heap) (hr : meth.sig.returnType = (some FieldType.int)) (hlk : meth.locks = false) (hout : ∀ x ∈ c.exceptionTable.toList, False) (hbk9 : ∀ {H : Heap} {locs : List Loc} {ls : Array Slot} {l1 : Int32} {l2 : Int32} {M : KS} {ap : Int64}, va_S A s.heap H locs → HT D cI e0 A ad K M ap o od H → lv_has ls 7 [(0, .ref (ad 3 0)), (1, .int l1), (2, .int l2)] → bk9 l1 l2 M ap → W p l e ({ frames := 1, cells := mc, slots := ms, locals := 21 } : Room) s m args below meth c H locs 0 0 (MQQ below (qM D cI e0 A ad K o od rI post) xN args s mc ms A) (F0 m 9 ls [])) (hbk25 : ∀ {H : Heap} {locs : List Loc} {ls : Array Slot} {l1 : Int32} {l2 : Int32} {l3 : Int32} {l4 : Int32} {M : KS} {ap : Int64}, va_S A s.heap H locs → HT D cI e0 A ad K M ap o od H → lv_has ls 7 [(0, .ref (ad 3 0)), (1, .int l1), (2, .int l2), (3, .int l3), (4, .int l4)] → bk25 l1 l2 l3 l4 M ap → W p l e ({ frames := 1, cells := mc, slots := ms, locals := 21 } : Room) s m args below meth c H locs 0 0 (MQQ below (qM D cI e0 A ad K o od rI post) xN args s mc ms A) (F0 m 25 ls [])) (hbk46 : ∀ {H : Heap} {locs : List Loc} {ls : Array Slot} {l1 : Int32} {l2 : Int32} {l4 : Int32} {l5 : Int32} {l6 : Int32} {M : KS} {ap : Int64}, va_S A s.heap H locs → HT D cI e0 A ad K M ap o od H → lv_has ls 7 [(0, .ref (ad 3 0)), (1, .int l1), (2, .int l2), (4, .int l4), (5, .int l5), (6, .int l6)] → bk46 l1 l2 l4 l5 l6 M ap → W p l e ({ frames := 1, cells := mc, slots := ms, locals := 21 } : Room) s m args below meth c H locs 0 0 (MQQ below (qM D cI e0 A ad K o od rI post) xN args s mc ms A) (F0 m 46 ls [])) {H : Heap} {locs : List Loc} {ls : Array Slot} {l1 : Int32} {l2 : Int32} {l4 : Int32} {l6 : Int32} {t0 : Int32} {M : KS} {ap : Int64} (hS : va_S A s.heap H locs) (hw : HT D cI e0 A ad K M ap o od H) (hl : lv_has ls 7 [(0, .ref (ad 3 0)), (1, .int l1), (2, .int l2), (4, .int l4), (6, .int l6)]) (h : wX7_blocks_88 post bk9 bk25 bk46 l1 l2 l4 l6 t0 M ap) : W p l e ({ frames := 1, cells := mc, slots := ms, locals := 21 } : Room) s m args below meth c H locs 0 0 (MQQ below (qM D cI e0 A ad K o od rI post) xN args s mc ms A) (F0 m 88 ls [.int t0]) := by
  unfold wX7_blocks_88 at h
  refine lv_istore (lv' := [(5, .int t0), (0, .ref (ad 3 0)), (1, .int l1), (2, .int l2), (4, .int l4), (6, .int l6)]) S.1 S.2.1 dX7_blocks_88 hl (by decide) rfl (fun ls hl => ?_)
  refine lv_iinc (v := l6 + 1) (lv' := [(6, .int (l6 + 1)), (5, .int t0), (0, .ref (ad 3 0)), (1, .int l1), (2, .int l2), (4, .int l4)]) S.1 S.2.1 dX7_blocks_90 hl (k := 5) rfl rfl (by decide) rfl (fun ls hl => ?_)
  refine lv_goto (tgt := 46) S.1 S.2.1 dX7_blocks_93 (by decide) ?_
  have hl := lv_sub hl (l' := [(0, .ref (ad 3 0)), (1, .int l1), (2, .int l2), (4, .int l4), (5, .int t0), (6, .int (l6 + 1))]) [2, 3, 4, 5, 1, 0] rfl
  exact hbk46 hS hw hl h
def wX7_blocks_87 (post : Int32 → KS → Int64 → Prop) (bk9 : Int32 → Int32 → KS → Int64 → Prop) (bk25 : Int32 → Int32 → Int32 → Int32 → KS → Int64 → Prop) (bk46 : Int32 → Int32 → Int32 → Int32 → Int32 → KS → Int64 → Prop) (l1 : Int32) (l2 : Int32) (l4 : Int32) (l6 : Int32) (M : KS) (ap : Int64) : Prop := wX7_blocks_88 post bk9 bk25 bk46 l1 l2 l4 l6 0 M ap
set_option maxHeartbeats 4000000 in
set_option maxRecDepth 100000 in
theorem bX7_blocks_87 {p : Program} {l : Launch} {e : Env} {s : State} {m : MethodId} {args : Array Value} {below : List Frame} {meth : Method} {c : Code} {D : va_G} {cI : Nat → ClassId} {e0 : Nat} {A : Nat → Prop} {ad : Nat → Nat → Nat} {K : KS} {o : Int64} {od : UInt64} {mc ms : Nat} {post : Int32 → KS → Int64 → Prop} {bk9 : Int32 → Int32 → KS → Int64 → Prop} {bk25 : Int32 → Int32 → Int32 → Int32 → KS → Int64 → Prop} {bk46 : Int32 → Int32 → Int32 → Int32 → Int32 → KS → Int64 → Prop} (S : CallFix p m c cX7_blocks 7 s args WU RX7) (hg : GI D cI e0 A s s.heap) (hr : meth.sig.returnType = (some FieldType.int)) (hlk : meth.locks = false) (hout : ∀ x ∈ c.exceptionTable.toList, False) (hbk9 : ∀ {H : Heap} {locs : List Loc} {ls : Array Slot} {l1 : Int32} {l2 : Int32} {M : KS} {ap : Int64}, va_S A s.heap H locs → HT D cI e0 A ad K M ap o od H → lv_has ls 7 [(0, .ref (ad 3 0)), (1, .int l1), (2, .int l2)] → bk9 l1 l2 M ap → W p l e ({ frames := 1, cells := mc, slots := ms, locals := 21 } : Room) s m args below meth c H locs 0 0 (MQQ below (qM D cI e0 A ad K o od rI post) xN args s mc ms A) (F0 m 9 ls [])) (hbk25 : ∀ {H : Heap} {locs : List Loc} {ls : Array Slot} {l1 : Int32} {l2 : Int32} {l3 : Int32} {l4 : Int32} {M : KS} {ap : Int64}, va_S A s.heap H locs → HT D cI e0 A ad K M ap o od H → lv_has ls 7 [(0, .ref (ad 3 0)), (1, .int l1), (2, .int l2), (3, .int l3), (4, .int l4)] → bk25 l1 l2 l3 l4 M ap → W p l e ({ frames := 1, cells := mc, slots := ms, locals := 21 } : Room) s m args below meth c H locs 0 0 (MQQ below (qM D cI e0 A ad K o od rI post) xN args s mc ms A) (F0 m 25 ls [])) (hbk46 : ∀ {H : Heap} {locs : List Loc} {ls : Array Slot} {l1 : Int32} {l2 : Int32} {l4 : Int32} {l5 : Int32} {l6 : Int32} {M : KS} {ap : Int64}, va_S A s.heap H locs → HT D cI e0 A ad K M ap o od H → lv_has ls 7 [(0, .ref (ad 3 0)), (1, .int l1), (2, .int l2), (4, .int l4), (5, .int l5), (6, .int l6)] → bk46 l1 l2 l4 l5 l6 M ap → W p l e ({ frames := 1, cells := mc, slots := ms, locals := 21 } : Room) s m args below meth c H locs 0 0 (MQQ below (qM D cI e0 A ad K o od rI post) xN args s mc ms A) (F0 m 46 ls [])) {H : Heap} {locs : List Loc} {ls : Array Slot} {l1 : Int32} {l2 : Int32} {l4 : Int32} {l6 : Int32} {M : KS} {ap : Int64} (hS : va_S A s.heap H locs) (hw : HT D cI e0 A ad K M ap o od H) (hl : lv_has ls 7 [(0, .ref (ad 3 0)), (1, .int l1), (2, .int l2), (4, .int l4), (6, .int l6)]) (h : wX7_blocks_87 post bk9 bk25 bk46 l1 l2 l4 l6 M ap) : W p l e ({ frames := 1, cells := mc, slots := ms, locals := 21 } : Room) s m args below meth c H locs 0 0 (MQQ below (qM D cI e0 A ad K o od rI post) xN args s mc ms A) (F0 m 87 ls []) := by
  unfold wX7_blocks_87 at h
  refine lv_iconst (v := 0) S.1 S.2.1 dX7_blocks_87 (by decide) ?_
  have hl := lv_sub hl (l' := [(0, .ref (ad 3 0)), (1, .int l1), (2, .int l2), (4, .int l4), (6, .int l6)]) [0, 1, 2, 3, 4] rfl
  exact bX7_blocks_88 S hg hr hlk hout hbk9 hbk25 hbk46 hS hw hl h
def wX7_blocks_46 (post : Int32 → KS → Int64 → Prop) (bk9 : Int32 → Int32 → KS → Int64 → Prop) (bk25 : Int32 → Int32 → Int32 → Int32 → KS → Int64 → Prop) : Nat → Int32 → Int32 → Int32 → Int32 → Int32 → KS → Int64 → Prop
  | 0 => fun _ _ _ _ _ _ _ => False
  | n + 1 => fun l1 l2 l4 l5 l6 M ap => ((4 ≤ l6 → (((¬ l5 = 0 → (wX7_blocks_106 post bk9 bk25 l1 l2 l4 0 M ap)) ∧ (l5 = 0 → (wX7_blocks_106 post bk9 bk25 l1 l2 l4 1 M ap))))) ∧ (¬ 4 ≤ l6 → (((l5 = 0 → (wX7_blocks_87 post bk9 bk25 (wX7_blocks_46 post bk9 bk25 n) l1 l2 l4 l6 M ap)) ∧ (¬ l5 = 0 → ((vp_in ((4 * l4) + l6) 1152) ∧ ((vp_in ((4 * l2) + l6) 1152) ∧ (((¬ (M 16 27 (((4 * l4) + l6).toNatClampNeg)) = (M 16 27 (((4 * l2) + l6).toNatClampNeg)) → (wX7_blocks_87 post bk9 bk25 (wX7_blocks_46 post bk9 bk25 n) l1 l2 l4 l6 M ap)) ∧ ((M 16 27 (((4 * l4) + l6).toNatClampNeg)) = (M 16 27 (((4 * l2) + l6).toNatClampNeg)) → (wX7_blocks_88 post bk9 bk25 (wX7_blocks_46 post bk9 bk25 n) l1 l2 l4 l6 1 M ap)))))))))))
set_option maxHeartbeats 4000000 in
set_option maxRecDepth 100000 in
theorem bX7_blocks_46 {p : Program} {l : Launch} {e : Env} {s : State} {m : MethodId} {args : Array Value} {below : List Frame} {meth : Method} {c : Code} {D : va_G} {cI : Nat → ClassId} {e0 : Nat} {A : Nat → Prop} {ad : Nat → Nat → Nat} {K : KS} {o : Int64} {od : UInt64} {mc ms : Nat} {post : Int32 → KS → Int64 → Prop} {bk9 : Int32 → Int32 → KS → Int64 → Prop} {bk25 : Int32 → Int32 → Int32 → Int32 → KS → Int64 → Prop} (S : CallFix p m c cX7_blocks 7 s args WU RX7) (hg : GI D cI e0 A s s.heap) (hr : meth.sig.returnType = (some FieldType.int)) (hlk : meth.locks = false) (hout : ∀ x ∈ c.exceptionTable.toList, False) (hbk9 : ∀ {H : Heap} {locs : List Loc} {ls : Array Slot} {l1 : Int32} {l2 : Int32} {M : KS} {ap : Int64}, va_S A s.heap H locs → HT D cI e0 A ad K M ap o od H → lv_has ls 7 [(0, .ref (ad 3 0)), (1, .int l1), (2, .int l2)] → bk9 l1 l2 M ap → W p l e ({ frames := 1, cells := mc, slots := ms, locals := 21 } : Room) s m args below meth c H locs 0 0 (MQQ below (qM D cI e0 A ad K o od rI post) xN args s mc ms A) (F0 m 9 ls [])) (hbk25 : ∀ {H : Heap} {locs : List Loc} {ls : Array Slot} {l1 : Int32} {l2 : Int32} {l3 : Int32} {l4 : Int32} {M : KS} {ap : Int64}, va_S A s.heap H locs → HT D cI e0 A ad K M ap o od H → lv_has ls 7 [(0, .ref (ad 3 0)), (1, .int l1), (2, .int l2), (3, .int l3), (4, .int l4)] → bk25 l1 l2 l3 l4 M ap → W p l e ({ frames := 1, cells := mc, slots := ms, locals := 21 } : Room) s m args below meth c H locs 0 0 (MQQ below (qM D cI e0 A ad K o od rI post) xN args s mc ms A) (F0 m 25 ls [])) : ∀ n : Nat, ∀ {H : Heap} {locs : List Loc} {ls : Array Slot} {l1 : Int32} {l2 : Int32} {l4 : Int32} {l5 : Int32} {l6 : Int32} {M : KS} {ap : Int64}, va_S A s.heap H locs → HT D cI e0 A ad K M ap o od H → lv_has ls 7 [(0, .ref (ad 3 0)), (1, .int l1), (2, .int l2), (4, .int l4), (5, .int l5), (6, .int l6)] → wX7_blocks_46 post bk9 bk25 n l1 l2 l4 l5 l6 M ap → W p l e ({ frames := 1, cells := mc, slots := ms, locals := 21 } : Room) s m args below meth c H locs 0 0 (MQQ below (qM D cI e0 A ad K o od rI post) xN args s mc ms A) (F0 m 46 ls []) := by
  intro n
  induction n with
  | zero => intros; exact False.elim (by assumption)
  | succ n ih =>
    intro H locs ls l1 l2 l4 l5 l6 M ap hS hw hl h
    unfold wX7_blocks_46 at h
    refine lv_iload S.1 S.2.1 dX7_blocks_46 (lv_at hl 5 rfl) ?_
    refine lv_iconst (v := 4) S.1 S.2.1 dX7_blocks_48 (by decide) ?_
    refine lv_icmp_ge (tgt := 96) S.1 S.2.1 dX7_blocks_49 (by decide) (fun c7 => ?_) (fun c7 => ?_)
    · have h := h.1 c7
      refine lv_iload S.1 S.2.1 dX7_blocks_96 (lv_at hl 4 rfl) ?_
      refine lv_if_ne (tgt := 105) S.1 S.2.1 dX7_blocks_98 (by decide) (fun c8 => ?_) (fun c8 => ?_)
      · have h := h.1 c8
        refine lv_iconst (v := 0) S.1 S.2.1 dX7_blocks_105 (by decide) ?_
        have hl := lv_sub hl (l' := [(0, .ref (ad 3 0)), (1, .int l1), (2, .int l2), (4, .int l4)]) [0, 1, 2, 3] rfl
        exact bX7_blocks_106 S hg hr hlk hout hbk9 hbk25 hS hw hl h
      · have h := h.2 c8
        refine lv_iconst (v := 1) S.1 S.2.1 dX7_blocks_101 (by decide) ?_
        refine lv_goto (tgt := 106) S.1 S.2.1 dX7_blocks_102 (by decide) ?_
        have hl := lv_sub hl (l' := [(0, .ref (ad 3 0)), (1, .int l1), (2, .int l2), (4, .int l4)]) [0, 1, 2, 3] rfl
        exact bX7_blocks_106 S hg hr hlk hout hbk9 hbk25 hS hw hl h
    · have h := h.2 c7
      refine lv_iload S.1 S.2.1 dX7_blocks_52 (lv_at hl 4 rfl) ?_
      refine lv_if_eq (tgt := 87) S.1 S.2.1 dX7_blocks_54 (by decide) (fun c9 => ?_) (fun c9 => ?_)
      · have h := h.1 c9
        have hl := lv_sub hl (l' := [(0, .ref (ad 3 0)), (1, .int l1), (2, .int l2), (4, .int l4), (6, .int l6)]) [0, 1, 2, 3, 5] rfl
        exact bX7_blocks_87 S hg hr hlk hout hbk9 hbk25 ih hS hw hl h
      · have h := h.2 c9
        refine lv_aload_n S.1 S.2.1 dX7_blocks_57 rfl (lv_at hl 0 rfl) ?_
        refine g3_27 S hg hw u1071 dX7_blocks_58 ?_
        refine lv_iconst (v := 4) S.1 S.2.1 dX7_blocks_61 (by decide) ?_
        refine lv_iload S.1 S.2.1 dX7_blocks_62 (lv_at hl 3 rfl) ?_
        refine lv_imul S.1 S.2.1 dX7_blocks_64 ?_
        refine lv_iload S.1 S.2.1 dX7_blocks_65 (lv_at hl 5 rfl) ?_
        refine lv_iadd S.1 S.2.1 dX7_blocks_67 ?_
        obtain ⟨g10, h⟩ := h
        refine a16 S hg hw rfl g10 dX7_blocks_68 ?_
        refine lv_aload_n S.1 S.2.1 dX7_blocks_69 rfl (lv_at hl 0 rfl) ?_
        refine g3_27 S hg hw u1071 dX7_blocks_70 ?_
        refine lv_iconst (v := 4) S.1 S.2.1 dX7_blocks_73 (by decide) ?_
        refine lv_iload_n S.1 S.2.1 dX7_blocks_74 rfl (lv_at hl 2 rfl) ?_
        refine lv_imul S.1 S.2.1 dX7_blocks_75 ?_
        refine lv_iload S.1 S.2.1 dX7_blocks_76 (lv_at hl 5 rfl) ?_
        refine lv_iadd S.1 S.2.1 dX7_blocks_78 ?_
        obtain ⟨g11, h⟩ := h
        refine a16 S hg hw rfl g11 dX7_blocks_79 ?_
        refine lv_icmp_ne (tgt := 87) S.1 S.2.1 dX7_blocks_80 (by decide) (fun c12 => ?_) (fun c12 => ?_)
        · have h := h.1 c12
          have hl := lv_sub hl (l' := [(0, .ref (ad 3 0)), (1, .int l1), (2, .int l2), (4, .int l4), (6, .int l6)]) [0, 1, 2, 3, 5] rfl
          exact bX7_blocks_87 S hg hr hlk hout hbk9 hbk25 ih hS hw hl h
        · have h := h.2 c12
          refine lv_iconst (v := 1) S.1 S.2.1 dX7_blocks_83 (by decide) ?_
          refine lv_goto (tgt := 88) S.1 S.2.1 dX7_blocks_84 (by decide) ?_
          have hl := lv_sub hl (l' := [(0, .ref (ad 3 0)), (1, .int l1), (2, .int l2), (4, .int l4), (6, .int l6)]) [0, 1, 2, 3, 5] rfl
          exact bX7_blocks_88 S hg hr hlk hout hbk9 hbk25 ih hS hw hl h
def wX7_blocks_25 (post : Int32 → KS → Int64 → Prop) (bk9 : Int32 → Int32 → KS → Int64 → Prop) : Nat → Int32 → Int32 → Int32 → Int32 → KS → Int64 → Prop
  | 0 => fun _ _ _ _ _ _ => False
  | n + 1 => fun l1 l2 l3 l4 M ap => ((l2 ≤ l4 → (wX7_blocks_113 post bk9 l1 l2 l3 M ap)) ∧ (¬ l2 ≤ l4 → (((l3 = 0 → (wX7_blocks_113 post bk9 l1 l2 l3 M ap)) ∧ (¬ l3 = 0 → ((wpX7_isKept (fun r6 => ∃ n1 : Nat, wX7_blocks_46 post bk9 (wX7_blocks_25 post bk9 n) n1 l1 l2 l4 r6 0 M ap) M ap l4)))))))
set_option maxHeartbeats 4000000 in
set_option maxRecDepth 100000 in
theorem bX7_blocks_25 {p : Program} {l : Launch} {e : Env} {s : State} {m : MethodId} {args : Array Value} {below : List Frame} {meth : Method} {c : Code} {D : va_G} {cI : Nat → ClassId} {e0 : Nat} {A : Nat → Prop} {ad : Nat → Nat → Nat} {K : KS} {o : Int64} {od : UInt64} {mc ms : Nat} {post : Int32 → KS → Int64 → Prop} {bk9 : Int32 → Int32 → KS → Int64 → Prop} (S : CallFix p m c cX7_blocks 7 s args WU RX7) (hg : GI D cI e0 A s s.heap) (hr : meth.sig.returnType = (some FieldType.int)) (hlk : meth.locks = false) (hout : ∀ x ∈ c.exceptionTable.toList, False) (hbk9 : ∀ {H : Heap} {locs : List Loc} {ls : Array Slot} {l1 : Int32} {l2 : Int32} {M : KS} {ap : Int64}, va_S A s.heap H locs → HT D cI e0 A ad K M ap o od H → lv_has ls 7 [(0, .ref (ad 3 0)), (1, .int l1), (2, .int l2)] → bk9 l1 l2 M ap → W p l e ({ frames := 1, cells := mc, slots := ms, locals := 21 } : Room) s m args below meth c H locs 0 0 (MQQ below (qM D cI e0 A ad K o od rI post) xN args s mc ms A) (F0 m 9 ls [])) : ∀ n : Nat, ∀ {H : Heap} {locs : List Loc} {ls : Array Slot} {l1 : Int32} {l2 : Int32} {l3 : Int32} {l4 : Int32} {M : KS} {ap : Int64}, va_S A s.heap H locs → HT D cI e0 A ad K M ap o od H → lv_has ls 7 [(0, .ref (ad 3 0)), (1, .int l1), (2, .int l2), (3, .int l3), (4, .int l4)] → wX7_blocks_25 post bk9 n l1 l2 l3 l4 M ap → W p l e ({ frames := 1, cells := mc, slots := ms, locals := 21 } : Room) s m args below meth c H locs 0 0 (MQQ below (qM D cI e0 A ad K o od rI post) xN args s mc ms A) (F0 m 25 ls []) := by
  intro n
  induction n with
  | zero => intros; exact False.elim (by assumption)
  | succ n ih =>
    intro H locs ls l1 l2 l3 l4 M ap hS hw hl h
    unfold wX7_blocks_25 at h
    refine lv_iload S.1 S.2.1 dX7_blocks_25 (lv_at hl 4 rfl) ?_
    refine lv_iload_n S.1 S.2.1 dX7_blocks_27 rfl (lv_at hl 2 rfl) ?_
    refine lv_icmp_ge (tgt := 113) S.1 S.2.1 dX7_blocks_28 (by decide) (fun c3 => ?_) (fun c3 => ?_)
    · have h := h.1 c3
      have hl := lv_sub hl (l' := [(0, .ref (ad 3 0)), (1, .int l1), (2, .int l2), (3, .int l3)]) [0, 1, 2, 3] rfl
      exact bX7_blocks_113 S hg hr hlk hout hbk9 hS hw hl h
    · have h := h.2 c3
      refine lv_iload_n S.1 S.2.1 dX7_blocks_31 rfl (lv_at hl 3 rfl) ?_
      refine lv_if_eq (tgt := 113) S.1 S.2.1 dX7_blocks_32 (by decide) (fun c5 => ?_) (fun c5 => ?_)
      · have h := h.1 c5
        have hl := lv_sub hl (l' := [(0, .ref (ad 3 0)), (1, .int l1), (2, .int l2), (3, .int l3)]) [0, 1, 2, 3] rfl
        exact bX7_blocks_113 S hg hr hlk hout hbk9 hS hw hl h
      · have h := h.2 c5
        refine lv_aload_n S.1 S.2.1 dX7_blocks_35 rfl (lv_at hl 0 rfl) ?_
        refine lv_iload S.1 S.2.1 dX7_blocks_36 (lv_at hl 4 rfl) ?_
        refine r_call (rest := []) S hg hS (mtX7_isKept (mc := 0) (ms := 0) h) u1307 u1309 u38 u49 u1310 hdX7_isKept (rv3 hg hw) hw ⟨Nat.le_of_ble_eq_true rfl, Nat.le_of_ble_eq_true rfl⟩ ⟨by show 0 + 0 ≤ mc; omega, by show 0 + 0 ≤ ms; omega⟩ hl.1 (Nat.le_of_ble_eq_true rfl) rfl dX7_blocks_38 (fun E ce q H1 locs1 hx hS1 hc1 hc2 hc3 => hx.elim) (fun rv H locs hq hS => ?_)
        obtain ⟨r6, rfl, h, hw⟩ := hq
        show W p l e _ s m _ below meth c H locs _ _ _ (F0 m 41 ls [.int r6])
        show W p l e _ s m _ below meth c H locs 0 0 _ _
        refine lv_istore (lv' := [(5, .int r6), (0, .ref (ad 3 0)), (1, .int l1), (2, .int l2), (3, .int l3), (4, .int l4)]) S.1 S.2.1 dX7_blocks_41 hl (by decide) rfl (fun ls hl => ?_)
        refine lv_iconst (v := 0) S.1 S.2.1 dX7_blocks_43 (by decide) ?_
        refine lv_istore (lv' := [(6, .int 0), (5, .int r6), (0, .ref (ad 3 0)), (1, .int l1), (2, .int l2), (3, .int l3), (4, .int l4)]) S.1 S.2.1 dX7_blocks_44 hl (by decide) rfl (fun ls hl => ?_)
        have hl := lv_sub hl (l' := [(0, .ref (ad 3 0)), (1, .int l1), (2, .int l2), (4, .int l4), (5, .int r6), (6, .int 0)]) [2, 3, 4, 6, 1, 0] rfl
        obtain ⟨n1, h⟩ := h
        exact bX7_blocks_46 S hg hr hlk hout hbk9 ih n1 hS hw hl h
def wX7_blocks_9 (post : Int32 → KS → Int64 → Prop) : Nat → Int32 → Int32 → KS → Int64 → Prop
  | 0 => fun _ _ _ _ => False
  | n + 1 => fun l1 l2 M ap => ((288 ≤ l2 → (post l1 M ap)) ∧ (¬ 288 ≤ l2 → ((wpX7_isKept (fun r2 => ∃ n1 : Nat, wX7_blocks_25 post (wX7_blocks_9 post n) n1 l1 l2 r2 0 M ap) M ap l2))))
set_option maxHeartbeats 4000000 in
set_option maxRecDepth 100000 in
theorem bX7_blocks_9 {p : Program} {l : Launch} {e : Env} {s : State} {m : MethodId} {args : Array Value} {below : List Frame} {meth : Method} {c : Code} {D : va_G} {cI : Nat → ClassId} {e0 : Nat} {A : Nat → Prop} {ad : Nat → Nat → Nat} {K : KS} {o : Int64} {od : UInt64} {mc ms : Nat} {post : Int32 → KS → Int64 → Prop} (S : CallFix p m c cX7_blocks 7 s args WU RX7) (hg : GI D cI e0 A s s.heap) (hr : meth.sig.returnType = (some FieldType.int)) (hlk : meth.locks = false) (hout : ∀ x ∈ c.exceptionTable.toList, False) : ∀ n : Nat, ∀ {H : Heap} {locs : List Loc} {ls : Array Slot} {l1 : Int32} {l2 : Int32} {M : KS} {ap : Int64}, va_S A s.heap H locs → HT D cI e0 A ad K M ap o od H → lv_has ls 7 [(0, .ref (ad 3 0)), (1, .int l1), (2, .int l2)] → wX7_blocks_9 post n l1 l2 M ap → W p l e ({ frames := 1, cells := mc, slots := ms, locals := 21 } : Room) s m args below meth c H locs 0 0 (MQQ below (qM D cI e0 A ad K o od rI post) xN args s mc ms A) (F0 m 9 ls []) := by
  intro n
  induction n with
  | zero => intros; exact False.elim (by assumption)
  | succ n ih =>
    intro H locs ls l1 l2 M ap hS hw hl h
    unfold wX7_blocks_9 at h
    refine lv_iload_n S.1 S.2.1 dX7_blocks_9 rfl (lv_at hl 2 rfl) ?_
    refine lv_sipush (v := 288) S.1 S.2.1 dX7_blocks_10 (by decide) ?_
    refine lv_icmp_ge (tgt := 131) S.1 S.2.1 dX7_blocks_13 (by decide) (fun c1 => ?_) (fun c1 => ?_)
    · have h := h.1 c1
      refine lv_iload_n S.1 S.2.1 dX7_blocks_131 rfl (lv_at hl 1 rfl) ?_
      exact r_iret (y := yX7_blocks) S hr rfl hlk hS (by omega) (by omega) dX7_blocks_132 ⟨l1, _, _, rfl, h, hw⟩
    · have h := h.2 c1
      refine lv_aload_n S.1 S.2.1 dX7_blocks_16 rfl (lv_at hl 0 rfl) ?_
      refine lv_iload_n S.1 S.2.1 dX7_blocks_17 rfl (lv_at hl 2 rfl) ?_
      refine r_call (rest := []) S hg hS (mtX7_isKept (mc := 0) (ms := 0) h) u1307 u1309 u38 u49 u1310 hdX7_isKept (rv3 hg hw) hw ⟨Nat.le_of_ble_eq_true rfl, Nat.le_of_ble_eq_true rfl⟩ ⟨by show 0 + 0 ≤ mc; omega, by show 0 + 0 ≤ ms; omega⟩ hl.1 (Nat.le_of_ble_eq_true rfl) rfl dX7_blocks_18 (fun E ce q H1 locs1 hx hS1 hc1 hc2 hc3 => hx.elim) (fun rv H locs hq hS => ?_)
      obtain ⟨r2, rfl, h, hw⟩ := hq
      show W p l e _ s m _ below meth c H locs _ _ _ (F0 m 21 ls [.int r2])
      show W p l e _ s m _ below meth c H locs 0 0 _ _
      refine lv_istore_n (lv' := [(3, .int r2), (0, .ref (ad 3 0)), (1, .int l1), (2, .int l2)]) S.1 S.2.1 dX7_blocks_21 rfl hl (by decide) rfl (fun ls hl => ?_)
      refine lv_iconst (v := 0) S.1 S.2.1 dX7_blocks_22 (by decide) ?_
      refine lv_istore (lv' := [(4, .int 0), (3, .int r2), (0, .ref (ad 3 0)), (1, .int l1), (2, .int l2)]) S.1 S.2.1 dX7_blocks_23 hl (by decide) rfl (fun ls hl => ?_)
      have hl := lv_sub hl (l' := [(0, .ref (ad 3 0)), (1, .int l1), (2, .int l2), (3, .int r2), (4, .int 0)]) [2, 3, 4, 1, 0] rfl
      obtain ⟨n1, h⟩ := h
      exact bX7_blocks_25 S hg hr hlk hout ih n1 hS hw hl h
def wpX7_blocks (post : Int32 → KS → Int64 → Prop) (M : KS) (ap : Int64) : Prop := ∃ n1 : Nat, wX7_blocks_9 post n1 0 0 (k3 M 3 0 0 0) ap
theorem hdX7_blocks : yX7_blocks.cls ≠ "java/lang/invoke/MethodHandle" ∧ yX7_blocks.cls ≠ "java/lang/invoke/VarHandle" ∧ (parseMethodDescriptor yX7_blocks.desc).map (fun d => d.parameters.length) = some 0 := by decide +kernel
set_option maxHeartbeats 4000000 in
set_option maxRecDepth 100000 in
theorem mtX7_blocks {l : Launch} {D : va_G} {cI : Nat → ClassId} {e0 : Nat} {A : Nat → Prop} {ad : Nat → Nat → Nat} {K M : KS} {ap o : Int64} {od : UInt64} {mc ms : Nat} {post : Int32 → KS → Int64 → Prop} (h : wpX7_blocks post M ap) : CM l D cI e0 A yX7_blocks cX7_blocks 7 (some FieldType.int) 1 21 mc ms [.ref (ad 3 0)] (HT D cI e0 A ad K M ap o od) (qM D cI e0 A ad K o od rI post) xN := by
  refine CM.of (by decide) (Nat.le_of_ble_eq_true rfl) (fun p e s m below meth c ls FX hw hS hl => ?_)
  obtain ⟨S, hg, hr, hlk, hnm, hout⟩ := FX
  have hl : lv_has ls 7 [(0, .ref (ad 3 0))] := hl
  unfold wpX7_blocks at h
  refine lv_aload_n S.1 S.2.1 dX7_blocks_0 rfl (lv_at hl 0 rfl) ?_
  refine lv_iconst (v := 0) S.1 S.2.1 dX7_blocks_1 (by decide) ?_
  refine p3_0 S hg hS hw u1044 dX7_blocks_2 (fun H locs hw hS => ?_)
  refine lv_iconst (v := 0) S.1 S.2.1 dX7_blocks_5 (by decide) ?_
  refine lv_istore_n (lv' := [(1, .int 0), (0, .ref (ad 3 0))]) S.1 S.2.1 dX7_blocks_6 rfl hl (by decide) rfl (fun ls hl => ?_)
  refine lv_iconst (v := 0) S.1 S.2.1 dX7_blocks_7 (by decide) ?_
  refine lv_istore_n (lv' := [(2, .int 0), (1, .int 0), (0, .ref (ad 3 0))]) S.1 S.2.1 dX7_blocks_8 rfl hl (by decide) rfl (fun ls hl => ?_)
  have hl := lv_sub hl (l' := [(0, .ref (ad 3 0)), (1, .int 0), (2, .int 0)]) [2, 1, 0] rfl
  obtain ⟨n1, h⟩ := h
  exact bX7_blocks_9 S hg hr hlk hout n1 hS hw hl h

-- X7.undoes
theorem dX7_undoes_0 : decode cX7_undoes 0 = .ok (.iconst 0, 1) := by decide +kernel
theorem dX7_undoes_1 : decode cX7_undoes 1 = .ok (.istore_n 2, 1) := by decide +kernel
theorem dX7_undoes_2 : decode cX7_undoes 2 = .ok (.iconst (-1), 1) := by decide +kernel
theorem dX7_undoes_3 : decode cX7_undoes 3 = .ok (.istore_n 3, 1) := by decide +kernel
theorem dX7_undoes_4 : decode cX7_undoes 4 = .ok (.iconst (-1), 1) := by decide +kernel
theorem dX7_undoes_5 : decode cX7_undoes 5 = .ok (.istore_n 3, 1) := by decide +kernel
theorem dX7_undoes_6 : decode cX7_undoes 6 = .ok (.iconst 0, 1) := by decide +kernel
theorem dX7_undoes_7 : decode cX7_undoes 7 = .ok (.istore 4, 2) := by decide +kernel
theorem dX7_undoes_9 : decode cX7_undoes 9 = .ok (.iload 4, 2) := by decide +kernel
theorem dX7_undoes_11 : decode cX7_undoes 11 = .ok (.aload_n 0, 1) := by decide +kernel
theorem dX7_undoes_12 : decode cX7_undoes 12 = .ok (.getfield 154, 3) := by decide +kernel
theorem dX7_undoes_15 : decode cX7_undoes 15 = .ok (.if_icmp .ge 72, 3) := by decide +kernel
theorem dX7_undoes_18 : decode cX7_undoes 18 = .ok (.aload_n 0, 1) := by decide +kernel
theorem dX7_undoes_19 : decode cX7_undoes 19 = .ok (.getfield 83, 3) := by decide +kernel
theorem dX7_undoes_22 : decode cX7_undoes 22 = .ok (.iload 4, 2) := by decide +kernel
theorem dX7_undoes_24 : decode cX7_undoes 24 = .ok (.caload, 1) := by decide +kernel
theorem dX7_undoes_25 : decode cX7_undoes 25 = .ok (.bipush 98, 2) := by decide +kernel
theorem dX7_undoes_27 : decode cX7_undoes 27 = .ok (.if_icmp .ne 18, 3) := by decide +kernel
theorem dX7_undoes_30 : decode cX7_undoes 30 = .ok (.aload_n 0, 1) := by decide +kernel
theorem dX7_undoes_31 : decode cX7_undoes 31 = .ok (.getfield 92, 3) := by decide +kernel
theorem dX7_undoes_34 : decode cX7_undoes 34 = .ok (.iload 4, 2) := by decide +kernel
theorem dX7_undoes_36 : decode cX7_undoes 36 = .ok (.iaload, 1) := by decide +kernel
theorem dX7_undoes_37 : decode cX7_undoes 37 = .ok (.iload_n 1, 1) := by decide +kernel
theorem dX7_undoes_38 : decode cX7_undoes 38 = .ok (.if_icmp .ne 7, 3) := by decide +kernel
theorem dX7_undoes_41 : decode cX7_undoes 41 = .ok (.iconst 1, 1) := by decide +kernel
theorem dX7_undoes_42 : decode cX7_undoes 42 = .ok (.goto 4, 3) := by decide +kernel
theorem dX7_undoes_45 : decode cX7_undoes 45 = .ok (.iconst 0, 1) := by decide +kernel
theorem dX7_undoes_46 : decode cX7_undoes 46 = .ok (.istore 5, 2) := by decide +kernel
theorem dX7_undoes_48 : decode cX7_undoes 48 = .ok (.iload 5, 2) := by decide +kernel
theorem dX7_undoes_50 : decode cX7_undoes 50 = .ok (.ifCond .eq 29, 3) := by decide +kernel
theorem dX7_undoes_53 : decode cX7_undoes 53 = .ok (.iload_n 3, 1) := by decide +kernel
theorem dX7_undoes_54 : decode cX7_undoes 54 = .ok (.iconst (-1), 1) := by decide +kernel
theorem dX7_undoes_55 : decode cX7_undoes 55 = .ok (.if_icmp .eq 19, 3) := by decide +kernel
theorem dX7_undoes_58 : decode cX7_undoes 58 = .ok (.aload_n 0, 1) := by decide +kernel
theorem dX7_undoes_59 : decode cX7_undoes 59 = .ok (.getfield 95, 3) := by decide +kernel
theorem dX7_undoes_62 : decode cX7_undoes 62 = .ok (.iload 4, 2) := by decide +kernel
theorem dX7_undoes_64 : decode cX7_undoes 64 = .ok (.iaload, 1) := by decide +kernel
theorem dX7_undoes_65 : decode cX7_undoes 65 = .ok (.aload_n 0, 1) := by decide +kernel
theorem dX7_undoes_66 : decode cX7_undoes 66 = .ok (.getfield 95, 3) := by decide +kernel
theorem dX7_undoes_69 : decode cX7_undoes 69 = .ok (.iload_n 3, 1) := by decide +kernel
theorem dX7_undoes_70 : decode cX7_undoes 70 = .ok (.iaload, 1) := by decide +kernel
theorem dX7_undoes_71 : decode cX7_undoes 71 = .ok (.if_icmp .le 8, 3) := by decide +kernel
theorem dX7_undoes_74 : decode cX7_undoes 74 = .ok (.iload 4, 2) := by decide +kernel
theorem dX7_undoes_76 : decode cX7_undoes 76 = .ok (.goto 4, 3) := by decide +kernel
theorem dX7_undoes_79 : decode cX7_undoes 79 = .ok (.iload_n 3, 1) := by decide +kernel
theorem dX7_undoes_80 : decode cX7_undoes 80 = .ok (.istore_n 3, 1) := by decide +kernel
theorem dX7_undoes_81 : decode cX7_undoes 81 = .ok (.iinc 4 1, 3) := by decide +kernel
theorem dX7_undoes_84 : decode cX7_undoes 84 = .ok (.goto (-75), 3) := by decide +kernel
theorem dX7_undoes_87 : decode cX7_undoes 87 = .ok (.iload_n 3, 1) := by decide +kernel
theorem dX7_undoes_88 : decode cX7_undoes 88 = .ok (.iconst (-1), 1) := by decide +kernel
theorem dX7_undoes_89 : decode cX7_undoes 89 = .ok (.if_icmp .eq 72, 3) := by decide +kernel
theorem dX7_undoes_92 : decode cX7_undoes 92 = .ok (.aload_n 0, 1) := by decide +kernel
theorem dX7_undoes_93 : decode cX7_undoes 93 = .ok (.getfield 83, 3) := by decide +kernel
theorem dX7_undoes_96 : decode cX7_undoes 96 = .ok (.iload_n 3, 1) := by decide +kernel
theorem dX7_undoes_97 : decode cX7_undoes 97 = .ok (.bipush 103, 2) := by decide +kernel
theorem dX7_undoes_99 : decode cX7_undoes 99 = .ok (.castore, 1) := by decide +kernel
theorem dX7_undoes_100 : decode cX7_undoes 100 = .ok (.aload_n 0, 1) := by decide +kernel
theorem dX7_undoes_101 : decode cX7_undoes 101 = .ok (.dup, 1) := by decide +kernel
theorem dX7_undoes_102 : decode cX7_undoes 102 = .ok (.getfield 157, 3) := by decide +kernel
theorem dX7_undoes_105 : decode cX7_undoes 105 = .ok (.aload_n 0, 1) := by decide +kernel
theorem dX7_undoes_106 : decode cX7_undoes 106 = .ok (.getfield 80, 3) := by decide +kernel
theorem dX7_undoes_109 : decode cX7_undoes 109 = .ok (.iload_n 3, 1) := by decide +kernel
theorem dX7_undoes_110 : decode cX7_undoes 110 = .ok (.iaload, 1) := by decide +kernel
theorem dX7_undoes_111 : decode cX7_undoes 111 = .ok (.i2l, 1) := by decide +kernel
theorem dX7_undoes_112 : decode cX7_undoes 112 = .ok (.lsub, 1) := by decide +kernel
theorem dX7_undoes_113 : decode cX7_undoes 113 = .ok (.putfield 157, 3) := by decide +kernel
theorem dX7_undoes_116 : decode cX7_undoes 116 = .ok (.aload_n 0, 1) := by decide +kernel
theorem dX7_undoes_117 : decode cX7_undoes 117 = .ok (.getfield 7, 3) := by decide +kernel
theorem dX7_undoes_120 : decode cX7_undoes 120 = .ok (.aload_n 0, 1) := by decide +kernel
theorem dX7_undoes_121 : decode cX7_undoes 121 = .ok (.getfield 89, 3) := by decide +kernel
theorem dX7_undoes_124 : decode cX7_undoes 124 = .ok (.iload_n 3, 1) := by decide +kernel
theorem dX7_undoes_125 : decode cX7_undoes 125 = .ok (.iaload, 1) := by decide +kernel
theorem dX7_undoes_126 : decode cX7_undoes 126 = .ok (.dup2, 1) := by decide +kernel
theorem dX7_undoes_127 : decode cX7_undoes 127 = .ok (.iaload, 1) := by decide +kernel
theorem dX7_undoes_128 : decode cX7_undoes 128 = .ok (.aload_n 0, 1) := by decide +kernel
theorem dX7_undoes_129 : decode cX7_undoes 129 = .ok (.getfield 80, 3) := by decide +kernel
theorem dX7_undoes_132 : decode cX7_undoes 132 = .ok (.iload_n 3, 1) := by decide +kernel
theorem dX7_undoes_133 : decode cX7_undoes 133 = .ok (.iaload, 1) := by decide +kernel
theorem dX7_undoes_134 : decode cX7_undoes 134 = .ok (.iadd, 1) := by decide +kernel
theorem dX7_undoes_135 : decode cX7_undoes 135 = .ok (.iastore, 1) := by decide +kernel
theorem dX7_undoes_136 : decode cX7_undoes 136 = .ok (.aload_n 0, 1) := by decide +kernel
theorem dX7_undoes_137 : decode cX7_undoes 137 = .ok (.aload_n 0, 1) := by decide +kernel
theorem dX7_undoes_138 : decode cX7_undoes 138 = .ok (.getfield 77, 3) := by decide +kernel
theorem dX7_undoes_141 : decode cX7_undoes 141 = .ok (.iload_n 3, 1) := by decide +kernel
theorem dX7_undoes_142 : decode cX7_undoes 142 = .ok (.iaload, 1) := by decide +kernel
theorem dX7_undoes_143 : decode cX7_undoes 143 = .ok (.aload_n 0, 1) := by decide +kernel
theorem dX7_undoes_144 : decode cX7_undoes 144 = .ok (.getfield 89, 3) := by decide +kernel
theorem dX7_undoes_147 : decode cX7_undoes 147 = .ok (.iload_n 3, 1) := by decide +kernel
theorem dX7_undoes_148 : decode cX7_undoes 148 = .ok (.iaload, 1) := by decide +kernel
theorem dX7_undoes_149 : decode cX7_undoes 149 = .ok (.aload_n 0, 1) := by decide +kernel
theorem dX7_undoes_150 : decode cX7_undoes 150 = .ok (.getfield 86, 3) := by decide +kernel
theorem dX7_undoes_153 : decode cX7_undoes 153 = .ok (.iload_n 3, 1) := by decide +kernel
theorem dX7_undoes_154 : decode cX7_undoes 154 = .ok (.iaload, 1) := by decide +kernel
theorem dX7_undoes_155 : decode cX7_undoes 155 = .ok (.invokevirtual 123, 3) := by decide +kernel
theorem dX7_undoes_158 : decode cX7_undoes 158 = .ok (.iinc 2 1, 3) := by decide +kernel
theorem dX7_undoes_161 : decode cX7_undoes 161 = .ok (.iload_n 3, 1) := by decide +kernel
theorem dX7_undoes_162 : decode cX7_undoes 162 = .ok (.iconst (-1), 1) := by decide +kernel
theorem dX7_undoes_163 : decode cX7_undoes 163 = .ok (.if_icmp .ne (-159), 3) := by decide +kernel
theorem dX7_undoes_166 : decode cX7_undoes 166 = .ok (.iload_n 2, 1) := by decide +kernel
theorem dX7_undoes_167 : decode cX7_undoes 167 = .ok (.ireturn, 1) := by decide +kernel
def wX7_undoes_161 (post : Int32 → KS → Int64 → Prop) (bk4 : Int32 → Int32 → KS → Int64 → Prop) (l1 : Int32) (l2 : Int32) (l3 : Int32) (M : KS) (ap : Int64) : Prop := ((¬ l3 = (-1) → (bk4 l1 l2 M ap)) ∧ (l3 = (-1) → (post l2 M ap)))
set_option maxHeartbeats 4000000 in
set_option maxRecDepth 100000 in
theorem bX7_undoes_161 {p : Program} {l : Launch} {e : Env} {s : State} {m : MethodId} {args : Array Value} {below : List Frame} {meth : Method} {c : Code} {D : va_G} {cI : Nat → ClassId} {e0 : Nat} {A : Nat → Prop} {ad : Nat → Nat → Nat} {K : KS} {o : Int64} {od : UInt64} {mc ms : Nat} {post : Int32 → KS → Int64 → Prop} {bk4 : Int32 → Int32 → KS → Int64 → Prop} (S : CallFix p m c cX7_undoes 6 s args WU RX7) (hg : GI D cI e0 A s s.heap) (hr : meth.sig.returnType = (some FieldType.int)) (hlk : meth.locks = false) (hout : ∀ x ∈ c.exceptionTable.toList, False) (hbk4 : ∀ {H : Heap} {locs : List Loc} {ls : Array Slot} {l1 : Int32} {l2 : Int32} {M : KS} {ap : Int64}, va_S A s.heap H locs → HT D cI e0 A ad K M ap o od H → lv_has ls 6 [(0, .ref (ad 3 0)), (1, .int l1), (2, .int l2)] → bk4 l1 l2 M ap → W p l e ({ frames := 1, cells := mc, slots := ms, locals := 23 } : Room) s m args below meth c H locs 0 0 (MQQ below (qM D cI e0 A ad K o od rI post) xN args s mc ms A) (F0 m 4 ls [])) {H : Heap} {locs : List Loc} {ls : Array Slot} {l1 : Int32} {l2 : Int32} {l3 : Int32} {M : KS} {ap : Int64} (hS : va_S A s.heap H locs) (hw : HT D cI e0 A ad K M ap o od H) (hl : lv_has ls 6 [(0, .ref (ad 3 0)), (1, .int l1), (2, .int l2), (3, .int l3)]) (h : wX7_undoes_161 post bk4 l1 l2 l3 M ap) : W p l e ({ frames := 1, cells := mc, slots := ms, locals := 23 } : Room) s m args below meth c H locs 0 0 (MQQ below (qM D cI e0 A ad K o od rI post) xN args s mc ms A) (F0 m 161 ls []) := by
  unfold wX7_undoes_161 at h
  refine lv_iload_n S.1 S.2.1 dX7_undoes_161 rfl (lv_at hl 3 rfl) ?_
  refine lv_iconst (v := (-1)) S.1 S.2.1 dX7_undoes_162 (by decide) ?_
  refine lv_icmp_ne (tgt := 4) S.1 S.2.1 dX7_undoes_163 (by decide) (fun c3 => ?_) (fun c3 => ?_)
  · have h := h.1 c3
    have hl := lv_sub hl (l' := [(0, .ref (ad 3 0)), (1, .int l1), (2, .int l2)]) [0, 1, 2] rfl
    exact hbk4 hS hw hl h
  · have h := h.2 c3
    refine lv_iload_n S.1 S.2.1 dX7_undoes_166 rfl (lv_at hl 2 rfl) ?_
    exact r_iret (y := yX7_undoes) S hr rfl hlk hS (by omega) (by omega) dX7_undoes_167 ⟨l2, _, _, rfl, h, hw⟩
def wX7_undoes_80 (post : Int32 → KS → Int64 → Prop) (bk4 : Int32 → Int32 → KS → Int64 → Prop) (bk9 : Int32 → Int32 → Int32 → Int32 → KS → Int64 → Prop) (l1 : Int32) (l2 : Int32) (l4 : Int32) (t0 : Int32) (M : KS) (ap : Int64) : Prop := bk9 l1 l2 t0 (l4 + 1) M ap
set_option maxHeartbeats 4000000 in
set_option maxRecDepth 100000 in
theorem bX7_undoes_80 {p : Program} {l : Launch} {e : Env} {s : State} {m : MethodId} {args : Array Value} {below : List Frame} {meth : Method} {c : Code} {D : va_G} {cI : Nat → ClassId} {e0 : Nat} {A : Nat → Prop} {ad : Nat → Nat → Nat} {K : KS} {o : Int64} {od : UInt64} {mc ms : Nat} {post : Int32 → KS → Int64 → Prop} {bk4 : Int32 → Int32 → KS → Int64 → Prop} {bk9 : Int32 → Int32 → Int32 → Int32 → KS → Int64 → Prop} (S : CallFix p m c cX7_undoes 6 s args WU RX7) (hg : GI D cI e0 A s s.heap) (hr : meth.sig.returnType = (some FieldType.int)) (hlk : meth.locks = false) (hout : ∀ x ∈ c.exceptionTable.toList, False) (hbk4 : ∀ {H : Heap} {locs : List Loc} {ls : Array Slot} {l1 : Int32} {l2 : Int32} {M : KS} {ap : Int64}, va_S A s.heap H locs → HT D cI e0 A ad K M ap o od H → lv_has ls 6 [(0, .ref (ad 3 0)), (1, .int l1), (2, .int l2)] → bk4 l1 l2 M ap → W p l e ({ frames := 1, cells := mc, slots := ms, locals := 23 } : Room) s m args below meth c H locs 0 0 (MQQ below (qM D cI e0 A ad K o od rI post) xN args s mc ms A) (F0 m 4 ls [])) (hbk9 : ∀ {H : Heap} {locs : List Loc} {ls : Array Slot} {l1 : Int32} {l2 : Int32} {l3 : Int32} {l4 : Int32} {M : KS} {ap : Int64}, va_S A s.heap H locs → HT D cI e0 A ad K M ap o od H → lv_has ls 6 [(0, .ref (ad 3 0)), (1, .int l1), (2, .int l2), (3, .int l3), (4, .int l4)] → bk9 l1 l2 l3 l4 M ap → W p l e ({ frames := 1, cells := mc, slots := ms, locals := 23 } : Room) s m args below meth c H locs 0 0 (MQQ below (qM D cI e0 A ad K o od rI post) xN args s mc ms A) (F0 m 9 ls [])) {H : Heap} {locs : List Loc} {ls : Array Slot} {l1 : Int32} {l2 : Int32} {l4 : Int32} {t0 : Int32} {M : KS} {ap : Int64} (hS : va_S A s.heap H locs) (hw : HT D cI e0 A ad K M ap o od H) (hl : lv_has ls 6 [(0, .ref (ad 3 0)), (1, .int l1), (2, .int l2), (4, .int l4)]) (h : wX7_undoes_80 post bk4 bk9 l1 l2 l4 t0 M ap) : W p l e ({ frames := 1, cells := mc, slots := ms, locals := 23 } : Room) s m args below meth c H locs 0 0 (MQQ below (qM D cI e0 A ad K o od rI post) xN args s mc ms A) (F0 m 80 ls [.int t0]) := by
  unfold wX7_undoes_80 at h
  refine lv_istore_n (lv' := [(3, .int t0), (0, .ref (ad 3 0)), (1, .int l1), (2, .int l2), (4, .int l4)]) S.1 S.2.1 dX7_undoes_80 rfl hl (by decide) rfl (fun ls hl => ?_)
  refine lv_iinc (v := l4 + 1) (lv' := [(4, .int (l4 + 1)), (3, .int t0), (0, .ref (ad 3 0)), (1, .int l1), (2, .int l2)]) S.1 S.2.1 dX7_undoes_81 hl (k := 4) rfl rfl (by decide) rfl (fun ls hl => ?_)
  refine lv_goto (tgt := 9) S.1 S.2.1 dX7_undoes_84 (by decide) ?_
  have hl := lv_sub hl (l' := [(0, .ref (ad 3 0)), (1, .int l1), (2, .int l2), (3, .int t0), (4, .int (l4 + 1))]) [2, 3, 4, 1, 0] rfl
  exact hbk9 hS hw hl h
def wX7_undoes_79 (post : Int32 → KS → Int64 → Prop) (bk4 : Int32 → Int32 → KS → Int64 → Prop) (bk9 : Int32 → Int32 → Int32 → Int32 → KS → Int64 → Prop) (l1 : Int32) (l2 : Int32) (l3 : Int32) (l4 : Int32) (M : KS) (ap : Int64) : Prop := wX7_undoes_80 post bk4 bk9 l1 l2 l4 l3 M ap
set_option maxHeartbeats 4000000 in
set_option maxRecDepth 100000 in
theorem bX7_undoes_79 {p : Program} {l : Launch} {e : Env} {s : State} {m : MethodId} {args : Array Value} {below : List Frame} {meth : Method} {c : Code} {D : va_G} {cI : Nat → ClassId} {e0 : Nat} {A : Nat → Prop} {ad : Nat → Nat → Nat} {K : KS} {o : Int64} {od : UInt64} {mc ms : Nat} {post : Int32 → KS → Int64 → Prop} {bk4 : Int32 → Int32 → KS → Int64 → Prop} {bk9 : Int32 → Int32 → Int32 → Int32 → KS → Int64 → Prop} (S : CallFix p m c cX7_undoes 6 s args WU RX7) (hg : GI D cI e0 A s s.heap) (hr : meth.sig.returnType = (some FieldType.int)) (hlk : meth.locks = false) (hout : ∀ x ∈ c.exceptionTable.toList, False) (hbk4 : ∀ {H : Heap} {locs : List Loc} {ls : Array Slot} {l1 : Int32} {l2 : Int32} {M : KS} {ap : Int64}, va_S A s.heap H locs → HT D cI e0 A ad K M ap o od H → lv_has ls 6 [(0, .ref (ad 3 0)), (1, .int l1), (2, .int l2)] → bk4 l1 l2 M ap → W p l e ({ frames := 1, cells := mc, slots := ms, locals := 23 } : Room) s m args below meth c H locs 0 0 (MQQ below (qM D cI e0 A ad K o od rI post) xN args s mc ms A) (F0 m 4 ls [])) (hbk9 : ∀ {H : Heap} {locs : List Loc} {ls : Array Slot} {l1 : Int32} {l2 : Int32} {l3 : Int32} {l4 : Int32} {M : KS} {ap : Int64}, va_S A s.heap H locs → HT D cI e0 A ad K M ap o od H → lv_has ls 6 [(0, .ref (ad 3 0)), (1, .int l1), (2, .int l2), (3, .int l3), (4, .int l4)] → bk9 l1 l2 l3 l4 M ap → W p l e ({ frames := 1, cells := mc, slots := ms, locals := 23 } : Room) s m args below meth c H locs 0 0 (MQQ below (qM D cI e0 A ad K o od rI post) xN args s mc ms A) (F0 m 9 ls [])) {H : Heap} {locs : List Loc} {ls : Array Slot} {l1 : Int32} {l2 : Int32} {l3 : Int32} {l4 : Int32} {M : KS} {ap : Int64} (hS : va_S A s.heap H locs) (hw : HT D cI e0 A ad K M ap o od H) (hl : lv_has ls 6 [(0, .ref (ad 3 0)), (1, .int l1), (2, .int l2), (3, .int l3), (4, .int l4)]) (h : wX7_undoes_79 post bk4 bk9 l1 l2 l3 l4 M ap) : W p l e ({ frames := 1, cells := mc, slots := ms, locals := 23 } : Room) s m args below meth c H locs 0 0 (MQQ below (qM D cI e0 A ad K o od rI post) xN args s mc ms A) (F0 m 79 ls []) := by
  unfold wX7_undoes_79 at h
  refine lv_iload_n S.1 S.2.1 dX7_undoes_79 rfl (lv_at hl 3 rfl) ?_
  have hl := lv_sub hl (l' := [(0, .ref (ad 3 0)), (1, .int l1), (2, .int l2), (4, .int l4)]) [0, 1, 2, 4] rfl
  exact bX7_undoes_80 S hg hr hlk hout hbk4 hbk9 hS hw hl h
def wX7_undoes_74 (post : Int32 → KS → Int64 → Prop) (bk4 : Int32 → Int32 → KS → Int64 → Prop) (bk9 : Int32 → Int32 → Int32 → Int32 → KS → Int64 → Prop) (l1 : Int32) (l2 : Int32) (l4 : Int32) (M : KS) (ap : Int64) : Prop := wX7_undoes_80 post bk4 bk9 l1 l2 l4 l4 M ap
set_option maxHeartbeats 4000000 in
set_option maxRecDepth 100000 in
theorem bX7_undoes_74 {p : Program} {l : Launch} {e : Env} {s : State} {m : MethodId} {args : Array Value} {below : List Frame} {meth : Method} {c : Code} {D : va_G} {cI : Nat → ClassId} {e0 : Nat} {A : Nat → Prop} {ad : Nat → Nat → Nat} {K : KS} {o : Int64} {od : UInt64} {mc ms : Nat} {post : Int32 → KS → Int64 → Prop} {bk4 : Int32 → Int32 → KS → Int64 → Prop} {bk9 : Int32 → Int32 → Int32 → Int32 → KS → Int64 → Prop} (S : CallFix p m c cX7_undoes 6 s args WU RX7) (hg : GI D cI e0 A s s.heap) (hr : meth.sig.returnType = (some FieldType.int)) (hlk : meth.locks = false) (hout : ∀ x ∈ c.exceptionTable.toList, False) (hbk4 : ∀ {H : Heap} {locs : List Loc} {ls : Array Slot} {l1 : Int32} {l2 : Int32} {M : KS} {ap : Int64}, va_S A s.heap H locs → HT D cI e0 A ad K M ap o od H → lv_has ls 6 [(0, .ref (ad 3 0)), (1, .int l1), (2, .int l2)] → bk4 l1 l2 M ap → W p l e ({ frames := 1, cells := mc, slots := ms, locals := 23 } : Room) s m args below meth c H locs 0 0 (MQQ below (qM D cI e0 A ad K o od rI post) xN args s mc ms A) (F0 m 4 ls [])) (hbk9 : ∀ {H : Heap} {locs : List Loc} {ls : Array Slot} {l1 : Int32} {l2 : Int32} {l3 : Int32} {l4 : Int32} {M : KS} {ap : Int64}, va_S A s.heap H locs → HT D cI e0 A ad K M ap o od H → lv_has ls 6 [(0, .ref (ad 3 0)), (1, .int l1), (2, .int l2), (3, .int l3), (4, .int l4)] → bk9 l1 l2 l3 l4 M ap → W p l e ({ frames := 1, cells := mc, slots := ms, locals := 23 } : Room) s m args below meth c H locs 0 0 (MQQ below (qM D cI e0 A ad K o od rI post) xN args s mc ms A) (F0 m 9 ls [])) {H : Heap} {locs : List Loc} {ls : Array Slot} {l1 : Int32} {l2 : Int32} {l4 : Int32} {M : KS} {ap : Int64} (hS : va_S A s.heap H locs) (hw : HT D cI e0 A ad K M ap o od H) (hl : lv_has ls 6 [(0, .ref (ad 3 0)), (1, .int l1), (2, .int l2), (4, .int l4)]) (h : wX7_undoes_74 post bk4 bk9 l1 l2 l4 M ap) : W p l e ({ frames := 1, cells := mc, slots := ms, locals := 23 } : Room) s m args below meth c H locs 0 0 (MQQ below (qM D cI e0 A ad K o od rI post) xN args s mc ms A) (F0 m 74 ls []) := by
  unfold wX7_undoes_74 at h
  refine lv_iload S.1 S.2.1 dX7_undoes_74 (lv_at hl 3 rfl) ?_
  refine lv_goto (tgt := 80) S.1 S.2.1 dX7_undoes_76 (by decide) ?_
  have hl := lv_sub hl (l' := [(0, .ref (ad 3 0)), (1, .int l1), (2, .int l2), (4, .int l4)]) [0, 1, 2, 3] rfl
  exact bX7_undoes_80 S hg hr hlk hout hbk4 hbk9 hS hw hl h
def wX7_undoes_46 (post : Int32 → KS → Int64 → Prop) (bk4 : Int32 → Int32 → KS → Int64 → Prop) (bk9 : Int32 → Int32 → Int32 → Int32 → KS → Int64 → Prop) (l1 : Int32) (l2 : Int32) (l3 : Int32) (l4 : Int32) (t0 : Int32) (M : KS) (ap : Int64) : Prop := ((t0 = 0 → (wX7_undoes_79 post bk4 bk9 l1 l2 l3 l4 M ap)) ∧ (¬ t0 = 0 → (((l3 = (-1) → (wX7_undoes_74 post bk4 bk9 l1 l2 l4 M ap)) ∧ (¬ l3 = (-1) → ((vp_in l4 60) ∧ ((vp_in l3 60) ∧ ((((M 16 36 l4.toNatClampNeg) ≤ (M 16 36 l3.toNatClampNeg) → (wX7_undoes_79 post bk4 bk9 l1 l2 l3 l4 M ap)) ∧ (¬ (M 16 36 l4.toNatClampNeg) ≤ (M 16 36 l3.toNatClampNeg) → (wX7_undoes_74 post bk4 bk9 l1 l2 l4 M ap)))))))))))
set_option maxHeartbeats 4000000 in
set_option maxRecDepth 100000 in
theorem bX7_undoes_46 {p : Program} {l : Launch} {e : Env} {s : State} {m : MethodId} {args : Array Value} {below : List Frame} {meth : Method} {c : Code} {D : va_G} {cI : Nat → ClassId} {e0 : Nat} {A : Nat → Prop} {ad : Nat → Nat → Nat} {K : KS} {o : Int64} {od : UInt64} {mc ms : Nat} {post : Int32 → KS → Int64 → Prop} {bk4 : Int32 → Int32 → KS → Int64 → Prop} {bk9 : Int32 → Int32 → Int32 → Int32 → KS → Int64 → Prop} (S : CallFix p m c cX7_undoes 6 s args WU RX7) (hg : GI D cI e0 A s s.heap) (hr : meth.sig.returnType = (some FieldType.int)) (hlk : meth.locks = false) (hout : ∀ x ∈ c.exceptionTable.toList, False) (hbk4 : ∀ {H : Heap} {locs : List Loc} {ls : Array Slot} {l1 : Int32} {l2 : Int32} {M : KS} {ap : Int64}, va_S A s.heap H locs → HT D cI e0 A ad K M ap o od H → lv_has ls 6 [(0, .ref (ad 3 0)), (1, .int l1), (2, .int l2)] → bk4 l1 l2 M ap → W p l e ({ frames := 1, cells := mc, slots := ms, locals := 23 } : Room) s m args below meth c H locs 0 0 (MQQ below (qM D cI e0 A ad K o od rI post) xN args s mc ms A) (F0 m 4 ls [])) (hbk9 : ∀ {H : Heap} {locs : List Loc} {ls : Array Slot} {l1 : Int32} {l2 : Int32} {l3 : Int32} {l4 : Int32} {M : KS} {ap : Int64}, va_S A s.heap H locs → HT D cI e0 A ad K M ap o od H → lv_has ls 6 [(0, .ref (ad 3 0)), (1, .int l1), (2, .int l2), (3, .int l3), (4, .int l4)] → bk9 l1 l2 l3 l4 M ap → W p l e ({ frames := 1, cells := mc, slots := ms, locals := 23 } : Room) s m args below meth c H locs 0 0 (MQQ below (qM D cI e0 A ad K o od rI post) xN args s mc ms A) (F0 m 9 ls [])) {H : Heap} {locs : List Loc} {ls : Array Slot} {l1 : Int32} {l2 : Int32} {l3 : Int32} {l4 : Int32} {t0 : Int32} {M : KS} {ap : Int64} (hS : va_S A s.heap H locs) (hw : HT D cI e0 A ad K M ap o od H) (hl : lv_has ls 6 [(0, .ref (ad 3 0)), (1, .int l1), (2, .int l2), (3, .int l3), (4, .int l4)]) (h : wX7_undoes_46 post bk4 bk9 l1 l2 l3 l4 t0 M ap) : W p l e ({ frames := 1, cells := mc, slots := ms, locals := 23 } : Room) s m args below meth c H locs 0 0 (MQQ below (qM D cI e0 A ad K o od rI post) xN args s mc ms A) (F0 m 46 ls [.int t0]) := by
  unfold wX7_undoes_46 at h
  refine lv_istore (lv' := [(5, .int t0), (0, .ref (ad 3 0)), (1, .int l1), (2, .int l2), (3, .int l3), (4, .int l4)]) S.1 S.2.1 dX7_undoes_46 hl (by decide) rfl (fun ls hl => ?_)
  refine lv_iload S.1 S.2.1 dX7_undoes_48 (lv_at hl 0 rfl) ?_
  refine lv_if_eq (tgt := 79) S.1 S.2.1 dX7_undoes_50 (by decide) (fun c14 => ?_) (fun c14 => ?_)
  · have h := h.1 c14
    have hl := lv_sub hl (l' := [(0, .ref (ad 3 0)), (1, .int l1), (2, .int l2), (3, .int l3), (4, .int l4)]) [1, 2, 3, 4, 5] rfl
    exact bX7_undoes_79 S hg hr hlk hout hbk4 hbk9 hS hw hl h
  · have h := h.2 c14
    refine lv_iload_n S.1 S.2.1 dX7_undoes_53 rfl (lv_at hl 4 rfl) ?_
    refine lv_iconst (v := (-1)) S.1 S.2.1 dX7_undoes_54 (by decide) ?_
    refine lv_icmp_eq (tgt := 74) S.1 S.2.1 dX7_undoes_55 (by decide) (fun c15 => ?_) (fun c15 => ?_)
    · have h := h.1 c15
      have hl := lv_sub hl (l' := [(0, .ref (ad 3 0)), (1, .int l1), (2, .int l2), (4, .int l4)]) [1, 2, 3, 5] rfl
      exact bX7_undoes_74 S hg hr hlk hout hbk4 hbk9 hS hw hl h
    · have h := h.2 c15
      refine lv_aload_n S.1 S.2.1 dX7_undoes_58 rfl (lv_at hl 1 rfl) ?_
      refine g3_36 S hg hw u1080 dX7_undoes_59 ?_
      refine lv_iload S.1 S.2.1 dX7_undoes_62 (lv_at hl 5 rfl) ?_
      obtain ⟨g16, h⟩ := h
      refine a16 S hg hw rfl g16 dX7_undoes_64 ?_
      refine lv_aload_n S.1 S.2.1 dX7_undoes_65 rfl (lv_at hl 1 rfl) ?_
      refine g3_36 S hg hw u1080 dX7_undoes_66 ?_
      refine lv_iload_n S.1 S.2.1 dX7_undoes_69 rfl (lv_at hl 4 rfl) ?_
      obtain ⟨g17, h⟩ := h
      refine a16 S hg hw rfl g17 dX7_undoes_70 ?_
      refine lv_icmp_le (tgt := 79) S.1 S.2.1 dX7_undoes_71 (by decide) (fun c18 => ?_) (fun c18 => ?_)
      · have h := h.1 c18
        have hl := lv_sub hl (l' := [(0, .ref (ad 3 0)), (1, .int l1), (2, .int l2), (3, .int l3), (4, .int l4)]) [1, 2, 3, 4, 5] rfl
        exact bX7_undoes_79 S hg hr hlk hout hbk4 hbk9 hS hw hl h
      · have h := h.2 c18
        have hl := lv_sub hl (l' := [(0, .ref (ad 3 0)), (1, .int l1), (2, .int l2), (4, .int l4)]) [1, 2, 3, 5] rfl
        exact bX7_undoes_74 S hg hr hlk hout hbk4 hbk9 hS hw hl h
def wX7_undoes_45 (post : Int32 → KS → Int64 → Prop) (bk4 : Int32 → Int32 → KS → Int64 → Prop) (bk9 : Int32 → Int32 → Int32 → Int32 → KS → Int64 → Prop) (l1 : Int32) (l2 : Int32) (l3 : Int32) (l4 : Int32) (M : KS) (ap : Int64) : Prop := wX7_undoes_46 post bk4 bk9 l1 l2 l3 l4 0 M ap
set_option maxHeartbeats 4000000 in
set_option maxRecDepth 100000 in
theorem bX7_undoes_45 {p : Program} {l : Launch} {e : Env} {s : State} {m : MethodId} {args : Array Value} {below : List Frame} {meth : Method} {c : Code} {D : va_G} {cI : Nat → ClassId} {e0 : Nat} {A : Nat → Prop} {ad : Nat → Nat → Nat} {K : KS} {o : Int64} {od : UInt64} {mc ms : Nat} {post : Int32 → KS → Int64 → Prop} {bk4 : Int32 → Int32 → KS → Int64 → Prop} {bk9 : Int32 → Int32 → Int32 → Int32 → KS → Int64 → Prop} (S : CallFix p m c cX7_undoes 6 s args WU RX7) (hg : GI D cI e0 A s s.heap) (hr : meth.sig.returnType = (some FieldType.int)) (hlk : meth.locks = false) (hout : ∀ x ∈ c.exceptionTable.toList, False) (hbk4 : ∀ {H : Heap} {locs : List Loc} {ls : Array Slot} {l1 : Int32} {l2 : Int32} {M : KS} {ap : Int64}, va_S A s.heap H locs → HT D cI e0 A ad K M ap o od H → lv_has ls 6 [(0, .ref (ad 3 0)), (1, .int l1), (2, .int l2)] → bk4 l1 l2 M ap → W p l e ({ frames := 1, cells := mc, slots := ms, locals := 23 } : Room) s m args below meth c H locs 0 0 (MQQ below (qM D cI e0 A ad K o od rI post) xN args s mc ms A) (F0 m 4 ls [])) (hbk9 : ∀ {H : Heap} {locs : List Loc} {ls : Array Slot} {l1 : Int32} {l2 : Int32} {l3 : Int32} {l4 : Int32} {M : KS} {ap : Int64}, va_S A s.heap H locs → HT D cI e0 A ad K M ap o od H → lv_has ls 6 [(0, .ref (ad 3 0)), (1, .int l1), (2, .int l2), (3, .int l3), (4, .int l4)] → bk9 l1 l2 l3 l4 M ap → W p l e ({ frames := 1, cells := mc, slots := ms, locals := 23 } : Room) s m args below meth c H locs 0 0 (MQQ below (qM D cI e0 A ad K o od rI post) xN args s mc ms A) (F0 m 9 ls [])) {H : Heap} {locs : List Loc} {ls : Array Slot} {l1 : Int32} {l2 : Int32} {l3 : Int32} {l4 : Int32} {M : KS} {ap : Int64} (hS : va_S A s.heap H locs) (hw : HT D cI e0 A ad K M ap o od H) (hl : lv_has ls 6 [(0, .ref (ad 3 0)), (1, .int l1), (2, .int l2), (3, .int l3), (4, .int l4)]) (h : wX7_undoes_45 post bk4 bk9 l1 l2 l3 l4 M ap) : W p l e ({ frames := 1, cells := mc, slots := ms, locals := 23 } : Room) s m args below meth c H locs 0 0 (MQQ below (qM D cI e0 A ad K o od rI post) xN args s mc ms A) (F0 m 45 ls []) := by
  unfold wX7_undoes_45 at h
  refine lv_iconst (v := 0) S.1 S.2.1 dX7_undoes_45 (by decide) ?_
  have hl := lv_sub hl (l' := [(0, .ref (ad 3 0)), (1, .int l1), (2, .int l2), (3, .int l3), (4, .int l4)]) [0, 1, 2, 3, 4] rfl
  exact bX7_undoes_46 S hg hr hlk hout hbk4 hbk9 hS hw hl h
def wX7_undoes_9 (post : Int32 → KS → Int64 → Prop) (bk4 : Int32 → Int32 → KS → Int64 → Prop) : Nat → Int32 → Int32 → Int32 → Int32 → KS → Int64 → Prop
  | 0 => fun _ _ _ _ _ _ => False
  | n + 1 => fun l1 l2 l3 l4 M ap => (((M 3 29 0) ≤ l4 → (((l3 = (-1) → (wX7_undoes_161 post bk4 l1 l2 l3 M ap)) ∧ (¬ l3 = (-1) → ((vp_in l3 60) ∧ ((vp_in l3 60) ∧ ((vp_in l3 60) ∧ ((vp_in ((k3 M 13 32 l3.toNatClampNeg 103) 16 34 l3.toNatClampNeg) 6) ∧ ((vp_in l3 60) ∧ ((vp_in l3 60) ∧ ((wpX7_posts (fun _ M10 ap11 => wX7_undoes_161 post bk4 l1 (l2 + 1) l3 M10 ap11) (k3 (k3 M 13 32 l3.toNatClampNeg 103) 16 2 (((k3 M 13 32 l3.toNatClampNeg 103) 16 34 l3.toNatClampNeg).toNatClampNeg) (((k3 M 13 32 l3.toNatClampNeg 103) 16 2 (((k3 M 13 32 l3.toNatClampNeg 103) 16 34 l3.toNatClampNeg).toNatClampNeg)) + ((k3 M 13 32 l3.toNatClampNeg 103) 16 31 l3.toNatClampNeg))) (ap - (((k3 M 13 32 l3.toNatClampNeg 103) 16 31 l3.toNatClampNeg).toInt64)) ((k3 (k3 M 13 32 l3.toNatClampNeg 103) 16 2 (((k3 M 13 32 l3.toNatClampNeg 103) 16 34 l3.toNatClampNeg).toNatClampNeg) (((k3 M 13 32 l3.toNatClampNeg 103) 16 2 (((k3 M 13 32 l3.toNatClampNeg 103) 16 34 l3.toNatClampNeg).toNatClampNeg)) + ((k3 M 13 32 l3.toNatClampNeg 103) 16 31 l3.toNatClampNeg))) 16 30 l3.toNatClampNeg) ((k3 (k3 M 13 32 l3.toNatClampNeg 103) 16 2 (((k3 M 13 32 l3.toNatClampNeg 103) 16 34 l3.toNatClampNeg).toNatClampNeg) (((k3 M 13 32 l3.toNatClampNeg 103) 16 2 (((k3 M 13 32 l3.toNatClampNeg 103) 16 34 l3.toNatClampNeg).toNatClampNeg)) + ((k3 M 13 32 l3.toNatClampNeg 103) 16 31 l3.toNatClampNeg))) 16 34 l3.toNatClampNeg) ((k3 (k3 M 13 32 l3.toNatClampNeg 103) 16 2 (((k3 M 13 32 l3.toNatClampNeg 103) 16 34 l3.toNatClampNeg).toNatClampNeg) (((k3 M 13 32 l3.toNatClampNeg 103) 16 2 (((k3 M 13 32 l3.toNatClampNeg 103) 16 34 l3.toNatClampNeg).toNatClampNeg)) + ((k3 M 13 32 l3.toNatClampNeg 103) 16 31 l3.toNatClampNeg))) 16 33 l3.toNatClampNeg))))))))))))) ∧ (¬ (M 3 29 0) ≤ l4 → ((vp_in l4 60) ∧ (((¬ (M 13 32 l4.toNatClampNeg) = 98 → (wX7_undoes_45 post bk4 (wX7_undoes_9 post bk4 n) l1 l2 l3 l4 M ap)) ∧ ((M 13 32 l4.toNatClampNeg) = 98 → ((vp_in l4 60) ∧ (((¬ (M 16 35 l4.toNatClampNeg) = l1 → (wX7_undoes_45 post bk4 (wX7_undoes_9 post bk4 n) l1 l2 l3 l4 M ap)) ∧ ((M 16 35 l4.toNatClampNeg) = l1 → (wX7_undoes_46 post bk4 (wX7_undoes_9 post bk4 n) l1 l2 l3 l4 1 M ap)))))))))))
set_option maxHeartbeats 4000000 in
set_option maxRecDepth 100000 in
theorem bX7_undoes_9 {p : Program} {l : Launch} {e : Env} {s : State} {m : MethodId} {args : Array Value} {below : List Frame} {meth : Method} {c : Code} {D : va_G} {cI : Nat → ClassId} {e0 : Nat} {A : Nat → Prop} {ad : Nat → Nat → Nat} {K : KS} {o : Int64} {od : UInt64} {mc ms : Nat} {post : Int32 → KS → Int64 → Prop} {bk4 : Int32 → Int32 → KS → Int64 → Prop} (S : CallFix p m c cX7_undoes 6 s args WU RX7) (hg : GI D cI e0 A s s.heap) (hr : meth.sig.returnType = (some FieldType.int)) (hlk : meth.locks = false) (hout : ∀ x ∈ c.exceptionTable.toList, False) (hbk4 : ∀ {H : Heap} {locs : List Loc} {ls : Array Slot} {l1 : Int32} {l2 : Int32} {M : KS} {ap : Int64}, va_S A s.heap H locs → HT D cI e0 A ad K M ap o od H → lv_has ls 6 [(0, .ref (ad 3 0)), (1, .int l1), (2, .int l2)] → bk4 l1 l2 M ap → W p l e ({ frames := 1, cells := mc, slots := ms, locals := 23 } : Room) s m args below meth c H locs 0 0 (MQQ below (qM D cI e0 A ad K o od rI post) xN args s mc ms A) (F0 m 4 ls [])) : ∀ n : Nat, ∀ {H : Heap} {locs : List Loc} {ls : Array Slot} {l1 : Int32} {l2 : Int32} {l3 : Int32} {l4 : Int32} {M : KS} {ap : Int64}, va_S A s.heap H locs → HT D cI e0 A ad K M ap o od H → lv_has ls 6 [(0, .ref (ad 3 0)), (1, .int l1), (2, .int l2), (3, .int l3), (4, .int l4)] → wX7_undoes_9 post bk4 n l1 l2 l3 l4 M ap → W p l e ({ frames := 1, cells := mc, slots := ms, locals := 23 } : Room) s m args below meth c H locs 0 0 (MQQ below (qM D cI e0 A ad K o od rI post) xN args s mc ms A) (F0 m 9 ls []) := by
  intro n
  induction n with
  | zero => intros; exact False.elim (by assumption)
  | succ n ih =>
    intro H locs ls l1 l2 l3 l4 M ap hS hw hl h
    unfold wX7_undoes_9 at h
    refine lv_iload S.1 S.2.1 dX7_undoes_9 (lv_at hl 4 rfl) ?_
    refine lv_aload_n S.1 S.2.1 dX7_undoes_11 rfl (lv_at hl 0 rfl) ?_
    refine g3_29 S hg hw u1073 dX7_undoes_12 ?_
    refine lv_icmp_ge (tgt := 87) S.1 S.2.1 dX7_undoes_15 (by decide) (fun c1 => ?_) (fun c1 => ?_)
    · have h := h.1 c1
      refine lv_iload_n S.1 S.2.1 dX7_undoes_87 rfl (lv_at hl 3 rfl) ?_
      refine lv_iconst (v := (-1)) S.1 S.2.1 dX7_undoes_88 (by decide) ?_
      refine lv_icmp_eq (tgt := 161) S.1 S.2.1 dX7_undoes_89 (by decide) (fun c2 => ?_) (fun c2 => ?_)
      · have h := h.1 c2
        have hl := lv_sub hl (l' := [(0, .ref (ad 3 0)), (1, .int l1), (2, .int l2), (3, .int l3)]) [0, 1, 2, 3] rfl
        exact bX7_undoes_161 S hg hr hlk hout hbk4 hS hw hl h
      · have h := h.2 c2
        refine lv_aload_n S.1 S.2.1 dX7_undoes_92 rfl (lv_at hl 0 rfl) ?_
        refine g3_32 S hg hw u1076 dX7_undoes_93 ?_
        refine lv_iload_n S.1 S.2.1 dX7_undoes_96 rfl (lv_at hl 3 rfl) ?_
        refine lv_bipush (v := 103) S.1 S.2.1 dX7_undoes_97 (by decide) ?_
        obtain ⟨g4, h⟩ := h
        refine s13 S hg hS hw rfl g4 (by decide) dX7_undoes_99 (fun H locs hw hS => ?_)
        refine lv_aload_n S.1 S.2.1 dX7_undoes_100 rfl (lv_at hl 0 rfl) ?_
        refine lv_dup S.1 S.2.1 dX7_undoes_101 rfl ?_
        refine g3_4 S hg hw u1048 dX7_undoes_102 ?_
        refine lv_aload_n S.1 S.2.1 dX7_undoes_105 rfl (lv_at hl 0 rfl) ?_
        refine g3_31 S hg hw u1075 dX7_undoes_106 ?_
        refine lv_iload_n S.1 S.2.1 dX7_undoes_109 rfl (lv_at hl 3 rfl) ?_
        obtain ⟨g5, h⟩ := h
        refine a16 S hg hw rfl g5 dX7_undoes_110 ?_
        refine lv_i2l S.1 S.2.1 dX7_undoes_111 rfl ?_
        refine lv_lsub S.1 S.2.1 dX7_undoes_112 ?_
        refine p3_4 S hg hS hw u1048 dX7_undoes_113 (fun H locs hw hS => ?_)
        refine lv_aload_n S.1 S.2.1 dX7_undoes_116 rfl (lv_at hl 0 rfl) ?_
        refine g3_2 S hg hw u1046 dX7_undoes_117 ?_
        refine lv_aload_n S.1 S.2.1 dX7_undoes_120 rfl (lv_at hl 0 rfl) ?_
        refine g3_34 S hg hw u1078 dX7_undoes_121 ?_
        refine lv_iload_n S.1 S.2.1 dX7_undoes_124 rfl (lv_at hl 3 rfl) ?_
        obtain ⟨g6, h⟩ := h
        refine a16 S hg hw rfl g6 dX7_undoes_125 ?_
        refine lv_dup2_11 S.1 S.2.1 dX7_undoes_126 rfl rfl ?_
        obtain ⟨g7, h⟩ := h
        refine a16 S hg hw rfl g7 dX7_undoes_127 ?_
        refine lv_aload_n S.1 S.2.1 dX7_undoes_128 rfl (lv_at hl 0 rfl) ?_
        refine g3_31 S hg hw u1075 dX7_undoes_129 ?_
        refine lv_iload_n S.1 S.2.1 dX7_undoes_132 rfl (lv_at hl 3 rfl) ?_
        refine a16 S hg hw rfl g5 dX7_undoes_133 ?_
        refine lv_iadd S.1 S.2.1 dX7_undoes_134 ?_
        refine s16 S hg hS hw rfl g7 dX7_undoes_135 (fun H locs hw hS => ?_)
        refine lv_aload_n S.1 S.2.1 dX7_undoes_136 rfl (lv_at hl 0 rfl) ?_
        refine lv_aload_n S.1 S.2.1 dX7_undoes_137 rfl (lv_at hl 0 rfl) ?_
        refine g3_30 S hg hw u1074 dX7_undoes_138 ?_
        refine lv_iload_n S.1 S.2.1 dX7_undoes_141 rfl (lv_at hl 3 rfl) ?_
        obtain ⟨g8, h⟩ := h
        refine a16 S hg hw rfl g8 dX7_undoes_142 ?_
        refine lv_aload_n S.1 S.2.1 dX7_undoes_143 rfl (lv_at hl 0 rfl) ?_
        refine g3_34 S hg hw u1078 dX7_undoes_144 ?_
        refine lv_iload_n S.1 S.2.1 dX7_undoes_147 rfl (lv_at hl 3 rfl) ?_
        refine a16 S hg hw rfl g6 dX7_undoes_148 ?_
        refine lv_aload_n S.1 S.2.1 dX7_undoes_149 rfl (lv_at hl 0 rfl) ?_
        refine g3_33 S hg hw u1077 dX7_undoes_150 ?_
        refine lv_iload_n S.1 S.2.1 dX7_undoes_153 rfl (lv_at hl 3 rfl) ?_
        obtain ⟨g9, h⟩ := h
        refine a16 S hg hw rfl g9 dX7_undoes_154 ?_
        refine r_call (rest := []) S hg hS (mtX7_posts (mc := 0) (ms := 0) h) u1183 u1185 u28 u49 u1186 hdX7_posts (rv3 hg hw) hw ⟨Nat.le_of_ble_eq_true rfl, Nat.le_of_ble_eq_true rfl⟩ ⟨by show 0 + 0 ≤ mc; omega, by show 0 + 0 ≤ ms; omega⟩ hl.1 (Nat.le_of_ble_eq_true rfl) rfl dX7_undoes_155 (fun E ce q H1 locs1 hx hS1 hc1 hc2 hc3 => hx.elim) (fun rv H locs hq hS => ?_)
        obtain ⟨_, M10, ap11, rfl, h, hw⟩ := hq
        show W p l e _ s m _ below meth c H locs _ _ _ (F0 m 158 ls [])
        show W p l e _ s m _ below meth c H locs 0 0 _ _
        refine lv_iinc (v := l2 + 1) (lv' := [(2, .int (l2 + 1)), (0, .ref (ad 3 0)), (1, .int l1), (3, .int l3), (4, .int l4)]) S.1 S.2.1 dX7_undoes_158 hl (k := 2) rfl rfl (by decide) rfl (fun ls hl => ?_)
        have hl := lv_sub hl (l' := [(0, .ref (ad 3 0)), (1, .int l1), (2, .int (l2 + 1)), (3, .int l3)]) [1, 2, 0, 3] rfl
        exact bX7_undoes_161 S hg hr hlk hout hbk4 hS hw hl h
    · have h := h.2 c1
      refine lv_aload_n S.1 S.2.1 dX7_undoes_18 rfl (lv_at hl 0 rfl) ?_
      refine g3_32 S hg hw u1076 dX7_undoes_19 ?_
      refine lv_iload S.1 S.2.1 dX7_undoes_22 (lv_at hl 4 rfl) ?_
      obtain ⟨g12, h⟩ := h
      refine a13 S hg hw rfl g12 dX7_undoes_24 ?_
      refine lv_bipush (v := 98) S.1 S.2.1 dX7_undoes_25 (by decide) ?_
      refine lv_icmp_ne (tgt := 45) S.1 S.2.1 dX7_undoes_27 (by decide) (fun c13 => ?_) (fun c13 => ?_)
      · have h := h.1 c13
        have hl := lv_sub hl (l' := [(0, .ref (ad 3 0)), (1, .int l1), (2, .int l2), (3, .int l3), (4, .int l4)]) [0, 1, 2, 3, 4] rfl
        exact bX7_undoes_45 S hg hr hlk hout hbk4 ih hS hw hl h
      · have h := h.2 c13
        refine lv_aload_n S.1 S.2.1 dX7_undoes_30 rfl (lv_at hl 0 rfl) ?_
        refine g3_35 S hg hw u1079 dX7_undoes_31 ?_
        refine lv_iload S.1 S.2.1 dX7_undoes_34 (lv_at hl 4 rfl) ?_
        obtain ⟨g19, h⟩ := h
        refine a16 S hg hw rfl g19 dX7_undoes_36 ?_
        refine lv_iload_n S.1 S.2.1 dX7_undoes_37 rfl (lv_at hl 1 rfl) ?_
        refine lv_icmp_ne (tgt := 45) S.1 S.2.1 dX7_undoes_38 (by decide) (fun c20 => ?_) (fun c20 => ?_)
        · have h := h.1 c20
          have hl := lv_sub hl (l' := [(0, .ref (ad 3 0)), (1, .int l1), (2, .int l2), (3, .int l3), (4, .int l4)]) [0, 1, 2, 3, 4] rfl
          exact bX7_undoes_45 S hg hr hlk hout hbk4 ih hS hw hl h
        · have h := h.2 c20
          refine lv_iconst (v := 1) S.1 S.2.1 dX7_undoes_41 (by decide) ?_
          refine lv_goto (tgt := 46) S.1 S.2.1 dX7_undoes_42 (by decide) ?_
          have hl := lv_sub hl (l' := [(0, .ref (ad 3 0)), (1, .int l1), (2, .int l2), (3, .int l3), (4, .int l4)]) [0, 1, 2, 3, 4] rfl
          exact bX7_undoes_46 S hg hr hlk hout hbk4 ih hS hw hl h
def wX7_undoes_4 (post : Int32 → KS → Int64 → Prop) : Nat → Int32 → Int32 → KS → Int64 → Prop
  | 0 => fun _ _ _ _ => False
  | n + 1 => fun l1 l2 M ap => ∃ n1 : Nat, wX7_undoes_9 post (wX7_undoes_4 post n) n1 l1 l2 (-1) 0 M ap
set_option maxHeartbeats 4000000 in
set_option maxRecDepth 100000 in
theorem bX7_undoes_4 {p : Program} {l : Launch} {e : Env} {s : State} {m : MethodId} {args : Array Value} {below : List Frame} {meth : Method} {c : Code} {D : va_G} {cI : Nat → ClassId} {e0 : Nat} {A : Nat → Prop} {ad : Nat → Nat → Nat} {K : KS} {o : Int64} {od : UInt64} {mc ms : Nat} {post : Int32 → KS → Int64 → Prop} (S : CallFix p m c cX7_undoes 6 s args WU RX7) (hg : GI D cI e0 A s s.heap) (hr : meth.sig.returnType = (some FieldType.int)) (hlk : meth.locks = false) (hout : ∀ x ∈ c.exceptionTable.toList, False) : ∀ n : Nat, ∀ {H : Heap} {locs : List Loc} {ls : Array Slot} {l1 : Int32} {l2 : Int32} {M : KS} {ap : Int64}, va_S A s.heap H locs → HT D cI e0 A ad K M ap o od H → lv_has ls 6 [(0, .ref (ad 3 0)), (1, .int l1), (2, .int l2)] → wX7_undoes_4 post n l1 l2 M ap → W p l e ({ frames := 1, cells := mc, slots := ms, locals := 23 } : Room) s m args below meth c H locs 0 0 (MQQ below (qM D cI e0 A ad K o od rI post) xN args s mc ms A) (F0 m 4 ls []) := by
  intro n
  induction n with
  | zero => intros; exact False.elim (by assumption)
  | succ n ih =>
    intro H locs ls l1 l2 M ap hS hw hl h
    unfold wX7_undoes_4 at h
    refine lv_iconst (v := (-1)) S.1 S.2.1 dX7_undoes_4 (by decide) ?_
    refine lv_istore_n (lv' := [(3, .int (-1)), (0, .ref (ad 3 0)), (1, .int l1), (2, .int l2)]) S.1 S.2.1 dX7_undoes_5 rfl hl (by decide) rfl (fun ls hl => ?_)
    refine lv_iconst (v := 0) S.1 S.2.1 dX7_undoes_6 (by decide) ?_
    refine lv_istore (lv' := [(4, .int 0), (3, .int (-1)), (0, .ref (ad 3 0)), (1, .int l1), (2, .int l2)]) S.1 S.2.1 dX7_undoes_7 hl (by decide) rfl (fun ls hl => ?_)
    have hl := lv_sub hl (l' := [(0, .ref (ad 3 0)), (1, .int l1), (2, .int l2), (3, .int (-1)), (4, .int 0)]) [2, 3, 4, 1, 0] rfl
    obtain ⟨n1, h⟩ := h
    exact bX7_undoes_9 S hg hr hlk hout ih n1 hS hw hl h
def wpX7_undoes (post : Int32 → KS → Int64 → Prop) (M : KS) (ap : Int64) (p1 : Int32) : Prop := ∃ n1 : Nat, wX7_undoes_4 post n1 p1 0 M ap
theorem hdX7_undoes : yX7_undoes.cls ≠ "java/lang/invoke/MethodHandle" ∧ yX7_undoes.cls ≠ "java/lang/invoke/VarHandle" ∧ (parseMethodDescriptor yX7_undoes.desc).map (fun d => d.parameters.length) = some 1 := by decide +kernel
set_option maxHeartbeats 4000000 in
set_option maxRecDepth 100000 in
theorem mtX7_undoes {l : Launch} {D : va_G} {cI : Nat → ClassId} {e0 : Nat} {A : Nat → Prop} {ad : Nat → Nat → Nat} {K M : KS} {ap o : Int64} {od : UInt64} {mc ms : Nat} {p1 : Int32} {post : Int32 → KS → Int64 → Prop} (h : wpX7_undoes post M ap p1) : CM l D cI e0 A yX7_undoes cX7_undoes 6 (some FieldType.int) 1 23 mc ms [.ref (ad 3 0), .int p1] (HT D cI e0 A ad K M ap o od) (qM D cI e0 A ad K o od rI post) xN := by
  refine CM.of (by decide) (Nat.le_of_ble_eq_true rfl) (fun p e s m below meth c ls FX hw hS hl => ?_)
  obtain ⟨S, hg, hr, hlk, hnm, hout⟩ := FX
  have hl : lv_has ls 6 [(0, .ref (ad 3 0)), (1, .int p1)] := hl
  unfold wpX7_undoes at h
  refine lv_iconst (v := 0) S.1 S.2.1 dX7_undoes_0 (by decide) ?_
  refine lv_istore_n (lv' := [(2, .int 0), (0, .ref (ad 3 0)), (1, .int p1)]) S.1 S.2.1 dX7_undoes_1 rfl hl (by decide) rfl (fun ls hl => ?_)
  refine lv_iconst (v := (-1)) S.1 S.2.1 dX7_undoes_2 (by decide) ?_
  refine lv_istore_n (lv' := [(3, .int (-1)), (2, .int 0), (0, .ref (ad 3 0)), (1, .int p1)]) S.1 S.2.1 dX7_undoes_3 rfl hl (by decide) rfl (fun ls hl => ?_)
  have hl := lv_sub hl (l' := [(0, .ref (ad 3 0)), (1, .int p1), (2, .int 0)]) [2, 3, 1] rfl
  obtain ⟨n1, h⟩ := h
  exact bX7_undoes_4 S hg hr hlk hout n1 hS hw hl h

-- X7.restakes
theorem dX7_restakes_0 : decode cX7_restakes 0 = .ok (.iconst 0, 1) := by decide +kernel
theorem dX7_restakes_1 : decode cX7_restakes 1 = .ok (.istore_n 2, 1) := by decide +kernel
theorem dX7_restakes_2 : decode cX7_restakes 2 = .ok (.iload_n 2, 1) := by decide +kernel
theorem dX7_restakes_3 : decode cX7_restakes 3 = .ok (.iconst 2, 1) := by decide +kernel
theorem dX7_restakes_4 : decode cX7_restakes 4 = .ok (.if_icmp .ge 138, 3) := by decide +kernel
theorem dX7_restakes_7 : decode cX7_restakes 7 = .ok (.iconst 0, 1) := by decide +kernel
theorem dX7_restakes_8 : decode cX7_restakes 8 = .ok (.istore_n 3, 1) := by decide +kernel
theorem dX7_restakes_9 : decode cX7_restakes 9 = .ok (.iload_n 3, 1) := by decide +kernel
theorem dX7_restakes_10 : decode cX7_restakes 10 = .ok (.aload_n 0, 1) := by decide +kernel
theorem dX7_restakes_11 : decode cX7_restakes 11 = .ok (.getfield 53, 3) := by decide +kernel
theorem dX7_restakes_14 : decode cX7_restakes 14 = .ok (.iconst 2, 1) := by decide +kernel
theorem dX7_restakes_15 : decode cX7_restakes 15 = .ok (.iload_n 1, 1) := by decide +kernel
theorem dX7_restakes_16 : decode cX7_restakes 16 = .ok (.imul, 1) := by decide +kernel
theorem dX7_restakes_17 : decode cX7_restakes 17 = .ok (.iload_n 2, 1) := by decide +kernel
theorem dX7_restakes_18 : decode cX7_restakes 18 = .ok (.iadd, 1) := by decide +kernel
theorem dX7_restakes_19 : decode cX7_restakes 19 = .ok (.iaload, 1) := by decide +kernel
theorem dX7_restakes_20 : decode cX7_restakes 20 = .ok (.if_icmp .ge 116, 3) := by decide +kernel
theorem dX7_restakes_23 : decode cX7_restakes 23 = .ok (.aload_n 0, 1) := by decide +kernel
theorem dX7_restakes_24 : decode cX7_restakes 24 = .ok (.getfield 56, 3) := by decide +kernel
theorem dX7_restakes_27 : decode cX7_restakes 27 = .ok (.bipush 8, 2) := by decide +kernel
theorem dX7_restakes_29 : decode cX7_restakes 29 = .ok (.iconst 2, 1) := by decide +kernel
theorem dX7_restakes_30 : decode cX7_restakes 30 = .ok (.iload_n 1, 1) := by decide +kernel
theorem dX7_restakes_31 : decode cX7_restakes 31 = .ok (.imul, 1) := by decide +kernel
theorem dX7_restakes_32 : decode cX7_restakes 32 = .ok (.iload_n 2, 1) := by decide +kernel
theorem dX7_restakes_33 : decode cX7_restakes 33 = .ok (.iadd, 1) := by decide +kernel
theorem dX7_restakes_34 : decode cX7_restakes 34 = .ok (.imul, 1) := by decide +kernel
theorem dX7_restakes_35 : decode cX7_restakes 35 = .ok (.iload_n 3, 1) := by decide +kernel
theorem dX7_restakes_36 : decode cX7_restakes 36 = .ok (.iadd, 1) := by decide +kernel
theorem dX7_restakes_37 : decode cX7_restakes 37 = .ok (.iaload, 1) := by decide +kernel
theorem dX7_restakes_38 : decode cX7_restakes 38 = .ok (.istore 4, 2) := by decide +kernel
theorem dX7_restakes_40 : decode cX7_restakes 40 = .ok (.iload_n 2, 1) := by decide +kernel
theorem dX7_restakes_41 : decode cX7_restakes 41 = .ok (.ifCond .ne 12, 3) := by decide +kernel
theorem dX7_restakes_44 : decode cX7_restakes 44 = .ok (.aload_n 0, 1) := by decide +kernel
theorem dX7_restakes_45 : decode cX7_restakes 45 = .ok (.getfield 32, 3) := by decide +kernel
theorem dX7_restakes_48 : decode cX7_restakes 48 = .ok (.iload_n 1, 1) := by decide +kernel
theorem dX7_restakes_49 : decode cX7_restakes 49 = .ok (.iaload, 1) := by decide +kernel
theorem dX7_restakes_50 : decode cX7_restakes 50 = .ok (.goto 9, 3) := by decide +kernel
theorem dX7_restakes_53 : decode cX7_restakes 53 = .ok (.aload_n 0, 1) := by decide +kernel
theorem dX7_restakes_54 : decode cX7_restakes 54 = .ok (.getfield 35, 3) := by decide +kernel
theorem dX7_restakes_57 : decode cX7_restakes 57 = .ok (.iload_n 1, 1) := by decide +kernel
theorem dX7_restakes_58 : decode cX7_restakes 58 = .ok (.iaload, 1) := by decide +kernel
theorem dX7_restakes_59 : decode cX7_restakes 59 = .ok (.istore 5, 2) := by decide +kernel
theorem dX7_restakes_61 : decode cX7_restakes 61 = .ok (.aload_n 0, 1) := by decide +kernel
theorem dX7_restakes_62 : decode cX7_restakes 62 = .ok (.getfield 19, 3) := by decide +kernel
theorem dX7_restakes_65 : decode cX7_restakes 65 = .ok (.iload 4, 2) := by decide +kernel
theorem dX7_restakes_67 : decode cX7_restakes 67 = .ok (.bipush 115, 2) := by decide +kernel
theorem dX7_restakes_69 : decode cX7_restakes 69 = .ok (.castore, 1) := by decide +kernel
theorem dX7_restakes_70 : decode cX7_restakes 70 = .ok (.aload_n 0, 1) := by decide +kernel
theorem dX7_restakes_71 : decode cX7_restakes 71 = .ok (.getfield 26, 3) := by decide +kernel
theorem dX7_restakes_74 : decode cX7_restakes 74 = .ok (.iload 4, 2) := by decide +kernel
theorem dX7_restakes_76 : decode cX7_restakes 76 = .ok (.iaload, 1) := by decide +kernel
theorem dX7_restakes_77 : decode cX7_restakes 77 = .ok (.iconst (-1), 1) := by decide +kernel
theorem dX7_restakes_78 : decode cX7_restakes 78 = .ok (.if_icmp .eq 25, 3) := by decide +kernel
theorem dX7_restakes_81 : decode cX7_restakes 81 = .ok (.aload_n 0, 1) := by decide +kernel
theorem dX7_restakes_82 : decode cX7_restakes 82 = .ok (.getfield 83, 3) := by decide +kernel
theorem dX7_restakes_85 : decode cX7_restakes 85 = .ok (.aload_n 0, 1) := by decide +kernel
theorem dX7_restakes_86 : decode cX7_restakes 86 = .ok (.getfield 26, 3) := by decide +kernel
theorem dX7_restakes_89 : decode cX7_restakes 89 = .ok (.iload 4, 2) := by decide +kernel
theorem dX7_restakes_91 : decode cX7_restakes 91 = .ok (.iaload, 1) := by decide +kernel
theorem dX7_restakes_92 : decode cX7_restakes 92 = .ok (.bipush 103, 2) := by decide +kernel
theorem dX7_restakes_94 : decode cX7_restakes 94 = .ok (.castore, 1) := by decide +kernel
theorem dX7_restakes_95 : decode cX7_restakes 95 = .ok (.aload_n 0, 1) := by decide +kernel
theorem dX7_restakes_96 : decode cX7_restakes 96 = .ok (.getfield 26, 3) := by decide +kernel
theorem dX7_restakes_99 : decode cX7_restakes 99 = .ok (.iload 4, 2) := by decide +kernel
theorem dX7_restakes_101 : decode cX7_restakes 101 = .ok (.iconst (-1), 1) := by decide +kernel
theorem dX7_restakes_102 : decode cX7_restakes 102 = .ok (.iastore, 1) := by decide +kernel
theorem dX7_restakes_103 : decode cX7_restakes 103 = .ok (.aload_n 0, 1) := by decide +kernel
theorem dX7_restakes_104 : decode cX7_restakes 104 = .ok (.getfield 16, 3) := by decide +kernel
theorem dX7_restakes_107 : decode cX7_restakes 107 = .ok (.iload 4, 2) := by decide +kernel
theorem dX7_restakes_109 : decode cX7_restakes 109 = .ok (.iaload, 1) := by decide +kernel
theorem dX7_restakes_110 : decode cX7_restakes 110 = .ok (.iload 5, 2) := by decide +kernel
theorem dX7_restakes_112 : decode cX7_restakes 112 = .ok (.if_icmp .eq 18, 3) := by decide +kernel
theorem dX7_restakes_115 : decode cX7_restakes 115 = .ok (.aload_n 0, 1) := by decide +kernel
theorem dX7_restakes_116 : decode cX7_restakes 116 = .ok (.iload 4, 2) := by decide +kernel
theorem dX7_restakes_118 : decode cX7_restakes 118 = .ok (.aload_n 0, 1) := by decide +kernel
theorem dX7_restakes_119 : decode cX7_restakes 119 = .ok (.getfield 16, 3) := by decide +kernel
theorem dX7_restakes_122 : decode cX7_restakes 122 = .ok (.iload 4, 2) := by decide +kernel
theorem dX7_restakes_124 : decode cX7_restakes 124 = .ok (.iaload, 1) := by decide +kernel
theorem dX7_restakes_125 : decode cX7_restakes 125 = .ok (.iload 5, 2) := by decide +kernel
theorem dX7_restakes_127 : decode cX7_restakes 127 = .ok (.invokevirtual 123, 3) := by decide +kernel
theorem dX7_restakes_130 : decode cX7_restakes 130 = .ok (.iinc 3 1, 3) := by decide +kernel
theorem dX7_restakes_133 : decode cX7_restakes 133 = .ok (.goto (-124), 3) := by decide +kernel
theorem dX7_restakes_136 : decode cX7_restakes 136 = .ok (.iinc 2 1, 3) := by decide +kernel
theorem dX7_restakes_139 : decode cX7_restakes 139 = .ok (.goto (-137), 3) := by decide +kernel
theorem dX7_restakes_142 : decode cX7_restakes 142 = .ok (.return_, 1) := by decide +kernel
def wX7_restakes_130 (post : Unit → KS → Int64 → Prop) (bk2 : Int32 → Int32 → KS → Int64 → Prop) (bk9 : Int32 → Int32 → Int32 → KS → Int64 → Prop) (l1 : Int32) (l2 : Int32) (l3 : Int32) (M : KS) (ap : Int64) : Prop := bk9 l1 l2 (l3 + 1) M ap
set_option maxHeartbeats 4000000 in
set_option maxRecDepth 100000 in
theorem bX7_restakes_130 {p : Program} {l : Launch} {e : Env} {s : State} {m : MethodId} {args : Array Value} {below : List Frame} {meth : Method} {c : Code} {D : va_G} {cI : Nat → ClassId} {e0 : Nat} {A : Nat → Prop} {ad : Nat → Nat → Nat} {K : KS} {o : Int64} {od : UInt64} {mc ms : Nat} {post : Unit → KS → Int64 → Prop} {bk2 : Int32 → Int32 → KS → Int64 → Prop} {bk9 : Int32 → Int32 → Int32 → KS → Int64 → Prop} (S : CallFix p m c cX7_restakes 6 s args WU RX7) (hg : GI D cI e0 A s s.heap) (hr : meth.sig.returnType = none) (hlk : meth.locks = false) (hout : ∀ x ∈ c.exceptionTable.toList, False) (hbk2 : ∀ {H : Heap} {locs : List Loc} {ls : Array Slot} {l1 : Int32} {l2 : Int32} {M : KS} {ap : Int64}, va_S A s.heap H locs → HT D cI e0 A ad K M ap o od H → lv_has ls 6 [(0, .ref (ad 3 0)), (1, .int l1), (2, .int l2)] → bk2 l1 l2 M ap → W p l e ({ frames := 1, cells := mc, slots := ms, locals := 23 } : Room) s m args below meth c H locs 0 0 (MQQ below (qM D cI e0 A ad K o od rV post) xN args s mc ms A) (F0 m 2 ls [])) (hbk9 : ∀ {H : Heap} {locs : List Loc} {ls : Array Slot} {l1 : Int32} {l2 : Int32} {l3 : Int32} {M : KS} {ap : Int64}, va_S A s.heap H locs → HT D cI e0 A ad K M ap o od H → lv_has ls 6 [(0, .ref (ad 3 0)), (1, .int l1), (2, .int l2), (3, .int l3)] → bk9 l1 l2 l3 M ap → W p l e ({ frames := 1, cells := mc, slots := ms, locals := 23 } : Room) s m args below meth c H locs 0 0 (MQQ below (qM D cI e0 A ad K o od rV post) xN args s mc ms A) (F0 m 9 ls [])) {H : Heap} {locs : List Loc} {ls : Array Slot} {l1 : Int32} {l2 : Int32} {l3 : Int32} {M : KS} {ap : Int64} (hS : va_S A s.heap H locs) (hw : HT D cI e0 A ad K M ap o od H) (hl : lv_has ls 6 [(0, .ref (ad 3 0)), (1, .int l1), (2, .int l2), (3, .int l3)]) (h : wX7_restakes_130 post bk2 bk9 l1 l2 l3 M ap) : W p l e ({ frames := 1, cells := mc, slots := ms, locals := 23 } : Room) s m args below meth c H locs 0 0 (MQQ below (qM D cI e0 A ad K o od rV post) xN args s mc ms A) (F0 m 130 ls []) := by
  unfold wX7_restakes_130 at h
  refine lv_iinc (v := l3 + 1) (lv' := [(3, .int (l3 + 1)), (0, .ref (ad 3 0)), (1, .int l1), (2, .int l2)]) S.1 S.2.1 dX7_restakes_130 hl (k := 3) rfl rfl (by decide) rfl (fun ls hl => ?_)
  refine lv_goto (tgt := 9) S.1 S.2.1 dX7_restakes_133 (by decide) ?_
  have hl := lv_sub hl (l' := [(0, .ref (ad 3 0)), (1, .int l1), (2, .int l2), (3, .int (l3 + 1))]) [1, 2, 3, 0] rfl
  exact hbk9 hS hw hl h
def wX7_restakes_103 (post : Unit → KS → Int64 → Prop) (bk2 : Int32 → Int32 → KS → Int64 → Prop) (bk9 : Int32 → Int32 → Int32 → KS → Int64 → Prop) (l1 : Int32) (l2 : Int32) (l3 : Int32) (l4 : Int32) (l5 : Int32) (M : KS) (ap : Int64) : Prop := (vp_in l4 40) ∧ ((((M 16 7 l4.toNatClampNeg) = l5 → (wX7_restakes_130 post bk2 bk9 l1 l2 l3 M ap)) ∧ (¬ (M 16 7 l4.toNatClampNeg) = l5 → ((wpX7_posts (fun _ M13 ap14 => wX7_restakes_130 post bk2 bk9 l1 l2 l3 M13 ap14) M ap l4 (M 16 7 l4.toNatClampNeg) l5)))))
set_option maxHeartbeats 4000000 in
set_option maxRecDepth 100000 in
theorem bX7_restakes_103 {p : Program} {l : Launch} {e : Env} {s : State} {m : MethodId} {args : Array Value} {below : List Frame} {meth : Method} {c : Code} {D : va_G} {cI : Nat → ClassId} {e0 : Nat} {A : Nat → Prop} {ad : Nat → Nat → Nat} {K : KS} {o : Int64} {od : UInt64} {mc ms : Nat} {post : Unit → KS → Int64 → Prop} {bk2 : Int32 → Int32 → KS → Int64 → Prop} {bk9 : Int32 → Int32 → Int32 → KS → Int64 → Prop} (S : CallFix p m c cX7_restakes 6 s args WU RX7) (hg : GI D cI e0 A s s.heap) (hr : meth.sig.returnType = none) (hlk : meth.locks = false) (hout : ∀ x ∈ c.exceptionTable.toList, False) (hbk2 : ∀ {H : Heap} {locs : List Loc} {ls : Array Slot} {l1 : Int32} {l2 : Int32} {M : KS} {ap : Int64}, va_S A s.heap H locs → HT D cI e0 A ad K M ap o od H → lv_has ls 6 [(0, .ref (ad 3 0)), (1, .int l1), (2, .int l2)] → bk2 l1 l2 M ap → W p l e ({ frames := 1, cells := mc, slots := ms, locals := 23 } : Room) s m args below meth c H locs 0 0 (MQQ below (qM D cI e0 A ad K o od rV post) xN args s mc ms A) (F0 m 2 ls [])) (hbk9 : ∀ {H : Heap} {locs : List Loc} {ls : Array Slot} {l1 : Int32} {l2 : Int32} {l3 : Int32} {M : KS} {ap : Int64}, va_S A s.heap H locs → HT D cI e0 A ad K M ap o od H → lv_has ls 6 [(0, .ref (ad 3 0)), (1, .int l1), (2, .int l2), (3, .int l3)] → bk9 l1 l2 l3 M ap → W p l e ({ frames := 1, cells := mc, slots := ms, locals := 23 } : Room) s m args below meth c H locs 0 0 (MQQ below (qM D cI e0 A ad K o od rV post) xN args s mc ms A) (F0 m 9 ls [])) {H : Heap} {locs : List Loc} {ls : Array Slot} {l1 : Int32} {l2 : Int32} {l3 : Int32} {l4 : Int32} {l5 : Int32} {M : KS} {ap : Int64} (hS : va_S A s.heap H locs) (hw : HT D cI e0 A ad K M ap o od H) (hl : lv_has ls 6 [(0, .ref (ad 3 0)), (1, .int l1), (2, .int l2), (3, .int l3), (4, .int l4), (5, .int l5)]) (h : wX7_restakes_103 post bk2 bk9 l1 l2 l3 l4 l5 M ap) : W p l e ({ frames := 1, cells := mc, slots := ms, locals := 23 } : Room) s m args below meth c H locs 0 0 (MQQ below (qM D cI e0 A ad K o od rV post) xN args s mc ms A) (F0 m 103 ls []) := by
  unfold wX7_restakes_103 at h
  refine lv_aload_n S.1 S.2.1 dX7_restakes_103 rfl (lv_at hl 0 rfl) ?_
  refine g3_7 S hg hw u1051 dX7_restakes_104 ?_
  refine lv_iload S.1 S.2.1 dX7_restakes_107 (lv_at hl 4 rfl) ?_
  obtain ⟨g11, h⟩ := h
  refine a16 S hg hw rfl g11 dX7_restakes_109 ?_
  refine lv_iload S.1 S.2.1 dX7_restakes_110 (lv_at hl 5 rfl) ?_
  refine lv_icmp_eq (tgt := 130) S.1 S.2.1 dX7_restakes_112 (by decide) (fun c12 => ?_) (fun c12 => ?_)
  · have h := h.1 c12
    have hl := lv_sub hl (l' := [(0, .ref (ad 3 0)), (1, .int l1), (2, .int l2), (3, .int l3)]) [0, 1, 2, 3] rfl
    exact bX7_restakes_130 S hg hr hlk hout hbk2 hbk9 hS hw hl h
  · have h := h.2 c12
    refine lv_aload_n S.1 S.2.1 dX7_restakes_115 rfl (lv_at hl 0 rfl) ?_
    refine lv_iload S.1 S.2.1 dX7_restakes_116 (lv_at hl 4 rfl) ?_
    refine lv_aload_n S.1 S.2.1 dX7_restakes_118 rfl (lv_at hl 0 rfl) ?_
    refine g3_7 S hg hw u1051 dX7_restakes_119 ?_
    refine lv_iload S.1 S.2.1 dX7_restakes_122 (lv_at hl 4 rfl) ?_
    refine a16 S hg hw rfl g11 dX7_restakes_124 ?_
    refine lv_iload S.1 S.2.1 dX7_restakes_125 (lv_at hl 5 rfl) ?_
    refine r_call (rest := []) S hg hS (mtX7_posts (mc := 0) (ms := 0) h) u1183 u1185 u28 u49 u1186 hdX7_posts (rv3 hg hw) hw ⟨Nat.le_of_ble_eq_true rfl, Nat.le_of_ble_eq_true rfl⟩ ⟨by show 0 + 0 ≤ mc; omega, by show 0 + 0 ≤ ms; omega⟩ hl.1 (Nat.le_of_ble_eq_true rfl) rfl dX7_restakes_127 (fun E ce q H1 locs1 hx hS1 hc1 hc2 hc3 => hx.elim) (fun rv H locs hq hS => ?_)
    obtain ⟨_, M13, ap14, rfl, h, hw⟩ := hq
    show W p l e _ s m _ below meth c H locs _ _ _ (F0 m 130 ls [])
    show W p l e _ s m _ below meth c H locs 0 0 _ _
    have hl := lv_sub hl (l' := [(0, .ref (ad 3 0)), (1, .int l1), (2, .int l2), (3, .int l3)]) [0, 1, 2, 3] rfl
    exact bX7_restakes_130 S hg hr hlk hout hbk2 hbk9 hS hw hl h
def wX7_restakes_59 (post : Unit → KS → Int64 → Prop) (bk2 : Int32 → Int32 → KS → Int64 → Prop) (bk9 : Int32 → Int32 → Int32 → KS → Int64 → Prop) (l1 : Int32) (l2 : Int32) (l3 : Int32) (l4 : Int32) (t0 : Int32) (M : KS) (ap : Int64) : Prop := (vp_in l4 40) ∧ ((vp_in l4 40) ∧ (((((k3 M 13 8 l4.toNatClampNeg 115) 16 10 l4.toNatClampNeg) = (-1) → (wX7_restakes_103 post bk2 bk9 l1 l2 l3 l4 t0 (k3 M 13 8 l4.toNatClampNeg 115) ap)) ∧ (¬ ((k3 M 13 8 l4.toNatClampNeg 115) 16 10 l4.toNatClampNeg) = (-1) → ((vp_in ((k3 M 13 8 l4.toNatClampNeg 115) 16 10 l4.toNatClampNeg) 60) ∧ (wX7_restakes_103 post bk2 bk9 l1 l2 l3 l4 t0 (k3 (k3 (k3 M 13 8 l4.toNatClampNeg 115) 13 32 (((k3 M 13 8 l4.toNatClampNeg 115) 16 10 l4.toNatClampNeg).toNatClampNeg) 103) 16 10 l4.toNatClampNeg (-1)) ap))))))
set_option maxHeartbeats 4000000 in
set_option maxRecDepth 100000 in
theorem bX7_restakes_59 {p : Program} {l : Launch} {e : Env} {s : State} {m : MethodId} {args : Array Value} {below : List Frame} {meth : Method} {c : Code} {D : va_G} {cI : Nat → ClassId} {e0 : Nat} {A : Nat → Prop} {ad : Nat → Nat → Nat} {K : KS} {o : Int64} {od : UInt64} {mc ms : Nat} {post : Unit → KS → Int64 → Prop} {bk2 : Int32 → Int32 → KS → Int64 → Prop} {bk9 : Int32 → Int32 → Int32 → KS → Int64 → Prop} (S : CallFix p m c cX7_restakes 6 s args WU RX7) (hg : GI D cI e0 A s s.heap) (hr : meth.sig.returnType = none) (hlk : meth.locks = false) (hout : ∀ x ∈ c.exceptionTable.toList, False) (hbk2 : ∀ {H : Heap} {locs : List Loc} {ls : Array Slot} {l1 : Int32} {l2 : Int32} {M : KS} {ap : Int64}, va_S A s.heap H locs → HT D cI e0 A ad K M ap o od H → lv_has ls 6 [(0, .ref (ad 3 0)), (1, .int l1), (2, .int l2)] → bk2 l1 l2 M ap → W p l e ({ frames := 1, cells := mc, slots := ms, locals := 23 } : Room) s m args below meth c H locs 0 0 (MQQ below (qM D cI e0 A ad K o od rV post) xN args s mc ms A) (F0 m 2 ls [])) (hbk9 : ∀ {H : Heap} {locs : List Loc} {ls : Array Slot} {l1 : Int32} {l2 : Int32} {l3 : Int32} {M : KS} {ap : Int64}, va_S A s.heap H locs → HT D cI e0 A ad K M ap o od H → lv_has ls 6 [(0, .ref (ad 3 0)), (1, .int l1), (2, .int l2), (3, .int l3)] → bk9 l1 l2 l3 M ap → W p l e ({ frames := 1, cells := mc, slots := ms, locals := 23 } : Room) s m args below meth c H locs 0 0 (MQQ below (qM D cI e0 A ad K o od rV post) xN args s mc ms A) (F0 m 9 ls [])) {H : Heap} {locs : List Loc} {ls : Array Slot} {l1 : Int32} {l2 : Int32} {l3 : Int32} {l4 : Int32} {t0 : Int32} {M : KS} {ap : Int64} (hS : va_S A s.heap H locs) (hw : HT D cI e0 A ad K M ap o od H) (hl : lv_has ls 6 [(0, .ref (ad 3 0)), (1, .int l1), (2, .int l2), (3, .int l3), (4, .int l4)]) (h : wX7_restakes_59 post bk2 bk9 l1 l2 l3 l4 t0 M ap) : W p l e ({ frames := 1, cells := mc, slots := ms, locals := 23 } : Room) s m args below meth c H locs 0 0 (MQQ below (qM D cI e0 A ad K o od rV post) xN args s mc ms A) (F0 m 59 ls [.int t0]) := by
  unfold wX7_restakes_59 at h
  refine lv_istore (lv' := [(5, .int t0), (0, .ref (ad 3 0)), (1, .int l1), (2, .int l2), (3, .int l3), (4, .int l4)]) S.1 S.2.1 dX7_restakes_59 hl (by decide) rfl (fun ls hl => ?_)
  refine lv_aload_n S.1 S.2.1 dX7_restakes_61 rfl (lv_at hl 1 rfl) ?_
  refine g3_8 S hg hw u1052 dX7_restakes_62 ?_
  refine lv_iload S.1 S.2.1 dX7_restakes_65 (lv_at hl 5 rfl) ?_
  refine lv_bipush (v := 115) S.1 S.2.1 dX7_restakes_67 (by decide) ?_
  obtain ⟨g8, h⟩ := h
  refine s13 S hg hS hw rfl g8 (by decide) dX7_restakes_69 (fun H locs hw hS => ?_)
  refine lv_aload_n S.1 S.2.1 dX7_restakes_70 rfl (lv_at hl 1 rfl) ?_
  refine g3_10 S hg hw u1054 dX7_restakes_71 ?_
  refine lv_iload S.1 S.2.1 dX7_restakes_74 (lv_at hl 5 rfl) ?_
  obtain ⟨g9, h⟩ := h
  refine a16 S hg hw rfl g9 dX7_restakes_76 ?_
  refine lv_iconst (v := (-1)) S.1 S.2.1 dX7_restakes_77 (by decide) ?_
  refine lv_icmp_eq (tgt := 103) S.1 S.2.1 dX7_restakes_78 (by decide) (fun c10 => ?_) (fun c10 => ?_)
  · have h := h.1 c10
    have hl := lv_sub hl (l' := [(0, .ref (ad 3 0)), (1, .int l1), (2, .int l2), (3, .int l3), (4, .int l4), (5, .int t0)]) [1, 2, 3, 4, 5, 0] rfl
    exact bX7_restakes_103 S hg hr hlk hout hbk2 hbk9 hS hw hl h
  · have h := h.2 c10
    refine lv_aload_n S.1 S.2.1 dX7_restakes_81 rfl (lv_at hl 1 rfl) ?_
    refine g3_32 S hg hw u1076 dX7_restakes_82 ?_
    refine lv_aload_n S.1 S.2.1 dX7_restakes_85 rfl (lv_at hl 1 rfl) ?_
    refine g3_10 S hg hw u1054 dX7_restakes_86 ?_
    refine lv_iload S.1 S.2.1 dX7_restakes_89 (lv_at hl 5 rfl) ?_
    refine a16 S hg hw rfl g9 dX7_restakes_91 ?_
    refine lv_bipush (v := 103) S.1 S.2.1 dX7_restakes_92 (by decide) ?_
    obtain ⟨g15, h⟩ := h
    refine s13 S hg hS hw rfl g15 (by decide) dX7_restakes_94 (fun H locs hw hS => ?_)
    refine lv_aload_n S.1 S.2.1 dX7_restakes_95 rfl (lv_at hl 1 rfl) ?_
    refine g3_10 S hg hw u1054 dX7_restakes_96 ?_
    refine lv_iload S.1 S.2.1 dX7_restakes_99 (lv_at hl 5 rfl) ?_
    refine lv_iconst (v := (-1)) S.1 S.2.1 dX7_restakes_101 (by decide) ?_
    refine s16 S hg hS hw rfl g9 dX7_restakes_102 (fun H locs hw hS => ?_)
    have hl := lv_sub hl (l' := [(0, .ref (ad 3 0)), (1, .int l1), (2, .int l2), (3, .int l3), (4, .int l4), (5, .int t0)]) [1, 2, 3, 4, 5, 0] rfl
    exact bX7_restakes_103 S hg hr hlk hout hbk2 hbk9 hS hw hl h
def wX7_restakes_9 (post : Unit → KS → Int64 → Prop) (bk2 : Int32 → Int32 → KS → Int64 → Prop) : Nat → Int32 → Int32 → Int32 → KS → Int64 → Prop
  | 0 => fun _ _ _ _ _ => False
  | n + 1 => fun l1 l2 l3 M ap => (vp_in ((2 * l1) + l2) 16) ∧ ((((M 16 21 (((2 * l1) + l2).toNatClampNeg)) ≤ l3 → (bk2 l1 (l2 + 1) M ap)) ∧ (¬ (M 16 21 (((2 * l1) + l2).toNatClampNeg)) ≤ l3 → ((vp_in ((8 * ((2 * l1) + l2)) + l3) 128) ∧ (∀ x5 : Int32, x5 = M 16 22 (((8 * ((2 * l1) + l2)) + l3).toNatClampNeg) → (((¬ l2 = 0 → ((vp_in l1 8) ∧ (wX7_restakes_59 post bk2 (wX7_restakes_9 post bk2 n) l1 l2 l3 x5 (M 16 15 l1.toNatClampNeg) M ap))) ∧ (l2 = 0 → ((vp_in l1 8) ∧ (wX7_restakes_59 post bk2 (wX7_restakes_9 post bk2 n) l1 l2 l3 x5 (M 16 14 l1.toNatClampNeg) M ap))))))))))
set_option maxHeartbeats 4000000 in
set_option maxRecDepth 100000 in
theorem bX7_restakes_9 {p : Program} {l : Launch} {e : Env} {s : State} {m : MethodId} {args : Array Value} {below : List Frame} {meth : Method} {c : Code} {D : va_G} {cI : Nat → ClassId} {e0 : Nat} {A : Nat → Prop} {ad : Nat → Nat → Nat} {K : KS} {o : Int64} {od : UInt64} {mc ms : Nat} {post : Unit → KS → Int64 → Prop} {bk2 : Int32 → Int32 → KS → Int64 → Prop} (S : CallFix p m c cX7_restakes 6 s args WU RX7) (hg : GI D cI e0 A s s.heap) (hr : meth.sig.returnType = none) (hlk : meth.locks = false) (hout : ∀ x ∈ c.exceptionTable.toList, False) (hbk2 : ∀ {H : Heap} {locs : List Loc} {ls : Array Slot} {l1 : Int32} {l2 : Int32} {M : KS} {ap : Int64}, va_S A s.heap H locs → HT D cI e0 A ad K M ap o od H → lv_has ls 6 [(0, .ref (ad 3 0)), (1, .int l1), (2, .int l2)] → bk2 l1 l2 M ap → W p l e ({ frames := 1, cells := mc, slots := ms, locals := 23 } : Room) s m args below meth c H locs 0 0 (MQQ below (qM D cI e0 A ad K o od rV post) xN args s mc ms A) (F0 m 2 ls [])) : ∀ n : Nat, ∀ {H : Heap} {locs : List Loc} {ls : Array Slot} {l1 : Int32} {l2 : Int32} {l3 : Int32} {M : KS} {ap : Int64}, va_S A s.heap H locs → HT D cI e0 A ad K M ap o od H → lv_has ls 6 [(0, .ref (ad 3 0)), (1, .int l1), (2, .int l2), (3, .int l3)] → wX7_restakes_9 post bk2 n l1 l2 l3 M ap → W p l e ({ frames := 1, cells := mc, slots := ms, locals := 23 } : Room) s m args below meth c H locs 0 0 (MQQ below (qM D cI e0 A ad K o od rV post) xN args s mc ms A) (F0 m 9 ls []) := by
  intro n
  induction n with
  | zero => intros; exact False.elim (by assumption)
  | succ n ih =>
    intro H locs ls l1 l2 l3 M ap hS hw hl h
    unfold wX7_restakes_9 at h
    refine lv_iload_n S.1 S.2.1 dX7_restakes_9 rfl (lv_at hl 3 rfl) ?_
    refine lv_aload_n S.1 S.2.1 dX7_restakes_10 rfl (lv_at hl 0 rfl) ?_
    refine g3_21 S hg hw u1065 dX7_restakes_11 ?_
    refine lv_iconst (v := 2) S.1 S.2.1 dX7_restakes_14 (by decide) ?_
    refine lv_iload_n S.1 S.2.1 dX7_restakes_15 rfl (lv_at hl 1 rfl) ?_
    refine lv_imul S.1 S.2.1 dX7_restakes_16 ?_
    refine lv_iload_n S.1 S.2.1 dX7_restakes_17 rfl (lv_at hl 2 rfl) ?_
    refine lv_iadd S.1 S.2.1 dX7_restakes_18 ?_
    obtain ⟨g2, h⟩ := h
    refine a16 S hg hw rfl g2 dX7_restakes_19 ?_
    refine lv_icmp_ge (tgt := 136) S.1 S.2.1 dX7_restakes_20 (by decide) (fun c3 => ?_) (fun c3 => ?_)
    · have h := h.1 c3
      refine lv_iinc (v := l2 + 1) (lv' := [(2, .int (l2 + 1)), (0, .ref (ad 3 0)), (1, .int l1), (3, .int l3)]) S.1 S.2.1 dX7_restakes_136 hl (k := 2) rfl rfl (by decide) rfl (fun ls hl => ?_)
      refine lv_goto (tgt := 2) S.1 S.2.1 dX7_restakes_139 (by decide) ?_
      have hl := lv_sub hl (l' := [(0, .ref (ad 3 0)), (1, .int l1), (2, .int (l2 + 1))]) [1, 2, 0] rfl
      exact hbk2 hS hw hl h
    · have h := h.2 c3
      refine lv_aload_n S.1 S.2.1 dX7_restakes_23 rfl (lv_at hl 0 rfl) ?_
      refine g3_22 S hg hw u1066 dX7_restakes_24 ?_
      refine lv_bipush (v := 8) S.1 S.2.1 dX7_restakes_27 (by decide) ?_
      refine lv_iconst (v := 2) S.1 S.2.1 dX7_restakes_29 (by decide) ?_
      refine lv_iload_n S.1 S.2.1 dX7_restakes_30 rfl (lv_at hl 1 rfl) ?_
      refine lv_imul S.1 S.2.1 dX7_restakes_31 ?_
      refine lv_iload_n S.1 S.2.1 dX7_restakes_32 rfl (lv_at hl 2 rfl) ?_
      refine lv_iadd S.1 S.2.1 dX7_restakes_33 ?_
      refine lv_imul S.1 S.2.1 dX7_restakes_34 ?_
      refine lv_iload_n S.1 S.2.1 dX7_restakes_35 rfl (lv_at hl 3 rfl) ?_
      refine lv_iadd S.1 S.2.1 dX7_restakes_36 ?_
      obtain ⟨g4, h⟩ := h
      refine a16 S hg hw rfl g4 dX7_restakes_37 ?_
      refine lv_topi (fun x5 ex5 => ?_)
      have h := h x5 ex5
      refine lv_istore (lv' := [(4, .int x5), (0, .ref (ad 3 0)), (1, .int l1), (2, .int l2), (3, .int l3)]) S.1 S.2.1 dX7_restakes_38 hl (by decide) rfl (fun ls hl => ?_)
      refine lv_iload_n S.1 S.2.1 dX7_restakes_40 rfl (lv_at hl 3 rfl) ?_
      refine lv_if_ne (tgt := 53) S.1 S.2.1 dX7_restakes_41 (by decide) (fun c6 => ?_) (fun c6 => ?_)
      · have h := h.1 c6
        refine lv_aload_n S.1 S.2.1 dX7_restakes_53 rfl (lv_at hl 1 rfl) ?_
        refine g3_15 S hg hw u1059 dX7_restakes_54 ?_
        refine lv_iload_n S.1 S.2.1 dX7_restakes_57 rfl (lv_at hl 2 rfl) ?_
        obtain ⟨g7, h⟩ := h
        refine a16 S hg hw rfl g7 dX7_restakes_58 ?_
        have hl := lv_sub hl (l' := [(0, .ref (ad 3 0)), (1, .int l1), (2, .int l2), (3, .int l3), (4, .int x5)]) [1, 2, 3, 4, 0] rfl
        exact bX7_restakes_59 S hg hr hlk hout hbk2 ih hS hw hl h
      · have h := h.2 c6
        refine lv_aload_n S.1 S.2.1 dX7_restakes_44 rfl (lv_at hl 1 rfl) ?_
        refine g3_14 S hg hw u1058 dX7_restakes_45 ?_
        refine lv_iload_n S.1 S.2.1 dX7_restakes_48 rfl (lv_at hl 2 rfl) ?_
        obtain ⟨g16, h⟩ := h
        refine a16 S hg hw rfl g16 dX7_restakes_49 ?_
        refine lv_goto (tgt := 59) S.1 S.2.1 dX7_restakes_50 (by decide) ?_
        have hl := lv_sub hl (l' := [(0, .ref (ad 3 0)), (1, .int l1), (2, .int l2), (3, .int l3), (4, .int x5)]) [1, 2, 3, 4, 0] rfl
        exact bX7_restakes_59 S hg hr hlk hout hbk2 ih hS hw hl h
def wX7_restakes_2 (post : Unit → KS → Int64 → Prop) : Nat → Int32 → Int32 → KS → Int64 → Prop
  | 0 => fun _ _ _ _ => False
  | n + 1 => fun l1 l2 M ap => ((2 ≤ l2 → (post () M ap)) ∧ (¬ 2 ≤ l2 → (∃ n1 : Nat, wX7_restakes_9 post (wX7_restakes_2 post n) n1 l1 l2 0 M ap)))
set_option maxHeartbeats 4000000 in
set_option maxRecDepth 100000 in
theorem bX7_restakes_2 {p : Program} {l : Launch} {e : Env} {s : State} {m : MethodId} {args : Array Value} {below : List Frame} {meth : Method} {c : Code} {D : va_G} {cI : Nat → ClassId} {e0 : Nat} {A : Nat → Prop} {ad : Nat → Nat → Nat} {K : KS} {o : Int64} {od : UInt64} {mc ms : Nat} {post : Unit → KS → Int64 → Prop} (S : CallFix p m c cX7_restakes 6 s args WU RX7) (hg : GI D cI e0 A s s.heap) (hr : meth.sig.returnType = none) (hlk : meth.locks = false) (hout : ∀ x ∈ c.exceptionTable.toList, False) : ∀ n : Nat, ∀ {H : Heap} {locs : List Loc} {ls : Array Slot} {l1 : Int32} {l2 : Int32} {M : KS} {ap : Int64}, va_S A s.heap H locs → HT D cI e0 A ad K M ap o od H → lv_has ls 6 [(0, .ref (ad 3 0)), (1, .int l1), (2, .int l2)] → wX7_restakes_2 post n l1 l2 M ap → W p l e ({ frames := 1, cells := mc, slots := ms, locals := 23 } : Room) s m args below meth c H locs 0 0 (MQQ below (qM D cI e0 A ad K o od rV post) xN args s mc ms A) (F0 m 2 ls []) := by
  intro n
  induction n with
  | zero => intros; exact False.elim (by assumption)
  | succ n ih =>
    intro H locs ls l1 l2 M ap hS hw hl h
    unfold wX7_restakes_2 at h
    refine lv_iload_n S.1 S.2.1 dX7_restakes_2 rfl (lv_at hl 2 rfl) ?_
    refine lv_iconst (v := 2) S.1 S.2.1 dX7_restakes_3 (by decide) ?_
    refine lv_icmp_ge (tgt := 142) S.1 S.2.1 dX7_restakes_4 (by decide) (fun c1 => ?_) (fun c1 => ?_)
    · have h := h.1 c1
      exact r_vret (y := yX7_restakes) S hr hlk hS (by omega) (by omega) dX7_restakes_142 ⟨(), _, _, rfl, h, hw⟩
    · have h := h.2 c1
      refine lv_iconst (v := 0) S.1 S.2.1 dX7_restakes_7 (by decide) ?_
      refine lv_istore_n (lv' := [(3, .int 0), (0, .ref (ad 3 0)), (1, .int l1), (2, .int l2)]) S.1 S.2.1 dX7_restakes_8 rfl hl (by decide) rfl (fun ls hl => ?_)
      have hl := lv_sub hl (l' := [(0, .ref (ad 3 0)), (1, .int l1), (2, .int l2), (3, .int 0)]) [1, 2, 3, 0] rfl
      obtain ⟨n1, h⟩ := h
      exact bX7_restakes_9 S hg hr hlk hout ih n1 hS hw hl h
def wpX7_restakes (post : Unit → KS → Int64 → Prop) (M : KS) (ap : Int64) (p1 : Int32) : Prop := ∃ n1 : Nat, wX7_restakes_2 post n1 p1 0 M ap
theorem hdX7_restakes : yX7_restakes.cls ≠ "java/lang/invoke/MethodHandle" ∧ yX7_restakes.cls ≠ "java/lang/invoke/VarHandle" ∧ (parseMethodDescriptor yX7_restakes.desc).map (fun d => d.parameters.length) = some 1 := by decide +kernel
set_option maxHeartbeats 4000000 in
set_option maxRecDepth 100000 in
theorem mtX7_restakes {l : Launch} {D : va_G} {cI : Nat → ClassId} {e0 : Nat} {A : Nat → Prop} {ad : Nat → Nat → Nat} {K M : KS} {ap o : Int64} {od : UInt64} {mc ms : Nat} {p1 : Int32} {post : Unit → KS → Int64 → Prop} (h : wpX7_restakes post M ap p1) : CM l D cI e0 A yX7_restakes cX7_restakes 6 none 1 23 mc ms [.ref (ad 3 0), .int p1] (HT D cI e0 A ad K M ap o od) (qM D cI e0 A ad K o od rV post) xN := by
  refine CM.of (by decide) (Nat.le_of_ble_eq_true rfl) (fun p e s m below meth c ls FX hw hS hl => ?_)
  obtain ⟨S, hg, hr, hlk, hnm, hout⟩ := FX
  have hl : lv_has ls 6 [(0, .ref (ad 3 0)), (1, .int p1)] := hl
  unfold wpX7_restakes at h
  refine lv_iconst (v := 0) S.1 S.2.1 dX7_restakes_0 (by decide) ?_
  refine lv_istore_n (lv' := [(2, .int 0), (0, .ref (ad 3 0)), (1, .int p1)]) S.1 S.2.1 dX7_restakes_1 rfl hl (by decide) rfl (fun ls hl => ?_)
  have hl := lv_sub hl (l' := [(0, .ref (ad 3 0)), (1, .int p1), (2, .int 0)]) [1, 2, 0] rfl
  obtain ⟨n1, h⟩ := h
  exact bX7_restakes_2 S hg hr hlk hout n1 hS hw hl h

-- X7.rollBack
theorem dX7_rollBack_0 : decode cX7_rollBack 0 = .ok (.aload_n 0, 1) := by decide +kernel
theorem dX7_rollBack_1 : decode cX7_rollBack 1 = .ok (.iconst 0, 1) := by decide +kernel
theorem dX7_rollBack_2 : decode cX7_rollBack 2 = .ok (.putfield 98, 3) := by decide +kernel
theorem dX7_rollBack_5 : decode cX7_rollBack 5 = .ok (.aload_n 0, 1) := by decide +kernel
theorem dX7_rollBack_6 : decode cX7_rollBack 6 = .ok (.iload_n 1, 1) := by decide +kernel
theorem dX7_rollBack_7 : decode cX7_rollBack 7 = .ok (.iload_n 2, 1) := by decide +kernel
theorem dX7_rollBack_8 : decode cX7_rollBack 8 = .ok (.invokevirtual 167, 3) := by decide +kernel
theorem dX7_rollBack_11 : decode cX7_rollBack 11 = .ok (.ifCond .ne 9, 3) := by decide +kernel
theorem dX7_rollBack_14 : decode cX7_rollBack 14 = .ok (.aload_n 0, 1) := by decide +kernel
theorem dX7_rollBack_15 : decode cX7_rollBack 15 = .ok (.iconst 1, 1) := by decide +kernel
theorem dX7_rollBack_16 : decode cX7_rollBack 16 = .ok (.invokevirtual 106, 3) := by decide +kernel
theorem dX7_rollBack_19 : decode cX7_rollBack 19 = .ok (.ireturn, 1) := by decide +kernel
theorem dX7_rollBack_20 : decode cX7_rollBack 20 = .ok (.aload_n 0, 1) := by decide +kernel
theorem dX7_rollBack_21 : decode cX7_rollBack 21 = .ok (.getfield 38, 3) := by decide +kernel
theorem dX7_rollBack_24 : decode cX7_rollBack 24 = .ok (.iload_n 1, 1) := by decide +kernel
theorem dX7_rollBack_25 : decode cX7_rollBack 25 = .ok (.caload, 1) := by decide +kernel
theorem dX7_rollBack_26 : decode cX7_rollBack 26 = .ok (.bipush 111, 2) := by decide +kernel
theorem dX7_rollBack_28 : decode cX7_rollBack 28 = .ok (.if_icmp .eq 14, 3) := by decide +kernel
theorem dX7_rollBack_31 : decode cX7_rollBack 31 = .ok (.aload_n 0, 1) := by decide +kernel
theorem dX7_rollBack_32 : decode cX7_rollBack 32 = .ok (.getfield 38, 3) := by decide +kernel
theorem dX7_rollBack_35 : decode cX7_rollBack 35 = .ok (.iload_n 1, 1) := by decide +kernel
theorem dX7_rollBack_36 : decode cX7_rollBack 36 = .ok (.caload, 1) := by decide +kernel
theorem dX7_rollBack_37 : decode cX7_rollBack 37 = .ok (.bipush 102, 2) := by decide +kernel
theorem dX7_rollBack_39 : decode cX7_rollBack 39 = .ok (.if_icmp .ne 9, 3) := by decide +kernel
theorem dX7_rollBack_42 : decode cX7_rollBack 42 = .ok (.aload_n 0, 1) := by decide +kernel
theorem dX7_rollBack_43 : decode cX7_rollBack 43 = .ok (.iconst 2, 1) := by decide +kernel
theorem dX7_rollBack_44 : decode cX7_rollBack 44 = .ok (.invokevirtual 106, 3) := by decide +kernel
theorem dX7_rollBack_47 : decode cX7_rollBack 47 = .ok (.ireturn, 1) := by decide +kernel
theorem dX7_rollBack_48 : decode cX7_rollBack 48 = .ok (.aload_n 0, 1) := by decide +kernel
theorem dX7_rollBack_49 : decode cX7_rollBack 49 = .ok (.aload_n 0, 1) := by decide +kernel
theorem dX7_rollBack_50 : decode cX7_rollBack 50 = .ok (.getfield 32, 3) := by decide +kernel
theorem dX7_rollBack_53 : decode cX7_rollBack 53 = .ok (.iload_n 1, 1) := by decide +kernel
theorem dX7_rollBack_54 : decode cX7_rollBack 54 = .ok (.iaload, 1) := by decide +kernel
theorem dX7_rollBack_55 : decode cX7_rollBack 55 = .ok (.iload_n 1, 1) := by decide +kernel
theorem dX7_rollBack_56 : decode cX7_rollBack 56 = .ok (.invokevirtual 137, 3) := by decide +kernel
theorem dX7_rollBack_59 : decode cX7_rollBack 59 = .ok (.ifCond .ne 17, 3) := by decide +kernel
theorem dX7_rollBack_62 : decode cX7_rollBack 62 = .ok (.aload_n 0, 1) := by decide +kernel
theorem dX7_rollBack_63 : decode cX7_rollBack 63 = .ok (.aload_n 0, 1) := by decide +kernel
theorem dX7_rollBack_64 : decode cX7_rollBack 64 = .ok (.getfield 35, 3) := by decide +kernel
theorem dX7_rollBack_67 : decode cX7_rollBack 67 = .ok (.iload_n 1, 1) := by decide +kernel
theorem dX7_rollBack_68 : decode cX7_rollBack 68 = .ok (.iaload, 1) := by decide +kernel
theorem dX7_rollBack_69 : decode cX7_rollBack 69 = .ok (.iload_n 1, 1) := by decide +kernel
theorem dX7_rollBack_70 : decode cX7_rollBack 70 = .ok (.invokevirtual 137, 3) := by decide +kernel
theorem dX7_rollBack_73 : decode cX7_rollBack 73 = .ok (.ifCond .eq 9, 3) := by decide +kernel
theorem dX7_rollBack_76 : decode cX7_rollBack 76 = .ok (.aload_n 0, 1) := by decide +kernel
theorem dX7_rollBack_77 : decode cX7_rollBack 77 = .ok (.iconst 3, 1) := by decide +kernel
theorem dX7_rollBack_78 : decode cX7_rollBack 78 = .ok (.invokevirtual 106, 3) := by decide +kernel
theorem dX7_rollBack_81 : decode cX7_rollBack 81 = .ok (.ireturn, 1) := by decide +kernel
theorem dX7_rollBack_82 : decode cX7_rollBack 82 = .ok (.iconst 0, 1) := by decide +kernel
theorem dX7_rollBack_83 : decode cX7_rollBack 83 = .ok (.istore_n 3, 1) := by decide +kernel
theorem dX7_rollBack_84 : decode cX7_rollBack 84 = .ok (.aload_n 0, 1) := by decide +kernel
theorem dX7_rollBack_85 : decode cX7_rollBack 85 = .ok (.getfield 38, 3) := by decide +kernel
theorem dX7_rollBack_88 : decode cX7_rollBack 88 = .ok (.iload_n 1, 1) := by decide +kernel
theorem dX7_rollBack_89 : decode cX7_rollBack 89 = .ok (.caload, 1) := by decide +kernel
theorem dX7_rollBack_90 : decode cX7_rollBack 90 = .ok (.bipush 101, 2) := by decide +kernel
theorem dX7_rollBack_92 : decode cX7_rollBack 92 = .ok (.if_icmp .ne 14, 3) := by decide +kernel
theorem dX7_rollBack_95 : decode cX7_rollBack 95 = .ok (.aload_n 0, 1) := by decide +kernel
theorem dX7_rollBack_96 : decode cX7_rollBack 96 = .ok (.iload_n 1, 1) := by decide +kernel
theorem dX7_rollBack_97 : decode cX7_rollBack 97 = .ok (.invokevirtual 173, 3) := by decide +kernel
theorem dX7_rollBack_100 : decode cX7_rollBack 100 = .ok (.istore_n 3, 1) := by decide +kernel
theorem dX7_rollBack_101 : decode cX7_rollBack 101 = .ok (.aload_n 0, 1) := by decide +kernel
theorem dX7_rollBack_102 : decode cX7_rollBack 102 = .ok (.iload_n 1, 1) := by decide +kernel
theorem dX7_rollBack_103 : decode cX7_rollBack 103 = .ok (.invokevirtual 176, 3) := by decide +kernel
theorem dX7_rollBack_106 : decode cX7_rollBack 106 = .ok (.aload_n 0, 1) := by decide +kernel
theorem dX7_rollBack_107 : decode cX7_rollBack 107 = .ok (.getfield 38, 3) := by decide +kernel
theorem dX7_rollBack_110 : decode cX7_rollBack 110 = .ok (.iload_n 1, 1) := by decide +kernel
theorem dX7_rollBack_111 : decode cX7_rollBack 111 = .ok (.bipush 103, 2) := by decide +kernel
theorem dX7_rollBack_113 : decode cX7_rollBack 113 = .ok (.castore, 1) := by decide +kernel
theorem dX7_rollBack_114 : decode cX7_rollBack 114 = .ok (.bipush 24, 2) := by decide +kernel
theorem dX7_rollBack_116 : decode cX7_rollBack 116 = .ok (.bipush 6, 2) := by decide +kernel
theorem dX7_rollBack_118 : decode cX7_rollBack 118 = .ok (.iload_n 1, 1) := by decide +kernel
theorem dX7_rollBack_119 : decode cX7_rollBack 119 = .ok (.imul, 1) := by decide +kernel
theorem dX7_rollBack_120 : decode cX7_rollBack 120 = .ok (.iload_n 2, 1) := by decide +kernel
theorem dX7_rollBack_121 : decode cX7_rollBack 121 = .ok (.iadd, 1) := by decide +kernel
theorem dX7_rollBack_122 : decode cX7_rollBack 122 = .ok (.imul, 1) := by decide +kernel
theorem dX7_rollBack_123 : decode cX7_rollBack 123 = .ok (.istore 4, 2) := by decide +kernel
theorem dX7_rollBack_125 : decode cX7_rollBack 125 = .ok (.aload_n 0, 1) := by decide +kernel
theorem dX7_rollBack_126 : decode cX7_rollBack 126 = .ok (.getfield 44, 3) := by decide +kernel
theorem dX7_rollBack_129 : decode cX7_rollBack 129 = .ok (.iconst 2, 1) := by decide +kernel
theorem dX7_rollBack_130 : decode cX7_rollBack 130 = .ok (.iload_n 1, 1) := by decide +kernel
theorem dX7_rollBack_131 : decode cX7_rollBack 131 = .ok (.imul, 1) := by decide +kernel
theorem dX7_rollBack_132 : decode cX7_rollBack 132 = .ok (.aload_n 0, 1) := by decide +kernel
theorem dX7_rollBack_133 : decode cX7_rollBack 133 = .ok (.getfield 71, 3) := by decide +kernel
theorem dX7_rollBack_136 : decode cX7_rollBack 136 = .ok (.iload 4, 2) := by decide +kernel
theorem dX7_rollBack_138 : decode cX7_rollBack 138 = .ok (.iaload, 1) := by decide +kernel
theorem dX7_rollBack_139 : decode cX7_rollBack 139 = .ok (.iastore, 1) := by decide +kernel
theorem dX7_rollBack_140 : decode cX7_rollBack 140 = .ok (.aload_n 0, 1) := by decide +kernel
theorem dX7_rollBack_141 : decode cX7_rollBack 141 = .ok (.getfield 44, 3) := by decide +kernel
theorem dX7_rollBack_144 : decode cX7_rollBack 144 = .ok (.iconst 2, 1) := by decide +kernel
theorem dX7_rollBack_145 : decode cX7_rollBack 145 = .ok (.iload_n 1, 1) := by decide +kernel
theorem dX7_rollBack_146 : decode cX7_rollBack 146 = .ok (.imul, 1) := by decide +kernel
theorem dX7_rollBack_147 : decode cX7_rollBack 147 = .ok (.iconst 1, 1) := by decide +kernel
theorem dX7_rollBack_148 : decode cX7_rollBack 148 = .ok (.iadd, 1) := by decide +kernel
theorem dX7_rollBack_149 : decode cX7_rollBack 149 = .ok (.aload_n 0, 1) := by decide +kernel
theorem dX7_rollBack_150 : decode cX7_rollBack 150 = .ok (.getfield 71, 3) := by decide +kernel
theorem dX7_rollBack_153 : decode cX7_rollBack 153 = .ok (.iload 4, 2) := by decide +kernel
theorem dX7_rollBack_155 : decode cX7_rollBack 155 = .ok (.iconst 1, 1) := by decide +kernel
theorem dX7_rollBack_156 : decode cX7_rollBack 156 = .ok (.iadd, 1) := by decide +kernel
theorem dX7_rollBack_157 : decode cX7_rollBack 157 = .ok (.iaload, 1) := by decide +kernel
theorem dX7_rollBack_158 : decode cX7_rollBack 158 = .ok (.iastore, 1) := by decide +kernel
theorem dX7_rollBack_159 : decode cX7_rollBack 159 = .ok (.aload_n 0, 1) := by decide +kernel
theorem dX7_rollBack_160 : decode cX7_rollBack 160 = .ok (.getfield 47, 3) := by decide +kernel
theorem dX7_rollBack_163 : decode cX7_rollBack 163 = .ok (.iload_n 1, 1) := by decide +kernel
theorem dX7_rollBack_164 : decode cX7_rollBack 164 = .ok (.aload_n 0, 1) := by decide +kernel
theorem dX7_rollBack_165 : decode cX7_rollBack 165 = .ok (.getfield 71, 3) := by decide +kernel
theorem dX7_rollBack_168 : decode cX7_rollBack 168 = .ok (.iload 4, 2) := by decide +kernel
theorem dX7_rollBack_170 : decode cX7_rollBack 170 = .ok (.iconst 2, 1) := by decide +kernel
theorem dX7_rollBack_171 : decode cX7_rollBack 171 = .ok (.iadd, 1) := by decide +kernel
theorem dX7_rollBack_172 : decode cX7_rollBack 172 = .ok (.iaload, 1) := by decide +kernel
theorem dX7_rollBack_173 : decode cX7_rollBack 173 = .ok (.iastore, 1) := by decide +kernel
theorem dX7_rollBack_174 : decode cX7_rollBack 174 = .ok (.aload_n 0, 1) := by decide +kernel
theorem dX7_rollBack_175 : decode cX7_rollBack 175 = .ok (.getfield 50, 3) := by decide +kernel
theorem dX7_rollBack_178 : decode cX7_rollBack 178 = .ok (.iload_n 1, 1) := by decide +kernel
theorem dX7_rollBack_179 : decode cX7_rollBack 179 = .ok (.aload_n 0, 1) := by decide +kernel
theorem dX7_rollBack_180 : decode cX7_rollBack 180 = .ok (.getfield 71, 3) := by decide +kernel
theorem dX7_rollBack_183 : decode cX7_rollBack 183 = .ok (.iload 4, 2) := by decide +kernel
theorem dX7_rollBack_185 : decode cX7_rollBack 185 = .ok (.iconst 3, 1) := by decide +kernel
theorem dX7_rollBack_186 : decode cX7_rollBack 186 = .ok (.iadd, 1) := by decide +kernel
theorem dX7_rollBack_187 : decode cX7_rollBack 187 = .ok (.iaload, 1) := by decide +kernel
theorem dX7_rollBack_188 : decode cX7_rollBack 188 = .ok (.iastore, 1) := by decide +kernel
theorem dX7_rollBack_189 : decode cX7_rollBack 189 = .ok (.aload_n 0, 1) := by decide +kernel
theorem dX7_rollBack_190 : decode cX7_rollBack 190 = .ok (.getfield 62, 3) := by decide +kernel
theorem dX7_rollBack_193 : decode cX7_rollBack 193 = .ok (.iload_n 1, 1) := by decide +kernel
theorem dX7_rollBack_194 : decode cX7_rollBack 194 = .ok (.aload_n 0, 1) := by decide +kernel
theorem dX7_rollBack_195 : decode cX7_rollBack 195 = .ok (.getfield 71, 3) := by decide +kernel
theorem dX7_rollBack_198 : decode cX7_rollBack 198 = .ok (.iload 4, 2) := by decide +kernel
theorem dX7_rollBack_200 : decode cX7_rollBack 200 = .ok (.bipush 20, 2) := by decide +kernel
theorem dX7_rollBack_202 : decode cX7_rollBack 202 = .ok (.iadd, 1) := by decide +kernel
theorem dX7_rollBack_203 : decode cX7_rollBack 203 = .ok (.iaload, 1) := by decide +kernel
theorem dX7_rollBack_204 : decode cX7_rollBack 204 = .ok (.iastore, 1) := by decide +kernel
theorem dX7_rollBack_205 : decode cX7_rollBack 205 = .ok (.iconst 0, 1) := by decide +kernel
theorem dX7_rollBack_206 : decode cX7_rollBack 206 = .ok (.istore 5, 2) := by decide +kernel
theorem dX7_rollBack_208 : decode cX7_rollBack 208 = .ok (.iload 5, 2) := by decide +kernel
theorem dX7_rollBack_210 : decode cX7_rollBack 210 = .ok (.bipush 16, 2) := by decide +kernel
theorem dX7_rollBack_212 : decode cX7_rollBack 212 = .ok (.if_icmp .ge 62, 3) := by decide +kernel
theorem dX7_rollBack_215 : decode cX7_rollBack 215 = .ok (.aload_n 0, 1) := by decide +kernel
theorem dX7_rollBack_216 : decode cX7_rollBack 216 = .ok (.getfield 59, 3) := by decide +kernel
theorem dX7_rollBack_219 : decode cX7_rollBack 219 = .ok (.bipush 16, 2) := by decide +kernel
theorem dX7_rollBack_221 : decode cX7_rollBack 221 = .ok (.iload_n 1, 1) := by decide +kernel
theorem dX7_rollBack_222 : decode cX7_rollBack 222 = .ok (.imul, 1) := by decide +kernel
theorem dX7_rollBack_223 : decode cX7_rollBack 223 = .ok (.iload 5, 2) := by decide +kernel
theorem dX7_rollBack_225 : decode cX7_rollBack 225 = .ok (.iadd, 1) := by decide +kernel
theorem dX7_rollBack_226 : decode cX7_rollBack 226 = .ok (.aload_n 0, 1) := by decide +kernel
theorem dX7_rollBack_227 : decode cX7_rollBack 227 = .ok (.getfield 71, 3) := by decide +kernel
theorem dX7_rollBack_230 : decode cX7_rollBack 230 = .ok (.iload 4, 2) := by decide +kernel
theorem dX7_rollBack_232 : decode cX7_rollBack 232 = .ok (.iconst 4, 1) := by decide +kernel
theorem dX7_rollBack_233 : decode cX7_rollBack 233 = .ok (.iadd, 1) := by decide +kernel
theorem dX7_rollBack_234 : decode cX7_rollBack 234 = .ok (.iload 5, 2) := by decide +kernel
theorem dX7_rollBack_236 : decode cX7_rollBack 236 = .ok (.iadd, 1) := by decide +kernel
theorem dX7_rollBack_237 : decode cX7_rollBack 237 = .ok (.iaload, 1) := by decide +kernel
theorem dX7_rollBack_238 : decode cX7_rollBack 238 = .ok (.iastore, 1) := by decide +kernel
theorem dX7_rollBack_239 : decode cX7_rollBack 239 = .ok (.aload_n 0, 1) := by decide +kernel
theorem dX7_rollBack_240 : decode cX7_rollBack 240 = .ok (.getfield 65, 3) := by decide +kernel
theorem dX7_rollBack_243 : decode cX7_rollBack 243 = .ok (.bipush 16, 2) := by decide +kernel
theorem dX7_rollBack_245 : decode cX7_rollBack 245 = .ok (.iload_n 1, 1) := by decide +kernel
theorem dX7_rollBack_246 : decode cX7_rollBack 246 = .ok (.imul, 1) := by decide +kernel
theorem dX7_rollBack_247 : decode cX7_rollBack 247 = .ok (.iload 5, 2) := by decide +kernel
theorem dX7_rollBack_249 : decode cX7_rollBack 249 = .ok (.iadd, 1) := by decide +kernel
theorem dX7_rollBack_250 : decode cX7_rollBack 250 = .ok (.aload_n 0, 1) := by decide +kernel
theorem dX7_rollBack_251 : decode cX7_rollBack 251 = .ok (.getfield 74, 3) := by decide +kernel
theorem dX7_rollBack_254 : decode cX7_rollBack 254 = .ok (.bipush 16, 2) := by decide +kernel
theorem dX7_rollBack_256 : decode cX7_rollBack 256 = .ok (.bipush 6, 2) := by decide +kernel
theorem dX7_rollBack_258 : decode cX7_rollBack 258 = .ok (.iload_n 1, 1) := by decide +kernel
theorem dX7_rollBack_259 : decode cX7_rollBack 259 = .ok (.imul, 1) := by decide +kernel
theorem dX7_rollBack_260 : decode cX7_rollBack 260 = .ok (.iload_n 2, 1) := by decide +kernel
theorem dX7_rollBack_261 : decode cX7_rollBack 261 = .ok (.iadd, 1) := by decide +kernel
theorem dX7_rollBack_262 : decode cX7_rollBack 262 = .ok (.imul, 1) := by decide +kernel
theorem dX7_rollBack_263 : decode cX7_rollBack 263 = .ok (.iload 5, 2) := by decide +kernel
theorem dX7_rollBack_265 : decode cX7_rollBack 265 = .ok (.iadd, 1) := by decide +kernel
theorem dX7_rollBack_266 : decode cX7_rollBack 266 = .ok (.iaload, 1) := by decide +kernel
theorem dX7_rollBack_267 : decode cX7_rollBack 267 = .ok (.iastore, 1) := by decide +kernel
theorem dX7_rollBack_268 : decode cX7_rollBack 268 = .ok (.iinc 5 1, 3) := by decide +kernel
theorem dX7_rollBack_271 : decode cX7_rollBack 271 = .ok (.goto (-63), 3) := by decide +kernel
theorem dX7_rollBack_274 : decode cX7_rollBack 274 = .ok (.aload_n 0, 1) := by decide +kernel
theorem dX7_rollBack_275 : decode cX7_rollBack 275 = .ok (.getfield 68, 3) := by decide +kernel
theorem dX7_rollBack_278 : decode cX7_rollBack 278 = .ok (.iload_n 1, 1) := by decide +kernel
theorem dX7_rollBack_279 : decode cX7_rollBack 279 = .ok (.iload_n 2, 1) := by decide +kernel
theorem dX7_rollBack_280 : decode cX7_rollBack 280 = .ok (.iconst 1, 1) := by decide +kernel
theorem dX7_rollBack_281 : decode cX7_rollBack 281 = .ok (.iadd, 1) := by decide +kernel
theorem dX7_rollBack_282 : decode cX7_rollBack 282 = .ok (.iastore, 1) := by decide +kernel
theorem dX7_rollBack_283 : decode cX7_rollBack 283 = .ok (.iload_n 3, 1) := by decide +kernel
theorem dX7_rollBack_284 : decode cX7_rollBack 284 = .ok (.ireturn, 1) := by decide +kernel
def wX7_rollBack_208 (post : Int32 → KS → Int64 → Prop) : Nat → Int32 → Int32 → Int32 → Int32 → Int32 → KS → Int64 → Prop
  | 0 => fun _ _ _ _ _ _ _ => False
  | n + 1 => fun l1 l2 l3 l4 l5 M ap => ((16 ≤ l5 → ((vp_in l1 8) ∧ (post l3 (k3 M 16 26 l1.toNatClampNeg (l2 + 1)) ap))) ∧ (¬ 16 ≤ l5 → ((vp_in ((l4 + 4) + l5) 1152) ∧ ((vp_in ((16 * l1) + l5) 128) ∧ ((vp_in ((16 * ((6 * l1) + l2)) + l5) 768) ∧ ((vp_in ((16 * l1) + l5) 128) ∧ (wX7_rollBack_208 post n l1 l2 l3 l4 (l5 + 1) (k3 (k3 M 16 23 (((16 * l1) + l5).toNatClampNeg) (M 16 27 (((l4 + 4) + l5).toNatClampNeg))) 16 25 (((16 * l1) + l5).toNatClampNeg) ((k3 M 16 23 (((16 * l1) + l5).toNatClampNeg) (M 16 27 (((l4 + 4) + l5).toNatClampNeg))) 16 28 (((16 * ((6 * l1) + l2)) + l5).toNatClampNeg))) ap)))))))
set_option maxHeartbeats 4000000 in
set_option maxRecDepth 100000 in
theorem bX7_rollBack_208 {p : Program} {l : Launch} {e : Env} {s : State} {m : MethodId} {args : Array Value} {below : List Frame} {meth : Method} {c : Code} {D : va_G} {cI : Nat → ClassId} {e0 : Nat} {A : Nat → Prop} {ad : Nat → Nat → Nat} {K : KS} {o : Int64} {od : UInt64} {mc ms : Nat} {post : Int32 → KS → Int64 → Prop} (S : CallFix p m c cX7_rollBack 6 s args WU RX7) (hg : GI D cI e0 A s s.heap) (hr : meth.sig.returnType = (some FieldType.int)) (hlk : meth.locks = false) (hout : ∀ x ∈ c.exceptionTable.toList, False) : ∀ n : Nat, ∀ {H : Heap} {locs : List Loc} {ls : Array Slot} {l1 : Int32} {l2 : Int32} {l3 : Int32} {l4 : Int32} {l5 : Int32} {M : KS} {ap : Int64}, va_S A s.heap H locs → HT D cI e0 A ad K M ap o od H → lv_has ls 6 [(0, .ref (ad 3 0)), (1, .int l1), (2, .int l2), (3, .int l3), (4, .int l4), (5, .int l5)] → wX7_rollBack_208 post n l1 l2 l3 l4 l5 M ap → W p l e ({ frames := 3, cells := mc, slots := ms, locals := 65 } : Room) s m args below meth c H locs 0 0 (MQQ below (qM D cI e0 A ad K o od rI post) xN args s mc ms A) (F0 m 208 ls []) := by
  intro n
  induction n with
  | zero => intros; exact False.elim (by assumption)
  | succ n ih =>
    intro H locs ls l1 l2 l3 l4 l5 M ap hS hw hl h
    unfold wX7_rollBack_208 at h
    refine lv_iload S.1 S.2.1 dX7_rollBack_208 (lv_at hl 5 rfl) ?_
    refine lv_bipush (v := 16) S.1 S.2.1 dX7_rollBack_210 (by decide) ?_
    refine lv_icmp_ge (tgt := 274) S.1 S.2.1 dX7_rollBack_212 (by decide) (fun c30 => ?_) (fun c30 => ?_)
    · have h := h.1 c30
      refine lv_aload_n S.1 S.2.1 dX7_rollBack_274 rfl (lv_at hl 0 rfl) ?_
      refine g3_26 S hg hw u1070 dX7_rollBack_275 ?_
      refine lv_iload_n S.1 S.2.1 dX7_rollBack_278 rfl (lv_at hl 1 rfl) ?_
      refine lv_iload_n S.1 S.2.1 dX7_rollBack_279 rfl (lv_at hl 2 rfl) ?_
      refine lv_iconst (v := 1) S.1 S.2.1 dX7_rollBack_280 (by decide) ?_
      refine lv_iadd S.1 S.2.1 dX7_rollBack_281 ?_
      obtain ⟨g31, h⟩ := h
      refine s16 S hg hS hw rfl g31 dX7_rollBack_282 (fun H locs hw hS => ?_)
      refine lv_iload_n S.1 S.2.1 dX7_rollBack_283 rfl (lv_at hl 3 rfl) ?_
      exact r_iret (y := yX7_rollBack) S hr rfl hlk hS (by omega) (by omega) dX7_rollBack_284 ⟨l3, _, _, rfl, h, hw⟩
    · have h := h.2 c30
      refine lv_aload_n S.1 S.2.1 dX7_rollBack_215 rfl (lv_at hl 0 rfl) ?_
      refine g3_23 S hg hw u1067 dX7_rollBack_216 ?_
      refine lv_bipush (v := 16) S.1 S.2.1 dX7_rollBack_219 (by decide) ?_
      refine lv_iload_n S.1 S.2.1 dX7_rollBack_221 rfl (lv_at hl 1 rfl) ?_
      refine lv_imul S.1 S.2.1 dX7_rollBack_222 ?_
      refine lv_iload S.1 S.2.1 dX7_rollBack_223 (lv_at hl 5 rfl) ?_
      refine lv_iadd S.1 S.2.1 dX7_rollBack_225 ?_
      refine lv_aload_n S.1 S.2.1 dX7_rollBack_226 rfl (lv_at hl 0 rfl) ?_
      refine g3_27 S hg hw u1071 dX7_rollBack_227 ?_
      refine lv_iload S.1 S.2.1 dX7_rollBack_230 (lv_at hl 4 rfl) ?_
      refine lv_iconst (v := 4) S.1 S.2.1 dX7_rollBack_232 (by decide) ?_
      refine lv_iadd S.1 S.2.1 dX7_rollBack_233 ?_
      refine lv_iload S.1 S.2.1 dX7_rollBack_234 (lv_at hl 5 rfl) ?_
      refine lv_iadd S.1 S.2.1 dX7_rollBack_236 ?_
      obtain ⟨g32, h⟩ := h
      refine a16 S hg hw rfl g32 dX7_rollBack_237 ?_
      obtain ⟨g33, h⟩ := h
      refine s16 S hg hS hw rfl g33 dX7_rollBack_238 (fun H locs hw hS => ?_)
      refine lv_aload_n S.1 S.2.1 dX7_rollBack_239 rfl (lv_at hl 0 rfl) ?_
      refine g3_25 S hg hw u1069 dX7_rollBack_240 ?_
      refine lv_bipush (v := 16) S.1 S.2.1 dX7_rollBack_243 (by decide) ?_
      refine lv_iload_n S.1 S.2.1 dX7_rollBack_245 rfl (lv_at hl 1 rfl) ?_
      refine lv_imul S.1 S.2.1 dX7_rollBack_246 ?_
      refine lv_iload S.1 S.2.1 dX7_rollBack_247 (lv_at hl 5 rfl) ?_
      refine lv_iadd S.1 S.2.1 dX7_rollBack_249 ?_
      refine lv_aload_n S.1 S.2.1 dX7_rollBack_250 rfl (lv_at hl 0 rfl) ?_
      refine g3_28 S hg hw u1072 dX7_rollBack_251 ?_
      refine lv_bipush (v := 16) S.1 S.2.1 dX7_rollBack_254 (by decide) ?_
      refine lv_bipush (v := 6) S.1 S.2.1 dX7_rollBack_256 (by decide) ?_
      refine lv_iload_n S.1 S.2.1 dX7_rollBack_258 rfl (lv_at hl 1 rfl) ?_
      refine lv_imul S.1 S.2.1 dX7_rollBack_259 ?_
      refine lv_iload_n S.1 S.2.1 dX7_rollBack_260 rfl (lv_at hl 2 rfl) ?_
      refine lv_iadd S.1 S.2.1 dX7_rollBack_261 ?_
      refine lv_imul S.1 S.2.1 dX7_rollBack_262 ?_
      refine lv_iload S.1 S.2.1 dX7_rollBack_263 (lv_at hl 5 rfl) ?_
      refine lv_iadd S.1 S.2.1 dX7_rollBack_265 ?_
      obtain ⟨g34, h⟩ := h
      refine a16 S hg hw rfl g34 dX7_rollBack_266 ?_
      obtain ⟨g35, h⟩ := h
      refine s16 S hg hS hw rfl g35 dX7_rollBack_267 (fun H locs hw hS => ?_)
      refine lv_iinc (v := l5 + 1) (lv' := [(5, .int (l5 + 1)), (0, .ref (ad 3 0)), (1, .int l1), (2, .int l2), (3, .int l3), (4, .int l4)]) S.1 S.2.1 dX7_rollBack_268 hl (k := 5) rfl rfl (by decide) rfl (fun ls hl => ?_)
      refine lv_goto (tgt := 208) S.1 S.2.1 dX7_rollBack_271 (by decide) ?_
      have hl := lv_sub hl (l' := [(0, .ref (ad 3 0)), (1, .int l1), (2, .int l2), (3, .int l3), (4, .int l4), (5, .int (l5 + 1))]) [1, 2, 3, 4, 5, 0] rfl
      exact ih hS hw hl h
def wX7_rollBack_106 (post : Int32 → KS → Int64 → Prop) (l1 : Int32) (l2 : Int32) (l3 : Int32) (M : KS) (ap : Int64) : Prop := (vp_in l1 8) ∧ ((vp_in (24 * ((6 * l1) + l2)) 1152) ∧ ((vp_in (2 * l1) 16) ∧ ((vp_in ((24 * ((6 * l1) + l2)) + 1) 1152) ∧ ((vp_in ((2 * l1) + 1) 16) ∧ ((vp_in ((24 * ((6 * l1) + l2)) + 2) 1152) ∧ ((vp_in l1 8) ∧ ((vp_in ((24 * ((6 * l1) + l2)) + 3) 1152) ∧ ((vp_in l1 8) ∧ ((vp_in ((24 * ((6 * l1) + l2)) + 20) 1152) ∧ ((vp_in l1 8) ∧ (∃ n1 : Nat, wX7_rollBack_208 post n1 l1 l2 l3 (24 * ((6 * l1) + l2)) 0 (k3 (k3 (k3 (k3 (k3 (k3 M 13 16 l1.toNatClampNeg 103) 16 18 ((2 * l1).toNatClampNeg) ((k3 M 13 16 l1.toNatClampNeg 103) 16 27 ((24 * ((6 * l1) + l2)).toNatClampNeg))) 16 18 (((2 * l1) + 1).toNatClampNeg) ((k3 (k3 M 13 16 l1.toNatClampNeg 103) 16 18 ((2 * l1).toNatClampNeg) ((k3 M 13 16 l1.toNatClampNeg 103) 16 27 ((24 * ((6 * l1) + l2)).toNatClampNeg))) 16 27 (((24 * ((6 * l1) + l2)) + 1).toNatClampNeg))) 16 19 l1.toNatClampNeg ((k3 (k3 (k3 M 13 16 l1.toNatClampNeg 103) 16 18 ((2 * l1).toNatClampNeg) ((k3 M 13 16 l1.toNatClampNeg 103) 16 27 ((24 * ((6 * l1) + l2)).toNatClampNeg))) 16 18 (((2 * l1) + 1).toNatClampNeg) ((k3 (k3 M 13 16 l1.toNatClampNeg 103) 16 18 ((2 * l1).toNatClampNeg) ((k3 M 13 16 l1.toNatClampNeg 103) 16 27 ((24 * ((6 * l1) + l2)).toNatClampNeg))) 16 27 (((24 * ((6 * l1) + l2)) + 1).toNatClampNeg))) 16 27 (((24 * ((6 * l1) + l2)) + 2).toNatClampNeg))) 16 20 l1.toNatClampNeg ((k3 (k3 (k3 (k3 M 13 16 l1.toNatClampNeg 103) 16 18 ((2 * l1).toNatClampNeg) ((k3 M 13 16 l1.toNatClampNeg 103) 16 27 ((24 * ((6 * l1) + l2)).toNatClampNeg))) 16 18 (((2 * l1) + 1).toNatClampNeg) ((k3 (k3 M 13 16 l1.toNatClampNeg 103) 16 18 ((2 * l1).toNatClampNeg) ((k3 M 13 16 l1.toNatClampNeg 103) 16 27 ((24 * ((6 * l1) + l2)).toNatClampNeg))) 16 27 (((24 * ((6 * l1) + l2)) + 1).toNatClampNeg))) 16 19 l1.toNatClampNeg ((k3 (k3 (k3 M 13 16 l1.toNatClampNeg 103) 16 18 ((2 * l1).toNatClampNeg) ((k3 M 13 16 l1.toNatClampNeg 103) 16 27 ((24 * ((6 * l1) + l2)).toNatClampNeg))) 16 18 (((2 * l1) + 1).toNatClampNeg) ((k3 (k3 M 13 16 l1.toNatClampNeg 103) 16 18 ((2 * l1).toNatClampNeg) ((k3 M 13 16 l1.toNatClampNeg 103) 16 27 ((24 * ((6 * l1) + l2)).toNatClampNeg))) 16 27 (((24 * ((6 * l1) + l2)) + 1).toNatClampNeg))) 16 27 (((24 * ((6 * l1) + l2)) + 2).toNatClampNeg))) 16 27 (((24 * ((6 * l1) + l2)) + 3).toNatClampNeg))) 16 24 l1.toNatClampNeg ((k3 (k3 (k3 (k3 (k3 M 13 16 l1.toNatClampNeg 103) 16 18 ((2 * l1).toNatClampNeg) ((k3 M 13 16 l1.toNatClampNeg 103) 16 27 ((24 * ((6 * l1) + l2)).toNatClampNeg))) 16 18 (((2 * l1) + 1).toNatClampNeg) ((k3 (k3 M 13 16 l1.toNatClampNeg 103) 16 18 ((2 * l1).toNatClampNeg) ((k3 M 13 16 l1.toNatClampNeg 103) 16 27 ((24 * ((6 * l1) + l2)).toNatClampNeg))) 16 27 (((24 * ((6 * l1) + l2)) + 1).toNatClampNeg))) 16 19 l1.toNatClampNeg ((k3 (k3 (k3 M 13 16 l1.toNatClampNeg 103) 16 18 ((2 * l1).toNatClampNeg) ((k3 M 13 16 l1.toNatClampNeg 103) 16 27 ((24 * ((6 * l1) + l2)).toNatClampNeg))) 16 18 (((2 * l1) + 1).toNatClampNeg) ((k3 (k3 M 13 16 l1.toNatClampNeg 103) 16 18 ((2 * l1).toNatClampNeg) ((k3 M 13 16 l1.toNatClampNeg 103) 16 27 ((24 * ((6 * l1) + l2)).toNatClampNeg))) 16 27 (((24 * ((6 * l1) + l2)) + 1).toNatClampNeg))) 16 27 (((24 * ((6 * l1) + l2)) + 2).toNatClampNeg))) 16 20 l1.toNatClampNeg ((k3 (k3 (k3 (k3 M 13 16 l1.toNatClampNeg 103) 16 18 ((2 * l1).toNatClampNeg) ((k3 M 13 16 l1.toNatClampNeg 103) 16 27 ((24 * ((6 * l1) + l2)).toNatClampNeg))) 16 18 (((2 * l1) + 1).toNatClampNeg) ((k3 (k3 M 13 16 l1.toNatClampNeg 103) 16 18 ((2 * l1).toNatClampNeg) ((k3 M 13 16 l1.toNatClampNeg 103) 16 27 ((24 * ((6 * l1) + l2)).toNatClampNeg))) 16 27 (((24 * ((6 * l1) + l2)) + 1).toNatClampNeg))) 16 19 l1.toNatClampNeg ((k3 (k3 (k3 M 13 16 l1.toNatClampNeg 103) 16 18 ((2 * l1).toNatClampNeg) ((k3 M 13 16 l1.toNatClampNeg 103) 16 27 ((24 * ((6 * l1) + l2)).toNatClampNeg))) 16 18 (((2 * l1) + 1).toNatClampNeg) ((k3 (k3 M 13 16 l1.toNatClampNeg 103) 16 18 ((2 * l1).toNatClampNeg) ((k3 M 13 16 l1.toNatClampNeg 103) 16 27 ((24 * ((6 * l1) + l2)).toNatClampNeg))) 16 27 (((24 * ((6 * l1) + l2)) + 1).toNatClampNeg))) 16 27 (((24 * ((6 * l1) + l2)) + 2).toNatClampNeg))) 16 27 (((24 * ((6 * l1) + l2)) + 3).toNatClampNeg))) 16 27 (((24 * ((6 * l1) + l2)) + 20).toNatClampNeg))) ap)))))))))))
set_option maxHeartbeats 4000000 in
set_option maxRecDepth 100000 in
theorem bX7_rollBack_106 {p : Program} {l : Launch} {e : Env} {s : State} {m : MethodId} {args : Array Value} {below : List Frame} {meth : Method} {c : Code} {D : va_G} {cI : Nat → ClassId} {e0 : Nat} {A : Nat → Prop} {ad : Nat → Nat → Nat} {K : KS} {o : Int64} {od : UInt64} {mc ms : Nat} {post : Int32 → KS → Int64 → Prop} (S : CallFix p m c cX7_rollBack 6 s args WU RX7) (hg : GI D cI e0 A s s.heap) (hr : meth.sig.returnType = (some FieldType.int)) (hlk : meth.locks = false) (hout : ∀ x ∈ c.exceptionTable.toList, False) {H : Heap} {locs : List Loc} {ls : Array Slot} {l1 : Int32} {l2 : Int32} {l3 : Int32} {M : KS} {ap : Int64} (hS : va_S A s.heap H locs) (hw : HT D cI e0 A ad K M ap o od H) (hl : lv_has ls 6 [(0, .ref (ad 3 0)), (1, .int l1), (2, .int l2), (3, .int l3)]) (h : wX7_rollBack_106 post l1 l2 l3 M ap) : W p l e ({ frames := 3, cells := mc, slots := ms, locals := 65 } : Room) s m args below meth c H locs 0 0 (MQQ below (qM D cI e0 A ad K o od rI post) xN args s mc ms A) (F0 m 106 ls []) := by
  unfold wX7_rollBack_106 at h
  refine lv_aload_n S.1 S.2.1 dX7_rollBack_106 rfl (lv_at hl 0 rfl) ?_
  refine g3_16 S hg hw u1060 dX7_rollBack_107 ?_
  refine lv_iload_n S.1 S.2.1 dX7_rollBack_110 rfl (lv_at hl 1 rfl) ?_
  refine lv_bipush (v := 103) S.1 S.2.1 dX7_rollBack_111 (by decide) ?_
  obtain ⟨g19, h⟩ := h
  refine s13 S hg hS hw rfl g19 (by decide) dX7_rollBack_113 (fun H locs hw hS => ?_)
  refine lv_bipush (v := 24) S.1 S.2.1 dX7_rollBack_114 (by decide) ?_
  refine lv_bipush (v := 6) S.1 S.2.1 dX7_rollBack_116 (by decide) ?_
  refine lv_iload_n S.1 S.2.1 dX7_rollBack_118 rfl (lv_at hl 1 rfl) ?_
  refine lv_imul S.1 S.2.1 dX7_rollBack_119 ?_
  refine lv_iload_n S.1 S.2.1 dX7_rollBack_120 rfl (lv_at hl 2 rfl) ?_
  refine lv_iadd S.1 S.2.1 dX7_rollBack_121 ?_
  refine lv_imul S.1 S.2.1 dX7_rollBack_122 ?_
  refine lv_istore (lv' := [(4, .int (24 * ((6 * l1) + l2))), (0, .ref (ad 3 0)), (1, .int l1), (2, .int l2), (3, .int l3)]) S.1 S.2.1 dX7_rollBack_123 hl (by decide) rfl (fun ls hl => ?_)
  refine lv_aload_n S.1 S.2.1 dX7_rollBack_125 rfl (lv_at hl 1 rfl) ?_
  refine g3_18 S hg hw u1062 dX7_rollBack_126 ?_
  refine lv_iconst (v := 2) S.1 S.2.1 dX7_rollBack_129 (by decide) ?_
  refine lv_iload_n S.1 S.2.1 dX7_rollBack_130 rfl (lv_at hl 2 rfl) ?_
  refine lv_imul S.1 S.2.1 dX7_rollBack_131 ?_
  refine lv_aload_n S.1 S.2.1 dX7_rollBack_132 rfl (lv_at hl 1 rfl) ?_
  refine g3_27 S hg hw u1071 dX7_rollBack_133 ?_
  refine lv_iload S.1 S.2.1 dX7_rollBack_136 (lv_at hl 0 rfl) ?_
  obtain ⟨g20, h⟩ := h
  refine a16 S hg hw rfl g20 dX7_rollBack_138 ?_
  obtain ⟨g21, h⟩ := h
  refine s16 S hg hS hw rfl g21 dX7_rollBack_139 (fun H locs hw hS => ?_)
  refine lv_aload_n S.1 S.2.1 dX7_rollBack_140 rfl (lv_at hl 1 rfl) ?_
  refine g3_18 S hg hw u1062 dX7_rollBack_141 ?_
  refine lv_iconst (v := 2) S.1 S.2.1 dX7_rollBack_144 (by decide) ?_
  refine lv_iload_n S.1 S.2.1 dX7_rollBack_145 rfl (lv_at hl 2 rfl) ?_
  refine lv_imul S.1 S.2.1 dX7_rollBack_146 ?_
  refine lv_iconst (v := 1) S.1 S.2.1 dX7_rollBack_147 (by decide) ?_
  refine lv_iadd S.1 S.2.1 dX7_rollBack_148 ?_
  refine lv_aload_n S.1 S.2.1 dX7_rollBack_149 rfl (lv_at hl 1 rfl) ?_
  refine g3_27 S hg hw u1071 dX7_rollBack_150 ?_
  refine lv_iload S.1 S.2.1 dX7_rollBack_153 (lv_at hl 0 rfl) ?_
  refine lv_iconst (v := 1) S.1 S.2.1 dX7_rollBack_155 (by decide) ?_
  refine lv_iadd S.1 S.2.1 dX7_rollBack_156 ?_
  obtain ⟨g22, h⟩ := h
  refine a16 S hg hw rfl g22 dX7_rollBack_157 ?_
  obtain ⟨g23, h⟩ := h
  refine s16 S hg hS hw rfl g23 dX7_rollBack_158 (fun H locs hw hS => ?_)
  refine lv_aload_n S.1 S.2.1 dX7_rollBack_159 rfl (lv_at hl 1 rfl) ?_
  refine g3_19 S hg hw u1063 dX7_rollBack_160 ?_
  refine lv_iload_n S.1 S.2.1 dX7_rollBack_163 rfl (lv_at hl 2 rfl) ?_
  refine lv_aload_n S.1 S.2.1 dX7_rollBack_164 rfl (lv_at hl 1 rfl) ?_
  refine g3_27 S hg hw u1071 dX7_rollBack_165 ?_
  refine lv_iload S.1 S.2.1 dX7_rollBack_168 (lv_at hl 0 rfl) ?_
  refine lv_iconst (v := 2) S.1 S.2.1 dX7_rollBack_170 (by decide) ?_
  refine lv_iadd S.1 S.2.1 dX7_rollBack_171 ?_
  obtain ⟨g24, h⟩ := h
  refine a16 S hg hw rfl g24 dX7_rollBack_172 ?_
  obtain ⟨g25, h⟩ := h
  refine s16 S hg hS hw rfl g25 dX7_rollBack_173 (fun H locs hw hS => ?_)
  refine lv_aload_n S.1 S.2.1 dX7_rollBack_174 rfl (lv_at hl 1 rfl) ?_
  refine g3_20 S hg hw u1064 dX7_rollBack_175 ?_
  refine lv_iload_n S.1 S.2.1 dX7_rollBack_178 rfl (lv_at hl 2 rfl) ?_
  refine lv_aload_n S.1 S.2.1 dX7_rollBack_179 rfl (lv_at hl 1 rfl) ?_
  refine g3_27 S hg hw u1071 dX7_rollBack_180 ?_
  refine lv_iload S.1 S.2.1 dX7_rollBack_183 (lv_at hl 0 rfl) ?_
  refine lv_iconst (v := 3) S.1 S.2.1 dX7_rollBack_185 (by decide) ?_
  refine lv_iadd S.1 S.2.1 dX7_rollBack_186 ?_
  obtain ⟨g26, h⟩ := h
  refine a16 S hg hw rfl g26 dX7_rollBack_187 ?_
  obtain ⟨g27, h⟩ := h
  refine s16 S hg hS hw rfl g27 dX7_rollBack_188 (fun H locs hw hS => ?_)
  refine lv_aload_n S.1 S.2.1 dX7_rollBack_189 rfl (lv_at hl 1 rfl) ?_
  refine g3_24 S hg hw u1068 dX7_rollBack_190 ?_
  refine lv_iload_n S.1 S.2.1 dX7_rollBack_193 rfl (lv_at hl 2 rfl) ?_
  refine lv_aload_n S.1 S.2.1 dX7_rollBack_194 rfl (lv_at hl 1 rfl) ?_
  refine g3_27 S hg hw u1071 dX7_rollBack_195 ?_
  refine lv_iload S.1 S.2.1 dX7_rollBack_198 (lv_at hl 0 rfl) ?_
  refine lv_bipush (v := 20) S.1 S.2.1 dX7_rollBack_200 (by decide) ?_
  refine lv_iadd S.1 S.2.1 dX7_rollBack_202 ?_
  obtain ⟨g28, h⟩ := h
  refine a16 S hg hw rfl g28 dX7_rollBack_203 ?_
  obtain ⟨g29, h⟩ := h
  refine s16 S hg hS hw rfl g29 dX7_rollBack_204 (fun H locs hw hS => ?_)
  refine lv_iconst (v := 0) S.1 S.2.1 dX7_rollBack_205 (by decide) ?_
  refine lv_istore (lv' := [(5, .int 0), (4, .int (24 * ((6 * l1) + l2))), (0, .ref (ad 3 0)), (1, .int l1), (2, .int l2), (3, .int l3)]) S.1 S.2.1 dX7_rollBack_206 hl (by decide) rfl (fun ls hl => ?_)
  have hl := lv_sub hl (l' := [(0, .ref (ad 3 0)), (1, .int l1), (2, .int l2), (3, .int l3), (4, .int (24 * ((6 * l1) + l2))), (5, .int 0)]) [2, 3, 4, 5, 1, 0] rfl
  obtain ⟨n1, h⟩ := h
  exact bX7_rollBack_208 S hg hr hlk hout n1 hS hw hl h
def wpX7_rollBack (post : Int32 → KS → Int64 → Prop) (M : KS) (ap : Int64) (p1 : Int32) (p2 : Int32) : Prop := (wpX7_isSnapshot (fun r1 => ((¬ r1 = 0 → ((vp_in p1 8) ∧ (((((k3 M 3 0 0 0) 13 16 p1.toNatClampNeg) = 111 → ((wpX7_fails (fun r5 M6 ap7 => post r5 M6 ap7) (k3 M 3 0 0 0) ap 2))) ∧ (¬ ((k3 M 3 0 0 0) 13 16 p1.toNatClampNeg) = 111 → (((¬ ((k3 M 3 0 0 0) 13 16 p1.toNatClampNeg) = 102 → ((vp_in p1 8) ∧ ((wpX7_isBusy (fun r10 => ((¬ r10 = 0 → ((wpX7_fails (fun r12 M13 ap14 => post r12 M13 ap14) (k3 M 3 0 0 0) ap 3))) ∧ (r10 = 0 → ((vp_in p1 8) ∧ ((wpX7_isBusy (fun r16 => ((r16 = 0 → (((¬ ((k3 M 3 0 0 0) 13 16 p1.toNatClampNeg) = 101 → (wX7_rollBack_106 post p1 p2 0 (k3 M 3 0 0 0) ap)) ∧ (((k3 M 3 0 0 0) 13 16 p1.toNatClampNeg) = 101 → ((wpX7_undoes (fun r36 M37 ap38 => (wpX7_restakes (fun _ M39 ap40 => wX7_rollBack_106 post p1 p2 r36 M39 ap40) M37 ap38 p1)) (k3 M 3 0 0 0) ap p1)))))) ∧ (¬ r16 = 0 → ((wpX7_fails (fun r41 M42 ap43 => post r41 M42 ap43) (k3 M 3 0 0 0) ap 3))))) (k3 M 3 0 0 0) ap ((k3 M 3 0 0 0) 16 15 p1.toNatClampNeg) p1)))))) (k3 M 3 0 0 0) ap ((k3 M 3 0 0 0) 16 14 p1.toNatClampNeg) p1)))) ∧ (((k3 M 3 0 0 0) 13 16 p1.toNatClampNeg) = 102 → ((wpX7_fails (fun r44 M45 ap46 => post r44 M45 ap46) (k3 M 3 0 0 0) ap 2)))))))))) ∧ (r1 = 0 → ((wpX7_fails (fun r47 M48 ap49 => post r47 M48 ap49) (k3 M 3 0 0 0) ap 1))))) (k3 M 3 0 0 0) ap p1 p2)
theorem hdX7_rollBack : yX7_rollBack.cls ≠ "java/lang/invoke/MethodHandle" ∧ yX7_rollBack.cls ≠ "java/lang/invoke/VarHandle" ∧ (parseMethodDescriptor yX7_rollBack.desc).map (fun d => d.parameters.length) = some 2 := by decide +kernel
set_option maxHeartbeats 4000000 in
set_option maxRecDepth 100000 in
theorem mtX7_rollBack {l : Launch} {D : va_G} {cI : Nat → ClassId} {e0 : Nat} {A : Nat → Prop} {ad : Nat → Nat → Nat} {K M : KS} {ap o : Int64} {od : UInt64} {mc ms : Nat} {p1 : Int32} {p2 : Int32} {post : Int32 → KS → Int64 → Prop} (h : wpX7_rollBack post M ap p1 p2) : CM l D cI e0 A yX7_rollBack cX7_rollBack 6 (some FieldType.int) 3 65 mc ms [.ref (ad 3 0), .int p1, .int p2] (HT D cI e0 A ad K M ap o od) (qM D cI e0 A ad K o od rI post) xN := by
  refine CM.of (by decide) (Nat.le_of_ble_eq_true rfl) (fun p e s m below meth c ls FX hw hS hl => ?_)
  obtain ⟨S, hg, hr, hlk, hnm, hout⟩ := FX
  have hl : lv_has ls 6 [(0, .ref (ad 3 0)), (1, .int p1), (2, .int p2)] := hl
  unfold wpX7_rollBack at h
  refine lv_aload_n S.1 S.2.1 dX7_rollBack_0 rfl (lv_at hl 0 rfl) ?_
  refine lv_iconst (v := 0) S.1 S.2.1 dX7_rollBack_1 (by decide) ?_
  refine p3_0 S hg hS hw u1044 dX7_rollBack_2 (fun H locs hw hS => ?_)
  refine lv_aload_n S.1 S.2.1 dX7_rollBack_5 rfl (lv_at hl 0 rfl) ?_
  refine lv_iload_n S.1 S.2.1 dX7_rollBack_6 rfl (lv_at hl 1 rfl) ?_
  refine lv_iload_n S.1 S.2.1 dX7_rollBack_7 rfl (lv_at hl 2 rfl) ?_
  refine r_call (rest := []) S hg hS (mtX7_isSnapshot (mc := 0) (ms := 0) h) u1299 u1301 u37 u49 u1302 hdX7_isSnapshot (rv3 hg hw) hw ⟨Nat.le_of_ble_eq_true rfl, Nat.le_of_ble_eq_true rfl⟩ ⟨by show 0 + 0 ≤ mc; omega, by show 0 + 0 ≤ ms; omega⟩ hl.1 (Nat.le_of_ble_eq_true rfl) rfl dX7_rollBack_8 (fun E ce q H1 locs1 hx hS1 hc1 hc2 hc3 => hx.elim) (fun rv H locs hq hS => ?_)
  obtain ⟨r1, rfl, h, hw⟩ := hq
  show W p l e _ s m _ below meth c H locs _ _ _ (F0 m 11 ls [.int r1])
  show W p l e _ s m _ below meth c H locs 0 0 _ _
  refine lv_if_ne (tgt := 20) S.1 S.2.1 dX7_rollBack_11 (by decide) (fun c2 => ?_) (fun c2 => ?_)
  · have h := h.1 c2
    refine lv_aload_n S.1 S.2.1 dX7_rollBack_20 rfl (lv_at hl 0 rfl) ?_
    refine g3_16 S hg hw u1060 dX7_rollBack_21 ?_
    refine lv_iload_n S.1 S.2.1 dX7_rollBack_24 rfl (lv_at hl 1 rfl) ?_
    obtain ⟨g3, h⟩ := h
    refine a13 S hg hw rfl g3 dX7_rollBack_25 ?_
    refine lv_bipush (v := 111) S.1 S.2.1 dX7_rollBack_26 (by decide) ?_
    refine lv_icmp_eq (tgt := 42) S.1 S.2.1 dX7_rollBack_28 (by decide) (fun c4 => ?_) (fun c4 => ?_)
    · have h := h.1 c4
      refine lv_aload_n S.1 S.2.1 dX7_rollBack_42 rfl (lv_at hl 0 rfl) ?_
      refine lv_iconst (v := 2) S.1 S.2.1 dX7_rollBack_43 (by decide) ?_
      refine r_call (rest := []) S hg hS (mtX7_fails (mc := 0) (ms := 0) h) u1171 u1173 u26 u49 u1174 hdX7_fails (rv3 hg hw) hw ⟨Nat.le_of_ble_eq_true rfl, Nat.le_of_ble_eq_true rfl⟩ ⟨by show 0 + 0 ≤ mc; omega, by show 0 + 0 ≤ ms; omega⟩ hl.1 (Nat.le_of_ble_eq_true rfl) rfl dX7_rollBack_44 (fun E ce q H1 locs1 hx hS1 hc1 hc2 hc3 => hx.elim) (fun rv H locs hq hS => ?_)
      obtain ⟨r5, M6, ap7, rfl, h, hw⟩ := hq
      show W p l e _ s m _ below meth c H locs _ _ _ (F0 m 47 ls [.int r5])
      show W p l e _ s m _ below meth c H locs 0 0 _ _
      exact r_iret (y := yX7_rollBack) S hr rfl hlk hS (by omega) (by omega) dX7_rollBack_47 ⟨r5, _, _, rfl, h, hw⟩
    · have h := h.2 c4
      refine lv_aload_n S.1 S.2.1 dX7_rollBack_31 rfl (lv_at hl 0 rfl) ?_
      refine g3_16 S hg hw u1060 dX7_rollBack_32 ?_
      refine lv_iload_n S.1 S.2.1 dX7_rollBack_35 rfl (lv_at hl 1 rfl) ?_
      refine a13 S hg hw rfl g3 dX7_rollBack_36 ?_
      refine lv_bipush (v := 102) S.1 S.2.1 dX7_rollBack_37 (by decide) ?_
      refine lv_icmp_ne (tgt := 48) S.1 S.2.1 dX7_rollBack_39 (by decide) (fun c8 => ?_) (fun c8 => ?_)
      · have h := h.1 c8
        refine lv_aload_n S.1 S.2.1 dX7_rollBack_48 rfl (lv_at hl 0 rfl) ?_
        refine lv_aload_n S.1 S.2.1 dX7_rollBack_49 rfl (lv_at hl 0 rfl) ?_
        refine g3_14 S hg hw u1058 dX7_rollBack_50 ?_
        refine lv_iload_n S.1 S.2.1 dX7_rollBack_53 rfl (lv_at hl 1 rfl) ?_
        obtain ⟨g9, h⟩ := h
        refine a16 S hg hw rfl g9 dX7_rollBack_54 ?_
        refine lv_iload_n S.1 S.2.1 dX7_rollBack_55 rfl (lv_at hl 1 rfl) ?_
        refine r_call (rest := []) S hg hS (mtX7_isBusy (mc := 0) (ms := 0) h) u1227 u1229 u31 u49 u1230 hdX7_isBusy (rv3 hg hw) hw ⟨Nat.le_of_ble_eq_true rfl, Nat.le_of_ble_eq_true rfl⟩ ⟨by show 0 + 0 ≤ mc; omega, by show 0 + 0 ≤ ms; omega⟩ hl.1 (Nat.le_of_ble_eq_true rfl) rfl dX7_rollBack_56 (fun E ce q H1 locs1 hx hS1 hc1 hc2 hc3 => hx.elim) (fun rv H locs hq hS => ?_)
        obtain ⟨r10, rfl, h, hw⟩ := hq
        show W p l e _ s m _ below meth c H locs _ _ _ (F0 m 59 ls [.int r10])
        show W p l e _ s m _ below meth c H locs 0 0 _ _
        refine lv_if_ne (tgt := 76) S.1 S.2.1 dX7_rollBack_59 (by decide) (fun c11 => ?_) (fun c11 => ?_)
        · have h := h.1 c11
          refine lv_aload_n S.1 S.2.1 dX7_rollBack_76 rfl (lv_at hl 0 rfl) ?_
          refine lv_iconst (v := 3) S.1 S.2.1 dX7_rollBack_77 (by decide) ?_
          refine r_call (rest := []) S hg hS (mtX7_fails (mc := 0) (ms := 0) h) u1171 u1173 u26 u49 u1174 hdX7_fails (rv3 hg hw) hw ⟨Nat.le_of_ble_eq_true rfl, Nat.le_of_ble_eq_true rfl⟩ ⟨by show 0 + 0 ≤ mc; omega, by show 0 + 0 ≤ ms; omega⟩ hl.1 (Nat.le_of_ble_eq_true rfl) rfl dX7_rollBack_78 (fun E ce q H1 locs1 hx hS1 hc1 hc2 hc3 => hx.elim) (fun rv H locs hq hS => ?_)
          obtain ⟨r12, M13, ap14, rfl, h, hw⟩ := hq
          show W p l e _ s m _ below meth c H locs _ _ _ (F0 m 81 ls [.int r12])
          show W p l e _ s m _ below meth c H locs 0 0 _ _
          exact r_iret (y := yX7_rollBack) S hr rfl hlk hS (by omega) (by omega) dX7_rollBack_81 ⟨r12, _, _, rfl, h, hw⟩
        · have h := h.2 c11
          refine lv_aload_n S.1 S.2.1 dX7_rollBack_62 rfl (lv_at hl 0 rfl) ?_
          refine lv_aload_n S.1 S.2.1 dX7_rollBack_63 rfl (lv_at hl 0 rfl) ?_
          refine g3_15 S hg hw u1059 dX7_rollBack_64 ?_
          refine lv_iload_n S.1 S.2.1 dX7_rollBack_67 rfl (lv_at hl 1 rfl) ?_
          obtain ⟨g15, h⟩ := h
          refine a16 S hg hw rfl g15 dX7_rollBack_68 ?_
          refine lv_iload_n S.1 S.2.1 dX7_rollBack_69 rfl (lv_at hl 1 rfl) ?_
          refine r_call (rest := []) S hg hS (mtX7_isBusy (mc := 0) (ms := 0) h) u1227 u1229 u31 u49 u1230 hdX7_isBusy (rv3 hg hw) hw ⟨Nat.le_of_ble_eq_true rfl, Nat.le_of_ble_eq_true rfl⟩ ⟨by show 0 + 0 ≤ mc; omega, by show 0 + 0 ≤ ms; omega⟩ hl.1 (Nat.le_of_ble_eq_true rfl) rfl dX7_rollBack_70 (fun E ce q H1 locs1 hx hS1 hc1 hc2 hc3 => hx.elim) (fun rv H locs hq hS => ?_)
          obtain ⟨r16, rfl, h, hw⟩ := hq
          show W p l e _ s m _ below meth c H locs _ _ _ (F0 m 73 ls [.int r16])
          show W p l e _ s m _ below meth c H locs 0 0 _ _
          refine lv_if_eq (tgt := 82) S.1 S.2.1 dX7_rollBack_73 (by decide) (fun c17 => ?_) (fun c17 => ?_)
          · have h := h.1 c17
            refine lv_iconst (v := 0) S.1 S.2.1 dX7_rollBack_82 (by decide) ?_
            refine lv_istore_n (lv' := [(3, .int 0), (0, .ref (ad 3 0)), (1, .int p1), (2, .int p2)]) S.1 S.2.1 dX7_rollBack_83 rfl hl (by decide) rfl (fun ls hl => ?_)
            refine lv_aload_n S.1 S.2.1 dX7_rollBack_84 rfl (lv_at hl 1 rfl) ?_
            refine g3_16 S hg hw u1060 dX7_rollBack_85 ?_
            refine lv_iload_n S.1 S.2.1 dX7_rollBack_88 rfl (lv_at hl 2 rfl) ?_
            refine a13 S hg hw rfl g3 dX7_rollBack_89 ?_
            refine lv_bipush (v := 101) S.1 S.2.1 dX7_rollBack_90 (by decide) ?_
            refine lv_icmp_ne (tgt := 106) S.1 S.2.1 dX7_rollBack_92 (by decide) (fun c18 => ?_) (fun c18 => ?_)
            · have h := h.1 c18
              have hl := lv_sub hl (l' := [(0, .ref (ad 3 0)), (1, .int p1), (2, .int p2), (3, .int 0)]) [1, 2, 3, 0] rfl
              exact bX7_rollBack_106 S hg hr hlk hout hS hw hl h
            · have h := h.2 c18
              refine lv_aload_n S.1 S.2.1 dX7_rollBack_95 rfl (lv_at hl 1 rfl) ?_
              refine lv_iload_n S.1 S.2.1 dX7_rollBack_96 rfl (lv_at hl 2 rfl) ?_
              refine r_call (rest := []) S hg hS (mtX7_undoes (mc := 0) (ms := 0) h) u1315 u1317 u39 u49 u1318 hdX7_undoes (rv3 hg hw) hw ⟨Nat.le_of_ble_eq_true rfl, Nat.le_of_ble_eq_true rfl⟩ ⟨by show 0 + 0 ≤ mc; omega, by show 0 + 0 ≤ ms; omega⟩ hl.1 (Nat.le_of_ble_eq_true rfl) rfl dX7_rollBack_97 (fun E ce q H1 locs1 hx hS1 hc1 hc2 hc3 => hx.elim) (fun rv H locs hq hS => ?_)
              obtain ⟨r36, M37, ap38, rfl, h, hw⟩ := hq
              show W p l e _ s m _ below meth c H locs _ _ _ (F0 m 100 ls [.int r36])
              show W p l e _ s m _ below meth c H locs 0 0 _ _
              refine lv_istore_n (lv' := [(3, .int r36), (0, .ref (ad 3 0)), (1, .int p1), (2, .int p2)]) S.1 S.2.1 dX7_rollBack_100 rfl hl (by decide) rfl (fun ls hl => ?_)
              refine lv_aload_n S.1 S.2.1 dX7_rollBack_101 rfl (lv_at hl 1 rfl) ?_
              refine lv_iload_n S.1 S.2.1 dX7_rollBack_102 rfl (lv_at hl 2 rfl) ?_
              refine r_call (rest := []) S hg hS (mtX7_restakes (mc := 0) (ms := 0) h) u1319 u1321 u40 u49 u1322 hdX7_restakes (rv3 hg hw) hw ⟨Nat.le_of_ble_eq_true rfl, Nat.le_of_ble_eq_true rfl⟩ ⟨by show 0 + 0 ≤ mc; omega, by show 0 + 0 ≤ ms; omega⟩ hl.1 (Nat.le_of_ble_eq_true rfl) rfl dX7_rollBack_103 (fun E ce q H1 locs1 hx hS1 hc1 hc2 hc3 => hx.elim) (fun rv H locs hq hS => ?_)
              obtain ⟨_, M39, ap40, rfl, h, hw⟩ := hq
              show W p l e _ s m _ below meth c H locs _ _ _ (F0 m 106 ls [])
              show W p l e _ s m _ below meth c H locs 0 0 _ _
              have hl := lv_sub hl (l' := [(0, .ref (ad 3 0)), (1, .int p1), (2, .int p2), (3, .int r36)]) [1, 2, 3, 0] rfl
              exact bX7_rollBack_106 S hg hr hlk hout hS hw hl h
          · have h := h.2 c17
            refine lv_aload_n S.1 S.2.1 dX7_rollBack_76 rfl (lv_at hl 0 rfl) ?_
            refine lv_iconst (v := 3) S.1 S.2.1 dX7_rollBack_77 (by decide) ?_
            refine r_call (rest := []) S hg hS (mtX7_fails (mc := 0) (ms := 0) h) u1171 u1173 u26 u49 u1174 hdX7_fails (rv3 hg hw) hw ⟨Nat.le_of_ble_eq_true rfl, Nat.le_of_ble_eq_true rfl⟩ ⟨by show 0 + 0 ≤ mc; omega, by show 0 + 0 ≤ ms; omega⟩ hl.1 (Nat.le_of_ble_eq_true rfl) rfl dX7_rollBack_78 (fun E ce q H1 locs1 hx hS1 hc1 hc2 hc3 => hx.elim) (fun rv H locs hq hS => ?_)
            obtain ⟨r41, M42, ap43, rfl, h, hw⟩ := hq
            show W p l e _ s m _ below meth c H locs _ _ _ (F0 m 81 ls [.int r41])
            show W p l e _ s m _ below meth c H locs 0 0 _ _
            exact r_iret (y := yX7_rollBack) S hr rfl hlk hS (by omega) (by omega) dX7_rollBack_81 ⟨r41, _, _, rfl, h, hw⟩
      · have h := h.2 c8
        refine lv_aload_n S.1 S.2.1 dX7_rollBack_42 rfl (lv_at hl 0 rfl) ?_
        refine lv_iconst (v := 2) S.1 S.2.1 dX7_rollBack_43 (by decide) ?_
        refine r_call (rest := []) S hg hS (mtX7_fails (mc := 0) (ms := 0) h) u1171 u1173 u26 u49 u1174 hdX7_fails (rv3 hg hw) hw ⟨Nat.le_of_ble_eq_true rfl, Nat.le_of_ble_eq_true rfl⟩ ⟨by show 0 + 0 ≤ mc; omega, by show 0 + 0 ≤ ms; omega⟩ hl.1 (Nat.le_of_ble_eq_true rfl) rfl dX7_rollBack_44 (fun E ce q H1 locs1 hx hS1 hc1 hc2 hc3 => hx.elim) (fun rv H locs hq hS => ?_)
        obtain ⟨r44, M45, ap46, rfl, h, hw⟩ := hq
        show W p l e _ s m _ below meth c H locs _ _ _ (F0 m 47 ls [.int r44])
        show W p l e _ s m _ below meth c H locs 0 0 _ _
        exact r_iret (y := yX7_rollBack) S hr rfl hlk hS (by omega) (by omega) dX7_rollBack_47 ⟨r44, _, _, rfl, h, hw⟩
  · have h := h.2 c2
    refine lv_aload_n S.1 S.2.1 dX7_rollBack_14 rfl (lv_at hl 0 rfl) ?_
    refine lv_iconst (v := 1) S.1 S.2.1 dX7_rollBack_15 (by decide) ?_
    refine r_call (rest := []) S hg hS (mtX7_fails (mc := 0) (ms := 0) h) u1171 u1173 u26 u49 u1174 hdX7_fails (rv3 hg hw) hw ⟨Nat.le_of_ble_eq_true rfl, Nat.le_of_ble_eq_true rfl⟩ ⟨by show 0 + 0 ≤ mc; omega, by show 0 + 0 ≤ ms; omega⟩ hl.1 (Nat.le_of_ble_eq_true rfl) rfl dX7_rollBack_16 (fun E ce q H1 locs1 hx hS1 hc1 hc2 hc3 => hx.elim) (fun rv H locs hq hS => ?_)
    obtain ⟨r47, M48, ap49, rfl, h, hw⟩ := hq
    show W p l e _ s m _ below meth c H locs _ _ _ (F0 m 19 ls [.int r47])
    show W p l e _ s m _ below meth c H locs 0 0 _ _
    exact r_iret (y := yX7_rollBack) S hr rfl hlk hS (by omega) (by omega) dX7_rollBack_19 ⟨r47, _, _, rfl, h, hw⟩

-- X7.offer
theorem dX7_offer_0 : decode cX7_offer 0 = .ok (.aload_n 0, 1) := by decide +kernel
theorem dX7_offer_1 : decode cX7_offer 1 = .ok (.iconst 0, 1) := by decide +kernel
theorem dX7_offer_2 : decode cX7_offer 2 = .ok (.putfield 98, 3) := by decide +kernel
theorem dX7_offer_5 : decode cX7_offer 5 = .ok (.aload_n 0, 1) := by decide +kernel
theorem dX7_offer_6 : decode cX7_offer 6 = .ok (.iload_n 1, 1) := by decide +kernel
theorem dX7_offer_7 : decode cX7_offer 7 = .ok (.invokevirtual 127, 3) := by decide +kernel
theorem dX7_offer_10 : decode cX7_offer 10 = .ok (.ifCond .ne 9, 3) := by decide +kernel
theorem dX7_offer_13 : decode cX7_offer 13 = .ok (.aload_n 0, 1) := by decide +kernel
theorem dX7_offer_14 : decode cX7_offer 14 = .ok (.iconst 1, 1) := by decide +kernel
theorem dX7_offer_15 : decode cX7_offer 15 = .ok (.invokevirtual 106, 3) := by decide +kernel
theorem dX7_offer_18 : decode cX7_offer 18 = .ok (.ireturn, 1) := by decide +kernel
theorem dX7_offer_19 : decode cX7_offer 19 = .ok (.iload_n 2, 1) := by decide +kernel
theorem dX7_offer_20 : decode cX7_offer 20 = .ok (.iconst 1, 1) := by decide +kernel
theorem dX7_offer_21 : decode cX7_offer 21 = .ok (.sipush 999, 3) := by decide +kernel
theorem dX7_offer_24 : decode cX7_offer 24 = .ok (.invokestatic 102, 3) := by decide +kernel
theorem dX7_offer_27 : decode cX7_offer 27 = .ok (.ifCond .ne 9, 3) := by decide +kernel
theorem dX7_offer_30 : decode cX7_offer 30 = .ok (.aload_n 0, 1) := by decide +kernel
theorem dX7_offer_31 : decode cX7_offer 31 = .ok (.iconst 2, 1) := by decide +kernel
theorem dX7_offer_32 : decode cX7_offer 32 = .ok (.invokevirtual 106, 3) := by decide +kernel
theorem dX7_offer_35 : decode cX7_offer 35 = .ok (.ireturn, 1) := by decide +kernel
theorem dX7_offer_36 : decode cX7_offer 36 = .ok (.aload_n 0, 1) := by decide +kernel
theorem dX7_offer_37 : decode cX7_offer 37 = .ok (.getfield 19, 3) := by decide +kernel
theorem dX7_offer_40 : decode cX7_offer 40 = .ok (.iload_n 1, 1) := by decide +kernel
theorem dX7_offer_41 : decode cX7_offer 41 = .ok (.caload, 1) := by decide +kernel
theorem dX7_offer_42 : decode cX7_offer 42 = .ok (.bipush 115, 2) := by decide +kernel
theorem dX7_offer_44 : decode cX7_offer 44 = .ok (.if_icmp .eq 22, 3) := by decide +kernel
theorem dX7_offer_47 : decode cX7_offer 47 = .ok (.aload_n 0, 1) := by decide +kernel
theorem dX7_offer_48 : decode cX7_offer 48 = .ok (.getfield 26, 3) := by decide +kernel
theorem dX7_offer_51 : decode cX7_offer 51 = .ok (.iload_n 1, 1) := by decide +kernel
theorem dX7_offer_52 : decode cX7_offer 52 = .ok (.iaload, 1) := by decide +kernel
theorem dX7_offer_53 : decode cX7_offer 53 = .ok (.iconst (-1), 1) := by decide +kernel
theorem dX7_offer_54 : decode cX7_offer 54 = .ok (.if_icmp .ne 12, 3) := by decide +kernel
theorem dX7_offer_57 : decode cX7_offer 57 = .ok (.aload_n 0, 1) := by decide +kernel
theorem dX7_offer_58 : decode cX7_offer 58 = .ok (.getfield 154, 3) := by decide +kernel
theorem dX7_offer_61 : decode cX7_offer 61 = .ok (.bipush 60, 2) := by decide +kernel
theorem dX7_offer_63 : decode cX7_offer 63 = .ok (.if_icmp .ne 9, 3) := by decide +kernel
theorem dX7_offer_66 : decode cX7_offer 66 = .ok (.aload_n 0, 1) := by decide +kernel
theorem dX7_offer_67 : decode cX7_offer 67 = .ok (.iconst 3, 1) := by decide +kernel
theorem dX7_offer_68 : decode cX7_offer 68 = .ok (.invokevirtual 106, 3) := by decide +kernel
theorem dX7_offer_71 : decode cX7_offer 71 = .ok (.ireturn, 1) := by decide +kernel
theorem dX7_offer_72 : decode cX7_offer 72 = .ok (.aload_n 0, 1) := by decide +kernel
theorem dX7_offer_73 : decode cX7_offer 73 = .ok (.getfield 77, 3) := by decide +kernel
theorem dX7_offer_76 : decode cX7_offer 76 = .ok (.aload_n 0, 1) := by decide +kernel
theorem dX7_offer_77 : decode cX7_offer 77 = .ok (.getfield 154, 3) := by decide +kernel
theorem dX7_offer_80 : decode cX7_offer 80 = .ok (.iload_n 1, 1) := by decide +kernel
theorem dX7_offer_81 : decode cX7_offer 81 = .ok (.iastore, 1) := by decide +kernel
theorem dX7_offer_82 : decode cX7_offer 82 = .ok (.aload_n 0, 1) := by decide +kernel
theorem dX7_offer_83 : decode cX7_offer 83 = .ok (.getfield 80, 3) := by decide +kernel
theorem dX7_offer_86 : decode cX7_offer 86 = .ok (.aload_n 0, 1) := by decide +kernel
theorem dX7_offer_87 : decode cX7_offer 87 = .ok (.getfield 154, 3) := by decide +kernel
theorem dX7_offer_90 : decode cX7_offer 90 = .ok (.iload_n 2, 1) := by decide +kernel
theorem dX7_offer_91 : decode cX7_offer 91 = .ok (.iastore, 1) := by decide +kernel
theorem dX7_offer_92 : decode cX7_offer 92 = .ok (.aload_n 0, 1) := by decide +kernel
theorem dX7_offer_93 : decode cX7_offer 93 = .ok (.getfield 83, 3) := by decide +kernel
theorem dX7_offer_96 : decode cX7_offer 96 = .ok (.aload_n 0, 1) := by decide +kernel
theorem dX7_offer_97 : decode cX7_offer 97 = .ok (.getfield 154, 3) := by decide +kernel
theorem dX7_offer_100 : decode cX7_offer 100 = .ok (.bipush 111, 2) := by decide +kernel
theorem dX7_offer_102 : decode cX7_offer 102 = .ok (.castore, 1) := by decide +kernel
theorem dX7_offer_103 : decode cX7_offer 103 = .ok (.aload_n 0, 1) := by decide +kernel
theorem dX7_offer_104 : decode cX7_offer 104 = .ok (.getfield 86, 3) := by decide +kernel
theorem dX7_offer_107 : decode cX7_offer 107 = .ok (.aload_n 0, 1) := by decide +kernel
theorem dX7_offer_108 : decode cX7_offer 108 = .ok (.getfield 154, 3) := by decide +kernel
theorem dX7_offer_111 : decode cX7_offer 111 = .ok (.aload_n 0, 1) := by decide +kernel
theorem dX7_offer_112 : decode cX7_offer 112 = .ok (.getfield 16, 3) := by decide +kernel
theorem dX7_offer_115 : decode cX7_offer 115 = .ok (.iload_n 1, 1) := by decide +kernel
theorem dX7_offer_116 : decode cX7_offer 116 = .ok (.iaload, 1) := by decide +kernel
theorem dX7_offer_117 : decode cX7_offer 117 = .ok (.iastore, 1) := by decide +kernel
theorem dX7_offer_118 : decode cX7_offer 118 = .ok (.aload_n 0, 1) := by decide +kernel
theorem dX7_offer_119 : decode cX7_offer 119 = .ok (.getfield 92, 3) := by decide +kernel
theorem dX7_offer_122 : decode cX7_offer 122 = .ok (.aload_n 0, 1) := by decide +kernel
theorem dX7_offer_123 : decode cX7_offer 123 = .ok (.getfield 154, 3) := by decide +kernel
theorem dX7_offer_126 : decode cX7_offer 126 = .ok (.iconst (-1), 1) := by decide +kernel
theorem dX7_offer_127 : decode cX7_offer 127 = .ok (.iastore, 1) := by decide +kernel
theorem dX7_offer_128 : decode cX7_offer 128 = .ok (.aload_n 0, 1) := by decide +kernel
theorem dX7_offer_129 : decode cX7_offer 129 = .ok (.getfield 26, 3) := by decide +kernel
theorem dX7_offer_132 : decode cX7_offer 132 = .ok (.iload_n 1, 1) := by decide +kernel
theorem dX7_offer_133 : decode cX7_offer 133 = .ok (.aload_n 0, 1) := by decide +kernel
theorem dX7_offer_134 : decode cX7_offer 134 = .ok (.getfield 154, 3) := by decide +kernel
theorem dX7_offer_137 : decode cX7_offer 137 = .ok (.iastore, 1) := by decide +kernel
theorem dX7_offer_138 : decode cX7_offer 138 = .ok (.aload_n 0, 1) := by decide +kernel
theorem dX7_offer_139 : decode cX7_offer 139 = .ok (.dup, 1) := by decide +kernel
theorem dX7_offer_140 : decode cX7_offer 140 = .ok (.getfield 154, 3) := by decide +kernel
theorem dX7_offer_143 : decode cX7_offer 143 = .ok (.iconst 1, 1) := by decide +kernel
theorem dX7_offer_144 : decode cX7_offer 144 = .ok (.iadd, 1) := by decide +kernel
theorem dX7_offer_145 : decode cX7_offer 145 = .ok (.putfield 154, 3) := by decide +kernel
theorem dX7_offer_148 : decode cX7_offer 148 = .ok (.aload_n 0, 1) := by decide +kernel
theorem dX7_offer_149 : decode cX7_offer 149 = .ok (.getfield 154, 3) := by decide +kernel
theorem dX7_offer_152 : decode cX7_offer 152 = .ok (.iconst 1, 1) := by decide +kernel
theorem dX7_offer_153 : decode cX7_offer 153 = .ok (.isub, 1) := by decide +kernel
theorem dX7_offer_154 : decode cX7_offer 154 = .ok (.ireturn, 1) := by decide +kernel
def wpX7_offer (post : Int32 → KS → Int64 → Prop) (M : KS) (ap : Int64) (p1 : Int32) (p2 : Int32) : Prop := (wpX7_isCard (fun r1 => ((¬ r1 = 0 → ((wpX7_in (fun r3 => ((¬ r3 = 0 → ((vp_in p1 40) ∧ (((((k3 M 3 0 0 0) 13 8 p1.toNatClampNeg) = 115 → ((wpX7_fails (fun r7 M8 ap9 => post r7 M8 ap9) (k3 M 3 0 0 0) ap 3))) ∧ (¬ ((k3 M 3 0 0 0) 13 8 p1.toNatClampNeg) = 115 → ((vp_in p1 40) ∧ (((¬ ((k3 M 3 0 0 0) 16 10 p1.toNatClampNeg) = (-1) → ((wpX7_fails (fun r12 M13 ap14 => post r12 M13 ap14) (k3 M 3 0 0 0) ap 3))) ∧ (((k3 M 3 0 0 0) 16 10 p1.toNatClampNeg) = (-1) → (((¬ ((k3 M 3 0 0 0) 3 29 0) = 60 → ((vp_in ((k3 M 3 0 0 0) 3 29 0) 60) ∧ ((vp_in ((k3 (k3 M 3 0 0 0) 16 30 (((k3 M 3 0 0 0) 3 29 0).toNatClampNeg) p1) 3 29 0) 60) ∧ ((vp_in ((k3 (k3 (k3 M 3 0 0 0) 16 30 (((k3 M 3 0 0 0) 3 29 0).toNatClampNeg) p1) 16 31 (((k3 (k3 M 3 0 0 0) 16 30 (((k3 M 3 0 0 0) 3 29 0).toNatClampNeg) p1) 3 29 0).toNatClampNeg) p2) 3 29 0) 60) ∧ ((vp_in p1 40) ∧ ((vp_in ((k3 (k3 (k3 (k3 M 3 0 0 0) 16 30 (((k3 M 3 0 0 0) 3 29 0).toNatClampNeg) p1) 16 31 (((k3 (k3 M 3 0 0 0) 16 30 (((k3 M 3 0 0 0) 3 29 0).toNatClampNeg) p1) 3 29 0).toNatClampNeg) p2) 13 32 (((k3 (k3 (k3 M 3 0 0 0) 16 30 (((k3 M 3 0 0 0) 3 29 0).toNatClampNeg) p1) 16 31 (((k3 (k3 M 3 0 0 0) 16 30 (((k3 M 3 0 0 0) 3 29 0).toNatClampNeg) p1) 3 29 0).toNatClampNeg) p2) 3 29 0).toNatClampNeg) 111) 3 29 0) 60) ∧ ((vp_in ((k3 (k3 (k3 (k3 (k3 M 3 0 0 0) 16 30 (((k3 M 3 0 0 0) 3 29 0).toNatClampNeg) p1) 16 31 (((k3 (k3 M 3 0 0 0) 16 30 (((k3 M 3 0 0 0) 3 29 0).toNatClampNeg) p1) 3 29 0).toNatClampNeg) p2) 13 32 (((k3 (k3 (k3 M 3 0 0 0) 16 30 (((k3 M 3 0 0 0) 3 29 0).toNatClampNeg) p1) 16 31 (((k3 (k3 M 3 0 0 0) 16 30 (((k3 M 3 0 0 0) 3 29 0).toNatClampNeg) p1) 3 29 0).toNatClampNeg) p2) 3 29 0).toNatClampNeg) 111) 16 33 (((k3 (k3 (k3 (k3 M 3 0 0 0) 16 30 (((k3 M 3 0 0 0) 3 29 0).toNatClampNeg) p1) 16 31 (((k3 (k3 M 3 0 0 0) 16 30 (((k3 M 3 0 0 0) 3 29 0).toNatClampNeg) p1) 3 29 0).toNatClampNeg) p2) 13 32 (((k3 (k3 (k3 M 3 0 0 0) 16 30 (((k3 M 3 0 0 0) 3 29 0).toNatClampNeg) p1) 16 31 (((k3 (k3 M 3 0 0 0) 16 30 (((k3 M 3 0 0 0) 3 29 0).toNatClampNeg) p1) 3 29 0).toNatClampNeg) p2) 3 29 0).toNatClampNeg) 111) 3 29 0).toNatClampNeg) ((k3 (k3 (k3 (k3 M 3 0 0 0) 16 30 (((k3 M 3 0 0 0) 3 29 0).toNatClampNeg) p1) 16 31 (((k3 (k3 M 3 0 0 0) 16 30 (((k3 M 3 0 0 0) 3 29 0).toNatClampNeg) p1) 3 29 0).toNatClampNeg) p2) 13 32 (((k3 (k3 (k3 M 3 0 0 0) 16 30 (((k3 M 3 0 0 0) 3 29 0).toNatClampNeg) p1) 16 31 (((k3 (k3 M 3 0 0 0) 16 30 (((k3 M 3 0 0 0) 3 29 0).toNatClampNeg) p1) 3 29 0).toNatClampNeg) p2) 3 29 0).toNatClampNeg) 111) 16 7 p1.toNatClampNeg)) 3 29 0) 60) ∧ (post (((k3 (k3 (k3 (k3 (k3 (k3 (k3 (k3 M 3 0 0 0) 16 30 (((k3 M 3 0 0 0) 3 29 0).toNatClampNeg) p1) 16 31 (((k3 (k3 M 3 0 0 0) 16 30 (((k3 M 3 0 0 0) 3 29 0).toNatClampNeg) p1) 3 29 0).toNatClampNeg) p2) 13 32 (((k3 (k3 (k3 M 3 0 0 0) 16 30 (((k3 M 3 0 0 0) 3 29 0).toNatClampNeg) p1) 16 31 (((k3 (k3 M 3 0 0 0) 16 30 (((k3 M 3 0 0 0) 3 29 0).toNatClampNeg) p1) 3 29 0).toNatClampNeg) p2) 3 29 0).toNatClampNeg) 111) 16 33 (((k3 (k3 (k3 (k3 M 3 0 0 0) 16 30 (((k3 M 3 0 0 0) 3 29 0).toNatClampNeg) p1) 16 31 (((k3 (k3 M 3 0 0 0) 16 30 (((k3 M 3 0 0 0) 3 29 0).toNatClampNeg) p1) 3 29 0).toNatClampNeg) p2) 13 32 (((k3 (k3 (k3 M 3 0 0 0) 16 30 (((k3 M 3 0 0 0) 3 29 0).toNatClampNeg) p1) 16 31 (((k3 (k3 M 3 0 0 0) 16 30 (((k3 M 3 0 0 0) 3 29 0).toNatClampNeg) p1) 3 29 0).toNatClampNeg) p2) 3 29 0).toNatClampNeg) 111) 3 29 0).toNatClampNeg) ((k3 (k3 (k3 (k3 M 3 0 0 0) 16 30 (((k3 M 3 0 0 0) 3 29 0).toNatClampNeg) p1) 16 31 (((k3 (k3 M 3 0 0 0) 16 30 (((k3 M 3 0 0 0) 3 29 0).toNatClampNeg) p1) 3 29 0).toNatClampNeg) p2) 13 32 (((k3 (k3 (k3 M 3 0 0 0) 16 30 (((k3 M 3 0 0 0) 3 29 0).toNatClampNeg) p1) 16 31 (((k3 (k3 M 3 0 0 0) 16 30 (((k3 M 3 0 0 0) 3 29 0).toNatClampNeg) p1) 3 29 0).toNatClampNeg) p2) 3 29 0).toNatClampNeg) 111) 16 7 p1.toNatClampNeg)) 16 35 (((k3 (k3 (k3 (k3 (k3 M 3 0 0 0) 16 30 (((k3 M 3 0 0 0) 3 29 0).toNatClampNeg) p1) 16 31 (((k3 (k3 M 3 0 0 0) 16 30 (((k3 M 3 0 0 0) 3 29 0).toNatClampNeg) p1) 3 29 0).toNatClampNeg) p2) 13 32 (((k3 (k3 (k3 M 3 0 0 0) 16 30 (((k3 M 3 0 0 0) 3 29 0).toNatClampNeg) p1) 16 31 (((k3 (k3 M 3 0 0 0) 16 30 (((k3 M 3 0 0 0) 3 29 0).toNatClampNeg) p1) 3 29 0).toNatClampNeg) p2) 3 29 0).toNatClampNeg) 111) 16 33 (((k3 (k3 (k3 (k3 M 3 0 0 0) 16 30 (((k3 M 3 0 0 0) 3 29 0).toNatClampNeg) p1) 16 31 (((k3 (k3 M 3 0 0 0) 16 30 (((k3 M 3 0 0 0) 3 29 0).toNatClampNeg) p1) 3 29 0).toNatClampNeg) p2) 13 32 (((k3 (k3 (k3 M 3 0 0 0) 16 30 (((k3 M 3 0 0 0) 3 29 0).toNatClampNeg) p1) 16 31 (((k3 (k3 M 3 0 0 0) 16 30 (((k3 M 3 0 0 0) 3 29 0).toNatClampNeg) p1) 3 29 0).toNatClampNeg) p2) 3 29 0).toNatClampNeg) 111) 3 29 0).toNatClampNeg) ((k3 (k3 (k3 (k3 M 3 0 0 0) 16 30 (((k3 M 3 0 0 0) 3 29 0).toNatClampNeg) p1) 16 31 (((k3 (k3 M 3 0 0 0) 16 30 (((k3 M 3 0 0 0) 3 29 0).toNatClampNeg) p1) 3 29 0).toNatClampNeg) p2) 13 32 (((k3 (k3 (k3 M 3 0 0 0) 16 30 (((k3 M 3 0 0 0) 3 29 0).toNatClampNeg) p1) 16 31 (((k3 (k3 M 3 0 0 0) 16 30 (((k3 M 3 0 0 0) 3 29 0).toNatClampNeg) p1) 3 29 0).toNatClampNeg) p2) 3 29 0).toNatClampNeg) 111) 16 7 p1.toNatClampNeg)) 3 29 0).toNatClampNeg) (-1)) 16 10 p1.toNatClampNeg ((k3 (k3 (k3 (k3 (k3 (k3 M 3 0 0 0) 16 30 (((k3 M 3 0 0 0) 3 29 0).toNatClampNeg) p1) 16 31 (((k3 (k3 M 3 0 0 0) 16 30 (((k3 M 3 0 0 0) 3 29 0).toNatClampNeg) p1) 3 29 0).toNatClampNeg) p2) 13 32 (((k3 (k3 (k3 M 3 0 0 0) 16 30 (((k3 M 3 0 0 0) 3 29 0).toNatClampNeg) p1) 16 31 (((k3 (k3 M 3 0 0 0) 16 30 (((k3 M 3 0 0 0) 3 29 0).toNatClampNeg) p1) 3 29 0).toNatClampNeg) p2) 3 29 0).toNatClampNeg) 111) 16 33 (((k3 (k3 (k3 (k3 M 3 0 0 0) 16 30 (((k3 M 3 0 0 0) 3 29 0).toNatClampNeg) p1) 16 31 (((k3 (k3 M 3 0 0 0) 16 30 (((k3 M 3 0 0 0) 3 29 0).toNatClampNeg) p1) 3 29 0).toNatClampNeg) p2) 13 32 (((k3 (k3 (k3 M 3 0 0 0) 16 30 (((k3 M 3 0 0 0) 3 29 0).toNatClampNeg) p1) 16 31 (((k3 (k3 M 3 0 0 0) 16 30 (((k3 M 3 0 0 0) 3 29 0).toNatClampNeg) p1) 3 29 0).toNatClampNeg) p2) 3 29 0).toNatClampNeg) 111) 3 29 0).toNatClampNeg) ((k3 (k3 (k3 (k3 M 3 0 0 0) 16 30 (((k3 M 3 0 0 0) 3 29 0).toNatClampNeg) p1) 16 31 (((k3 (k3 M 3 0 0 0) 16 30 (((k3 M 3 0 0 0) 3 29 0).toNatClampNeg) p1) 3 29 0).toNatClampNeg) p2) 13 32 (((k3 (k3 (k3 M 3 0 0 0) 16 30 (((k3 M 3 0 0 0) 3 29 0).toNatClampNeg) p1) 16 31 (((k3 (k3 M 3 0 0 0) 16 30 (((k3 M 3 0 0 0) 3 29 0).toNatClampNeg) p1) 3 29 0).toNatClampNeg) p2) 3 29 0).toNatClampNeg) 111) 16 7 p1.toNatClampNeg)) 16 35 (((k3 (k3 (k3 (k3 (k3 M 3 0 0 0) 16 30 (((k3 M 3 0 0 0) 3 29 0).toNatClampNeg) p1) 16 31 (((k3 (k3 M 3 0 0 0) 16 30 (((k3 M 3 0 0 0) 3 29 0).toNatClampNeg) p1) 3 29 0).toNatClampNeg) p2) 13 32 (((k3 (k3 (k3 M 3 0 0 0) 16 30 (((k3 M 3 0 0 0) 3 29 0).toNatClampNeg) p1) 16 31 (((k3 (k3 M 3 0 0 0) 16 30 (((k3 M 3 0 0 0) 3 29 0).toNatClampNeg) p1) 3 29 0).toNatClampNeg) p2) 3 29 0).toNatClampNeg) 111) 16 33 (((k3 (k3 (k3 (k3 M 3 0 0 0) 16 30 (((k3 M 3 0 0 0) 3 29 0).toNatClampNeg) p1) 16 31 (((k3 (k3 M 3 0 0 0) 16 30 (((k3 M 3 0 0 0) 3 29 0).toNatClampNeg) p1) 3 29 0).toNatClampNeg) p2) 13 32 (((k3 (k3 (k3 M 3 0 0 0) 16 30 (((k3 M 3 0 0 0) 3 29 0).toNatClampNeg) p1) 16 31 (((k3 (k3 M 3 0 0 0) 16 30 (((k3 M 3 0 0 0) 3 29 0).toNatClampNeg) p1) 3 29 0).toNatClampNeg) p2) 3 29 0).toNatClampNeg) 111) 3 29 0).toNatClampNeg) ((k3 (k3 (k3 (k3 M 3 0 0 0) 16 30 (((k3 M 3 0 0 0) 3 29 0).toNatClampNeg) p1) 16 31 (((k3 (k3 M 3 0 0 0) 16 30 (((k3 M 3 0 0 0) 3 29 0).toNatClampNeg) p1) 3 29 0).toNatClampNeg) p2) 13 32 (((k3 (k3 (k3 M 3 0 0 0) 16 30 (((k3 M 3 0 0 0) 3 29 0).toNatClampNeg) p1) 16 31 (((k3 (k3 M 3 0 0 0) 16 30 (((k3 M 3 0 0 0) 3 29 0).toNatClampNeg) p1) 3 29 0).toNatClampNeg) p2) 3 29 0).toNatClampNeg) 111) 16 7 p1.toNatClampNeg)) 3 29 0).toNatClampNeg) (-1)) 3 29 0)) 3 29 0 (((k3 (k3 (k3 (k3 (k3 (k3 (k3 M 3 0 0 0) 16 30 (((k3 M 3 0 0 0) 3 29 0).toNatClampNeg) p1) 16 31 (((k3 (k3 M 3 0 0 0) 16 30 (((k3 M 3 0 0 0) 3 29 0).toNatClampNeg) p1) 3 29 0).toNatClampNeg) p2) 13 32 (((k3 (k3 (k3 M 3 0 0 0) 16 30 (((k3 M 3 0 0 0) 3 29 0).toNatClampNeg) p1) 16 31 (((k3 (k3 M 3 0 0 0) 16 30 (((k3 M 3 0 0 0) 3 29 0).toNatClampNeg) p1) 3 29 0).toNatClampNeg) p2) 3 29 0).toNatClampNeg) 111) 16 33 (((k3 (k3 (k3 (k3 M 3 0 0 0) 16 30 (((k3 M 3 0 0 0) 3 29 0).toNatClampNeg) p1) 16 31 (((k3 (k3 M 3 0 0 0) 16 30 (((k3 M 3 0 0 0) 3 29 0).toNatClampNeg) p1) 3 29 0).toNatClampNeg) p2) 13 32 (((k3 (k3 (k3 M 3 0 0 0) 16 30 (((k3 M 3 0 0 0) 3 29 0).toNatClampNeg) p1) 16 31 (((k3 (k3 M 3 0 0 0) 16 30 (((k3 M 3 0 0 0) 3 29 0).toNatClampNeg) p1) 3 29 0).toNatClampNeg) p2) 3 29 0).toNatClampNeg) 111) 3 29 0).toNatClampNeg) ((k3 (k3 (k3 (k3 M 3 0 0 0) 16 30 (((k3 M 3 0 0 0) 3 29 0).toNatClampNeg) p1) 16 31 (((k3 (k3 M 3 0 0 0) 16 30 (((k3 M 3 0 0 0) 3 29 0).toNatClampNeg) p1) 3 29 0).toNatClampNeg) p2) 13 32 (((k3 (k3 (k3 M 3 0 0 0) 16 30 (((k3 M 3 0 0 0) 3 29 0).toNatClampNeg) p1) 16 31 (((k3 (k3 M 3 0 0 0) 16 30 (((k3 M 3 0 0 0) 3 29 0).toNatClampNeg) p1) 3 29 0).toNatClampNeg) p2) 3 29 0).toNatClampNeg) 111) 16 7 p1.toNatClampNeg)) 16 35 (((k3 (k3 (k3 (k3 (k3 M 3 0 0 0) 16 30 (((k3 M 3 0 0 0) 3 29 0).toNatClampNeg) p1) 16 31 (((k3 (k3 M 3 0 0 0) 16 30 (((k3 M 3 0 0 0) 3 29 0).toNatClampNeg) p1) 3 29 0).toNatClampNeg) p2) 13 32 (((k3 (k3 (k3 M 3 0 0 0) 16 30 (((k3 M 3 0 0 0) 3 29 0).toNatClampNeg) p1) 16 31 (((k3 (k3 M 3 0 0 0) 16 30 (((k3 M 3 0 0 0) 3 29 0).toNatClampNeg) p1) 3 29 0).toNatClampNeg) p2) 3 29 0).toNatClampNeg) 111) 16 33 (((k3 (k3 (k3 (k3 M 3 0 0 0) 16 30 (((k3 M 3 0 0 0) 3 29 0).toNatClampNeg) p1) 16 31 (((k3 (k3 M 3 0 0 0) 16 30 (((k3 M 3 0 0 0) 3 29 0).toNatClampNeg) p1) 3 29 0).toNatClampNeg) p2) 13 32 (((k3 (k3 (k3 M 3 0 0 0) 16 30 (((k3 M 3 0 0 0) 3 29 0).toNatClampNeg) p1) 16 31 (((k3 (k3 M 3 0 0 0) 16 30 (((k3 M 3 0 0 0) 3 29 0).toNatClampNeg) p1) 3 29 0).toNatClampNeg) p2) 3 29 0).toNatClampNeg) 111) 3 29 0).toNatClampNeg) ((k3 (k3 (k3 (k3 M 3 0 0 0) 16 30 (((k3 M 3 0 0 0) 3 29 0).toNatClampNeg) p1) 16 31 (((k3 (k3 M 3 0 0 0) 16 30 (((k3 M 3 0 0 0) 3 29 0).toNatClampNeg) p1) 3 29 0).toNatClampNeg) p2) 13 32 (((k3 (k3 (k3 M 3 0 0 0) 16 30 (((k3 M 3 0 0 0) 3 29 0).toNatClampNeg) p1) 16 31 (((k3 (k3 M 3 0 0 0) 16 30 (((k3 M 3 0 0 0) 3 29 0).toNatClampNeg) p1) 3 29 0).toNatClampNeg) p2) 3 29 0).toNatClampNeg) 111) 16 7 p1.toNatClampNeg)) 3 29 0).toNatClampNeg) (-1)) 16 10 p1.toNatClampNeg ((k3 (k3 (k3 (k3 (k3 (k3 M 3 0 0 0) 16 30 (((k3 M 3 0 0 0) 3 29 0).toNatClampNeg) p1) 16 31 (((k3 (k3 M 3 0 0 0) 16 30 (((k3 M 3 0 0 0) 3 29 0).toNatClampNeg) p1) 3 29 0).toNatClampNeg) p2) 13 32 (((k3 (k3 (k3 M 3 0 0 0) 16 30 (((k3 M 3 0 0 0) 3 29 0).toNatClampNeg) p1) 16 31 (((k3 (k3 M 3 0 0 0) 16 30 (((k3 M 3 0 0 0) 3 29 0).toNatClampNeg) p1) 3 29 0).toNatClampNeg) p2) 3 29 0).toNatClampNeg) 111) 16 33 (((k3 (k3 (k3 (k3 M 3 0 0 0) 16 30 (((k3 M 3 0 0 0) 3 29 0).toNatClampNeg) p1) 16 31 (((k3 (k3 M 3 0 0 0) 16 30 (((k3 M 3 0 0 0) 3 29 0).toNatClampNeg) p1) 3 29 0).toNatClampNeg) p2) 13 32 (((k3 (k3 (k3 M 3 0 0 0) 16 30 (((k3 M 3 0 0 0) 3 29 0).toNatClampNeg) p1) 16 31 (((k3 (k3 M 3 0 0 0) 16 30 (((k3 M 3 0 0 0) 3 29 0).toNatClampNeg) p1) 3 29 0).toNatClampNeg) p2) 3 29 0).toNatClampNeg) 111) 3 29 0).toNatClampNeg) ((k3 (k3 (k3 (k3 M 3 0 0 0) 16 30 (((k3 M 3 0 0 0) 3 29 0).toNatClampNeg) p1) 16 31 (((k3 (k3 M 3 0 0 0) 16 30 (((k3 M 3 0 0 0) 3 29 0).toNatClampNeg) p1) 3 29 0).toNatClampNeg) p2) 13 32 (((k3 (k3 (k3 M 3 0 0 0) 16 30 (((k3 M 3 0 0 0) 3 29 0).toNatClampNeg) p1) 16 31 (((k3 (k3 M 3 0 0 0) 16 30 (((k3 M 3 0 0 0) 3 29 0).toNatClampNeg) p1) 3 29 0).toNatClampNeg) p2) 3 29 0).toNatClampNeg) 111) 16 7 p1.toNatClampNeg)) 16 35 (((k3 (k3 (k3 (k3 (k3 M 3 0 0 0) 16 30 (((k3 M 3 0 0 0) 3 29 0).toNatClampNeg) p1) 16 31 (((k3 (k3 M 3 0 0 0) 16 30 (((k3 M 3 0 0 0) 3 29 0).toNatClampNeg) p1) 3 29 0).toNatClampNeg) p2) 13 32 (((k3 (k3 (k3 M 3 0 0 0) 16 30 (((k3 M 3 0 0 0) 3 29 0).toNatClampNeg) p1) 16 31 (((k3 (k3 M 3 0 0 0) 16 30 (((k3 M 3 0 0 0) 3 29 0).toNatClampNeg) p1) 3 29 0).toNatClampNeg) p2) 3 29 0).toNatClampNeg) 111) 16 33 (((k3 (k3 (k3 (k3 M 3 0 0 0) 16 30 (((k3 M 3 0 0 0) 3 29 0).toNatClampNeg) p1) 16 31 (((k3 (k3 M 3 0 0 0) 16 30 (((k3 M 3 0 0 0) 3 29 0).toNatClampNeg) p1) 3 29 0).toNatClampNeg) p2) 13 32 (((k3 (k3 (k3 M 3 0 0 0) 16 30 (((k3 M 3 0 0 0) 3 29 0).toNatClampNeg) p1) 16 31 (((k3 (k3 M 3 0 0 0) 16 30 (((k3 M 3 0 0 0) 3 29 0).toNatClampNeg) p1) 3 29 0).toNatClampNeg) p2) 3 29 0).toNatClampNeg) 111) 3 29 0).toNatClampNeg) ((k3 (k3 (k3 (k3 M 3 0 0 0) 16 30 (((k3 M 3 0 0 0) 3 29 0).toNatClampNeg) p1) 16 31 (((k3 (k3 M 3 0 0 0) 16 30 (((k3 M 3 0 0 0) 3 29 0).toNatClampNeg) p1) 3 29 0).toNatClampNeg) p2) 13 32 (((k3 (k3 (k3 M 3 0 0 0) 16 30 (((k3 M 3 0 0 0) 3 29 0).toNatClampNeg) p1) 16 31 (((k3 (k3 M 3 0 0 0) 16 30 (((k3 M 3 0 0 0) 3 29 0).toNatClampNeg) p1) 3 29 0).toNatClampNeg) p2) 3 29 0).toNatClampNeg) 111) 16 7 p1.toNatClampNeg)) 3 29 0).toNatClampNeg) (-1)) 3 29 0)) 3 29 0) + 1)) 3 29 0) - 1) (k3 (k3 (k3 (k3 (k3 (k3 (k3 (k3 M 3 0 0 0) 16 30 (((k3 M 3 0 0 0) 3 29 0).toNatClampNeg) p1) 16 31 (((k3 (k3 M 3 0 0 0) 16 30 (((k3 M 3 0 0 0) 3 29 0).toNatClampNeg) p1) 3 29 0).toNatClampNeg) p2) 13 32 (((k3 (k3 (k3 M 3 0 0 0) 16 30 (((k3 M 3 0 0 0) 3 29 0).toNatClampNeg) p1) 16 31 (((k3 (k3 M 3 0 0 0) 16 30 (((k3 M 3 0 0 0) 3 29 0).toNatClampNeg) p1) 3 29 0).toNatClampNeg) p2) 3 29 0).toNatClampNeg) 111) 16 33 (((k3 (k3 (k3 (k3 M 3 0 0 0) 16 30 (((k3 M 3 0 0 0) 3 29 0).toNatClampNeg) p1) 16 31 (((k3 (k3 M 3 0 0 0) 16 30 (((k3 M 3 0 0 0) 3 29 0).toNatClampNeg) p1) 3 29 0).toNatClampNeg) p2) 13 32 (((k3 (k3 (k3 M 3 0 0 0) 16 30 (((k3 M 3 0 0 0) 3 29 0).toNatClampNeg) p1) 16 31 (((k3 (k3 M 3 0 0 0) 16 30 (((k3 M 3 0 0 0) 3 29 0).toNatClampNeg) p1) 3 29 0).toNatClampNeg) p2) 3 29 0).toNatClampNeg) 111) 3 29 0).toNatClampNeg) ((k3 (k3 (k3 (k3 M 3 0 0 0) 16 30 (((k3 M 3 0 0 0) 3 29 0).toNatClampNeg) p1) 16 31 (((k3 (k3 M 3 0 0 0) 16 30 (((k3 M 3 0 0 0) 3 29 0).toNatClampNeg) p1) 3 29 0).toNatClampNeg) p2) 13 32 (((k3 (k3 (k3 M 3 0 0 0) 16 30 (((k3 M 3 0 0 0) 3 29 0).toNatClampNeg) p1) 16 31 (((k3 (k3 M 3 0 0 0) 16 30 (((k3 M 3 0 0 0) 3 29 0).toNatClampNeg) p1) 3 29 0).toNatClampNeg) p2) 3 29 0).toNatClampNeg) 111) 16 7 p1.toNatClampNeg)) 16 35 (((k3 (k3 (k3 (k3 (k3 M 3 0 0 0) 16 30 (((k3 M 3 0 0 0) 3 29 0).toNatClampNeg) p1) 16 31 (((k3 (k3 M 3 0 0 0) 16 30 (((k3 M 3 0 0 0) 3 29 0).toNatClampNeg) p1) 3 29 0).toNatClampNeg) p2) 13 32 (((k3 (k3 (k3 M 3 0 0 0) 16 30 (((k3 M 3 0 0 0) 3 29 0).toNatClampNeg) p1) 16 31 (((k3 (k3 M 3 0 0 0) 16 30 (((k3 M 3 0 0 0) 3 29 0).toNatClampNeg) p1) 3 29 0).toNatClampNeg) p2) 3 29 0).toNatClampNeg) 111) 16 33 (((k3 (k3 (k3 (k3 M 3 0 0 0) 16 30 (((k3 M 3 0 0 0) 3 29 0).toNatClampNeg) p1) 16 31 (((k3 (k3 M 3 0 0 0) 16 30 (((k3 M 3 0 0 0) 3 29 0).toNatClampNeg) p1) 3 29 0).toNatClampNeg) p2) 13 32 (((k3 (k3 (k3 M 3 0 0 0) 16 30 (((k3 M 3 0 0 0) 3 29 0).toNatClampNeg) p1) 16 31 (((k3 (k3 M 3 0 0 0) 16 30 (((k3 M 3 0 0 0) 3 29 0).toNatClampNeg) p1) 3 29 0).toNatClampNeg) p2) 3 29 0).toNatClampNeg) 111) 3 29 0).toNatClampNeg) ((k3 (k3 (k3 (k3 M 3 0 0 0) 16 30 (((k3 M 3 0 0 0) 3 29 0).toNatClampNeg) p1) 16 31 (((k3 (k3 M 3 0 0 0) 16 30 (((k3 M 3 0 0 0) 3 29 0).toNatClampNeg) p1) 3 29 0).toNatClampNeg) p2) 13 32 (((k3 (k3 (k3 M 3 0 0 0) 16 30 (((k3 M 3 0 0 0) 3 29 0).toNatClampNeg) p1) 16 31 (((k3 (k3 M 3 0 0 0) 16 30 (((k3 M 3 0 0 0) 3 29 0).toNatClampNeg) p1) 3 29 0).toNatClampNeg) p2) 3 29 0).toNatClampNeg) 111) 16 7 p1.toNatClampNeg)) 3 29 0).toNatClampNeg) (-1)) 16 10 p1.toNatClampNeg ((k3 (k3 (k3 (k3 (k3 (k3 M 3 0 0 0) 16 30 (((k3 M 3 0 0 0) 3 29 0).toNatClampNeg) p1) 16 31 (((k3 (k3 M 3 0 0 0) 16 30 (((k3 M 3 0 0 0) 3 29 0).toNatClampNeg) p1) 3 29 0).toNatClampNeg) p2) 13 32 (((k3 (k3 (k3 M 3 0 0 0) 16 30 (((k3 M 3 0 0 0) 3 29 0).toNatClampNeg) p1) 16 31 (((k3 (k3 M 3 0 0 0) 16 30 (((k3 M 3 0 0 0) 3 29 0).toNatClampNeg) p1) 3 29 0).toNatClampNeg) p2) 3 29 0).toNatClampNeg) 111) 16 33 (((k3 (k3 (k3 (k3 M 3 0 0 0) 16 30 (((k3 M 3 0 0 0) 3 29 0).toNatClampNeg) p1) 16 31 (((k3 (k3 M 3 0 0 0) 16 30 (((k3 M 3 0 0 0) 3 29 0).toNatClampNeg) p1) 3 29 0).toNatClampNeg) p2) 13 32 (((k3 (k3 (k3 M 3 0 0 0) 16 30 (((k3 M 3 0 0 0) 3 29 0).toNatClampNeg) p1) 16 31 (((k3 (k3 M 3 0 0 0) 16 30 (((k3 M 3 0 0 0) 3 29 0).toNatClampNeg) p1) 3 29 0).toNatClampNeg) p2) 3 29 0).toNatClampNeg) 111) 3 29 0).toNatClampNeg) ((k3 (k3 (k3 (k3 M 3 0 0 0) 16 30 (((k3 M 3 0 0 0) 3 29 0).toNatClampNeg) p1) 16 31 (((k3 (k3 M 3 0 0 0) 16 30 (((k3 M 3 0 0 0) 3 29 0).toNatClampNeg) p1) 3 29 0).toNatClampNeg) p2) 13 32 (((k3 (k3 (k3 M 3 0 0 0) 16 30 (((k3 M 3 0 0 0) 3 29 0).toNatClampNeg) p1) 16 31 (((k3 (k3 M 3 0 0 0) 16 30 (((k3 M 3 0 0 0) 3 29 0).toNatClampNeg) p1) 3 29 0).toNatClampNeg) p2) 3 29 0).toNatClampNeg) 111) 16 7 p1.toNatClampNeg)) 16 35 (((k3 (k3 (k3 (k3 (k3 M 3 0 0 0) 16 30 (((k3 M 3 0 0 0) 3 29 0).toNatClampNeg) p1) 16 31 (((k3 (k3 M 3 0 0 0) 16 30 (((k3 M 3 0 0 0) 3 29 0).toNatClampNeg) p1) 3 29 0).toNatClampNeg) p2) 13 32 (((k3 (k3 (k3 M 3 0 0 0) 16 30 (((k3 M 3 0 0 0) 3 29 0).toNatClampNeg) p1) 16 31 (((k3 (k3 M 3 0 0 0) 16 30 (((k3 M 3 0 0 0) 3 29 0).toNatClampNeg) p1) 3 29 0).toNatClampNeg) p2) 3 29 0).toNatClampNeg) 111) 16 33 (((k3 (k3 (k3 (k3 M 3 0 0 0) 16 30 (((k3 M 3 0 0 0) 3 29 0).toNatClampNeg) p1) 16 31 (((k3 (k3 M 3 0 0 0) 16 30 (((k3 M 3 0 0 0) 3 29 0).toNatClampNeg) p1) 3 29 0).toNatClampNeg) p2) 13 32 (((k3 (k3 (k3 M 3 0 0 0) 16 30 (((k3 M 3 0 0 0) 3 29 0).toNatClampNeg) p1) 16 31 (((k3 (k3 M 3 0 0 0) 16 30 (((k3 M 3 0 0 0) 3 29 0).toNatClampNeg) p1) 3 29 0).toNatClampNeg) p2) 3 29 0).toNatClampNeg) 111) 3 29 0).toNatClampNeg) ((k3 (k3 (k3 (k3 M 3 0 0 0) 16 30 (((k3 M 3 0 0 0) 3 29 0).toNatClampNeg) p1) 16 31 (((k3 (k3 M 3 0 0 0) 16 30 (((k3 M 3 0 0 0) 3 29 0).toNatClampNeg) p1) 3 29 0).toNatClampNeg) p2) 13 32 (((k3 (k3 (k3 M 3 0 0 0) 16 30 (((k3 M 3 0 0 0) 3 29 0).toNatClampNeg) p1) 16 31 (((k3 (k3 M 3 0 0 0) 16 30 (((k3 M 3 0 0 0) 3 29 0).toNatClampNeg) p1) 3 29 0).toNatClampNeg) p2) 3 29 0).toNatClampNeg) 111) 16 7 p1.toNatClampNeg)) 3 29 0).toNatClampNeg) (-1)) 3 29 0)) 3 29 0 (((k3 (k3 (k3 (k3 (k3 (k3 (k3 M 3 0 0 0) 16 30 (((k3 M 3 0 0 0) 3 29 0).toNatClampNeg) p1) 16 31 (((k3 (k3 M 3 0 0 0) 16 30 (((k3 M 3 0 0 0) 3 29 0).toNatClampNeg) p1) 3 29 0).toNatClampNeg) p2) 13 32 (((k3 (k3 (k3 M 3 0 0 0) 16 30 (((k3 M 3 0 0 0) 3 29 0).toNatClampNeg) p1) 16 31 (((k3 (k3 M 3 0 0 0) 16 30 (((k3 M 3 0 0 0) 3 29 0).toNatClampNeg) p1) 3 29 0).toNatClampNeg) p2) 3 29 0).toNatClampNeg) 111) 16 33 (((k3 (k3 (k3 (k3 M 3 0 0 0) 16 30 (((k3 M 3 0 0 0) 3 29 0).toNatClampNeg) p1) 16 31 (((k3 (k3 M 3 0 0 0) 16 30 (((k3 M 3 0 0 0) 3 29 0).toNatClampNeg) p1) 3 29 0).toNatClampNeg) p2) 13 32 (((k3 (k3 (k3 M 3 0 0 0) 16 30 (((k3 M 3 0 0 0) 3 29 0).toNatClampNeg) p1) 16 31 (((k3 (k3 M 3 0 0 0) 16 30 (((k3 M 3 0 0 0) 3 29 0).toNatClampNeg) p1) 3 29 0).toNatClampNeg) p2) 3 29 0).toNatClampNeg) 111) 3 29 0).toNatClampNeg) ((k3 (k3 (k3 (k3 M 3 0 0 0) 16 30 (((k3 M 3 0 0 0) 3 29 0).toNatClampNeg) p1) 16 31 (((k3 (k3 M 3 0 0 0) 16 30 (((k3 M 3 0 0 0) 3 29 0).toNatClampNeg) p1) 3 29 0).toNatClampNeg) p2) 13 32 (((k3 (k3 (k3 M 3 0 0 0) 16 30 (((k3 M 3 0 0 0) 3 29 0).toNatClampNeg) p1) 16 31 (((k3 (k3 M 3 0 0 0) 16 30 (((k3 M 3 0 0 0) 3 29 0).toNatClampNeg) p1) 3 29 0).toNatClampNeg) p2) 3 29 0).toNatClampNeg) 111) 16 7 p1.toNatClampNeg)) 16 35 (((k3 (k3 (k3 (k3 (k3 M 3 0 0 0) 16 30 (((k3 M 3 0 0 0) 3 29 0).toNatClampNeg) p1) 16 31 (((k3 (k3 M 3 0 0 0) 16 30 (((k3 M 3 0 0 0) 3 29 0).toNatClampNeg) p1) 3 29 0).toNatClampNeg) p2) 13 32 (((k3 (k3 (k3 M 3 0 0 0) 16 30 (((k3 M 3 0 0 0) 3 29 0).toNatClampNeg) p1) 16 31 (((k3 (k3 M 3 0 0 0) 16 30 (((k3 M 3 0 0 0) 3 29 0).toNatClampNeg) p1) 3 29 0).toNatClampNeg) p2) 3 29 0).toNatClampNeg) 111) 16 33 (((k3 (k3 (k3 (k3 M 3 0 0 0) 16 30 (((k3 M 3 0 0 0) 3 29 0).toNatClampNeg) p1) 16 31 (((k3 (k3 M 3 0 0 0) 16 30 (((k3 M 3 0 0 0) 3 29 0).toNatClampNeg) p1) 3 29 0).toNatClampNeg) p2) 13 32 (((k3 (k3 (k3 M 3 0 0 0) 16 30 (((k3 M 3 0 0 0) 3 29 0).toNatClampNeg) p1) 16 31 (((k3 (k3 M 3 0 0 0) 16 30 (((k3 M 3 0 0 0) 3 29 0).toNatClampNeg) p1) 3 29 0).toNatClampNeg) p2) 3 29 0).toNatClampNeg) 111) 3 29 0).toNatClampNeg) ((k3 (k3 (k3 (k3 M 3 0 0 0) 16 30 (((k3 M 3 0 0 0) 3 29 0).toNatClampNeg) p1) 16 31 (((k3 (k3 M 3 0 0 0) 16 30 (((k3 M 3 0 0 0) 3 29 0).toNatClampNeg) p1) 3 29 0).toNatClampNeg) p2) 13 32 (((k3 (k3 (k3 M 3 0 0 0) 16 30 (((k3 M 3 0 0 0) 3 29 0).toNatClampNeg) p1) 16 31 (((k3 (k3 M 3 0 0 0) 16 30 (((k3 M 3 0 0 0) 3 29 0).toNatClampNeg) p1) 3 29 0).toNatClampNeg) p2) 3 29 0).toNatClampNeg) 111) 16 7 p1.toNatClampNeg)) 3 29 0).toNatClampNeg) (-1)) 16 10 p1.toNatClampNeg ((k3 (k3 (k3 (k3 (k3 (k3 M 3 0 0 0) 16 30 (((k3 M 3 0 0 0) 3 29 0).toNatClampNeg) p1) 16 31 (((k3 (k3 M 3 0 0 0) 16 30 (((k3 M 3 0 0 0) 3 29 0).toNatClampNeg) p1) 3 29 0).toNatClampNeg) p2) 13 32 (((k3 (k3 (k3 M 3 0 0 0) 16 30 (((k3 M 3 0 0 0) 3 29 0).toNatClampNeg) p1) 16 31 (((k3 (k3 M 3 0 0 0) 16 30 (((k3 M 3 0 0 0) 3 29 0).toNatClampNeg) p1) 3 29 0).toNatClampNeg) p2) 3 29 0).toNatClampNeg) 111) 16 33 (((k3 (k3 (k3 (k3 M 3 0 0 0) 16 30 (((k3 M 3 0 0 0) 3 29 0).toNatClampNeg) p1) 16 31 (((k3 (k3 M 3 0 0 0) 16 30 (((k3 M 3 0 0 0) 3 29 0).toNatClampNeg) p1) 3 29 0).toNatClampNeg) p2) 13 32 (((k3 (k3 (k3 M 3 0 0 0) 16 30 (((k3 M 3 0 0 0) 3 29 0).toNatClampNeg) p1) 16 31 (((k3 (k3 M 3 0 0 0) 16 30 (((k3 M 3 0 0 0) 3 29 0).toNatClampNeg) p1) 3 29 0).toNatClampNeg) p2) 3 29 0).toNatClampNeg) 111) 3 29 0).toNatClampNeg) ((k3 (k3 (k3 (k3 M 3 0 0 0) 16 30 (((k3 M 3 0 0 0) 3 29 0).toNatClampNeg) p1) 16 31 (((k3 (k3 M 3 0 0 0) 16 30 (((k3 M 3 0 0 0) 3 29 0).toNatClampNeg) p1) 3 29 0).toNatClampNeg) p2) 13 32 (((k3 (k3 (k3 M 3 0 0 0) 16 30 (((k3 M 3 0 0 0) 3 29 0).toNatClampNeg) p1) 16 31 (((k3 (k3 M 3 0 0 0) 16 30 (((k3 M 3 0 0 0) 3 29 0).toNatClampNeg) p1) 3 29 0).toNatClampNeg) p2) 3 29 0).toNatClampNeg) 111) 16 7 p1.toNatClampNeg)) 16 35 (((k3 (k3 (k3 (k3 (k3 M 3 0 0 0) 16 30 (((k3 M 3 0 0 0) 3 29 0).toNatClampNeg) p1) 16 31 (((k3 (k3 M 3 0 0 0) 16 30 (((k3 M 3 0 0 0) 3 29 0).toNatClampNeg) p1) 3 29 0).toNatClampNeg) p2) 13 32 (((k3 (k3 (k3 M 3 0 0 0) 16 30 (((k3 M 3 0 0 0) 3 29 0).toNatClampNeg) p1) 16 31 (((k3 (k3 M 3 0 0 0) 16 30 (((k3 M 3 0 0 0) 3 29 0).toNatClampNeg) p1) 3 29 0).toNatClampNeg) p2) 3 29 0).toNatClampNeg) 111) 16 33 (((k3 (k3 (k3 (k3 M 3 0 0 0) 16 30 (((k3 M 3 0 0 0) 3 29 0).toNatClampNeg) p1) 16 31 (((k3 (k3 M 3 0 0 0) 16 30 (((k3 M 3 0 0 0) 3 29 0).toNatClampNeg) p1) 3 29 0).toNatClampNeg) p2) 13 32 (((k3 (k3 (k3 M 3 0 0 0) 16 30 (((k3 M 3 0 0 0) 3 29 0).toNatClampNeg) p1) 16 31 (((k3 (k3 M 3 0 0 0) 16 30 (((k3 M 3 0 0 0) 3 29 0).toNatClampNeg) p1) 3 29 0).toNatClampNeg) p2) 3 29 0).toNatClampNeg) 111) 3 29 0).toNatClampNeg) ((k3 (k3 (k3 (k3 M 3 0 0 0) 16 30 (((k3 M 3 0 0 0) 3 29 0).toNatClampNeg) p1) 16 31 (((k3 (k3 M 3 0 0 0) 16 30 (((k3 M 3 0 0 0) 3 29 0).toNatClampNeg) p1) 3 29 0).toNatClampNeg) p2) 13 32 (((k3 (k3 (k3 M 3 0 0 0) 16 30 (((k3 M 3 0 0 0) 3 29 0).toNatClampNeg) p1) 16 31 (((k3 (k3 M 3 0 0 0) 16 30 (((k3 M 3 0 0 0) 3 29 0).toNatClampNeg) p1) 3 29 0).toNatClampNeg) p2) 3 29 0).toNatClampNeg) 111) 16 7 p1.toNatClampNeg)) 3 29 0).toNatClampNeg) (-1)) 3 29 0)) 3 29 0) + 1)) ap)))))))) ∧ (((k3 M 3 0 0 0) 3 29 0) = 60 → ((wpX7_fails (fun r22 M23 ap24 => post r22 M23 ap24) (k3 M 3 0 0 0) ap 3)))))))))))))) ∧ (r3 = 0 → ((wpX7_fails (fun r25 M26 ap27 => post r25 M26 ap27) (k3 M 3 0 0 0) ap 2))))) (k3 M 3 0 0 0) ap p2 1 999))) ∧ (r1 = 0 → ((wpX7_fails (fun r28 M29 ap30 => post r28 M29 ap30) (k3 M 3 0 0 0) ap 1))))) (k3 M 3 0 0 0) ap p1)
theorem hdX7_offer : yX7_offer.cls ≠ "java/lang/invoke/MethodHandle" ∧ yX7_offer.cls ≠ "java/lang/invoke/VarHandle" ∧ (parseMethodDescriptor yX7_offer.desc).map (fun d => d.parameters.length) = some 2 := by decide +kernel
set_option maxHeartbeats 4000000 in
set_option maxRecDepth 100000 in
theorem mtX7_offer {l : Launch} {D : va_G} {cI : Nat → ClassId} {e0 : Nat} {A : Nat → Prop} {ad : Nat → Nat → Nat} {K M : KS} {ap o : Int64} {od : UInt64} {mc ms : Nat} {p1 : Int32} {p2 : Int32} {post : Int32 → KS → Int64 → Prop} (h : wpX7_offer post M ap p1 p2) : CM l D cI e0 A yX7_offer cX7_offer 3 (some FieldType.int) 2 43 mc ms [.ref (ad 3 0), .int p1, .int p2] (HT D cI e0 A ad K M ap o od) (qM D cI e0 A ad K o od rI post) xN := by
  refine CM.of (by decide) (Nat.le_of_ble_eq_true rfl) (fun p e s m below meth c ls FX hw hS hl => ?_)
  obtain ⟨S, hg, hr, hlk, hnm, hout⟩ := FX
  have hl : lv_has ls 3 [(0, .ref (ad 3 0)), (1, .int p1), (2, .int p2)] := hl
  unfold wpX7_offer at h
  refine lv_aload_n S.1 S.2.1 dX7_offer_0 rfl (lv_at hl 0 rfl) ?_
  refine lv_iconst (v := 0) S.1 S.2.1 dX7_offer_1 (by decide) ?_
  refine p3_0 S hg hS hw u1044 dX7_offer_2 (fun H locs hw hS => ?_)
  refine lv_aload_n S.1 S.2.1 dX7_offer_5 rfl (lv_at hl 0 rfl) ?_
  refine lv_iload_n S.1 S.2.1 dX7_offer_6 rfl (lv_at hl 1 rfl) ?_
  refine r_call (rest := []) S hg hS (mtX7_isCard (mc := 0) (ms := 0) h) u1191 u1193 u29 u49 u1194 hdX7_isCard (rv3 hg hw) hw ⟨Nat.le_of_ble_eq_true rfl, Nat.le_of_ble_eq_true rfl⟩ ⟨by show 0 + 0 ≤ mc; omega, by show 0 + 0 ≤ ms; omega⟩ hl.1 (Nat.le_of_ble_eq_true rfl) rfl dX7_offer_7 (fun E ce q H1 locs1 hx hS1 hc1 hc2 hc3 => hx.elim) (fun rv H locs hq hS => ?_)
  obtain ⟨r1, rfl, h, hw⟩ := hq
  show W p l e _ s m _ below meth c H locs _ _ _ (F0 m 10 ls [.int r1])
  show W p l e _ s m _ below meth c H locs 0 0 _ _
  refine lv_if_ne (tgt := 19) S.1 S.2.1 dX7_offer_10 (by decide) (fun c2 => ?_) (fun c2 => ?_)
  · have h := h.1 c2
    refine lv_iload_n S.1 S.2.1 dX7_offer_19 rfl (lv_at hl 2 rfl) ?_
    refine lv_iconst (v := 1) S.1 S.2.1 dX7_offer_20 (by decide) ?_
    refine lv_sipush (v := 999) S.1 S.2.1 dX7_offer_21 (by decide) ?_
    refine r_callS (rest := []) S hg hS (mtX7_in (mc := 0) (ms := 0) h) u1168 u1169 u49 u1170 hdX7_in hw ⟨Nat.le_of_ble_eq_true rfl, Nat.le_of_ble_eq_true rfl⟩ ⟨by show 0 + 0 ≤ mc; omega, by show 0 + 0 ≤ ms; omega⟩ hl.1 (Nat.le_of_ble_eq_true rfl) rfl dX7_offer_24 (fun E ce q H1 locs1 hx hS1 hc1 hc2 hc3 => hx.elim) (fun rv H locs hq hS => ?_)
    obtain ⟨r3, rfl, h, hw⟩ := hq
    show W p l e _ s m _ below meth c H locs _ _ _ (F0 m 27 ls [.int r3])
    show W p l e _ s m _ below meth c H locs 0 0 _ _
    refine lv_if_ne (tgt := 36) S.1 S.2.1 dX7_offer_27 (by decide) (fun c4 => ?_) (fun c4 => ?_)
    · have h := h.1 c4
      refine lv_aload_n S.1 S.2.1 dX7_offer_36 rfl (lv_at hl 0 rfl) ?_
      refine g3_8 S hg hw u1052 dX7_offer_37 ?_
      refine lv_iload_n S.1 S.2.1 dX7_offer_40 rfl (lv_at hl 1 rfl) ?_
      obtain ⟨g5, h⟩ := h
      refine a13 S hg hw rfl g5 dX7_offer_41 ?_
      refine lv_bipush (v := 115) S.1 S.2.1 dX7_offer_42 (by decide) ?_
      refine lv_icmp_eq (tgt := 66) S.1 S.2.1 dX7_offer_44 (by decide) (fun c6 => ?_) (fun c6 => ?_)
      · have h := h.1 c6
        refine lv_aload_n S.1 S.2.1 dX7_offer_66 rfl (lv_at hl 0 rfl) ?_
        refine lv_iconst (v := 3) S.1 S.2.1 dX7_offer_67 (by decide) ?_
        refine r_call (rest := []) S hg hS (mtX7_fails (mc := 0) (ms := 0) h) u1171 u1173 u26 u49 u1174 hdX7_fails (rv3 hg hw) hw ⟨Nat.le_of_ble_eq_true rfl, Nat.le_of_ble_eq_true rfl⟩ ⟨by show 0 + 0 ≤ mc; omega, by show 0 + 0 ≤ ms; omega⟩ hl.1 (Nat.le_of_ble_eq_true rfl) rfl dX7_offer_68 (fun E ce q H1 locs1 hx hS1 hc1 hc2 hc3 => hx.elim) (fun rv H locs hq hS => ?_)
        obtain ⟨r7, M8, ap9, rfl, h, hw⟩ := hq
        show W p l e _ s m _ below meth c H locs _ _ _ (F0 m 71 ls [.int r7])
        show W p l e _ s m _ below meth c H locs 0 0 _ _
        exact r_iret (y := yX7_offer) S hr rfl hlk hS (by omega) (by omega) dX7_offer_71 ⟨r7, _, _, rfl, h, hw⟩
      · have h := h.2 c6
        refine lv_aload_n S.1 S.2.1 dX7_offer_47 rfl (lv_at hl 0 rfl) ?_
        refine g3_10 S hg hw u1054 dX7_offer_48 ?_
        refine lv_iload_n S.1 S.2.1 dX7_offer_51 rfl (lv_at hl 1 rfl) ?_
        obtain ⟨g10, h⟩ := h
        refine a16 S hg hw rfl g10 dX7_offer_52 ?_
        refine lv_iconst (v := (-1)) S.1 S.2.1 dX7_offer_53 (by decide) ?_
        refine lv_icmp_ne (tgt := 66) S.1 S.2.1 dX7_offer_54 (by decide) (fun c11 => ?_) (fun c11 => ?_)
        · have h := h.1 c11
          refine lv_aload_n S.1 S.2.1 dX7_offer_66 rfl (lv_at hl 0 rfl) ?_
          refine lv_iconst (v := 3) S.1 S.2.1 dX7_offer_67 (by decide) ?_
          refine r_call (rest := []) S hg hS (mtX7_fails (mc := 0) (ms := 0) h) u1171 u1173 u26 u49 u1174 hdX7_fails (rv3 hg hw) hw ⟨Nat.le_of_ble_eq_true rfl, Nat.le_of_ble_eq_true rfl⟩ ⟨by show 0 + 0 ≤ mc; omega, by show 0 + 0 ≤ ms; omega⟩ hl.1 (Nat.le_of_ble_eq_true rfl) rfl dX7_offer_68 (fun E ce q H1 locs1 hx hS1 hc1 hc2 hc3 => hx.elim) (fun rv H locs hq hS => ?_)
          obtain ⟨r12, M13, ap14, rfl, h, hw⟩ := hq
          show W p l e _ s m _ below meth c H locs _ _ _ (F0 m 71 ls [.int r12])
          show W p l e _ s m _ below meth c H locs 0 0 _ _
          exact r_iret (y := yX7_offer) S hr rfl hlk hS (by omega) (by omega) dX7_offer_71 ⟨r12, _, _, rfl, h, hw⟩
        · have h := h.2 c11
          refine lv_aload_n S.1 S.2.1 dX7_offer_57 rfl (lv_at hl 0 rfl) ?_
          refine g3_29 S hg hw u1073 dX7_offer_58 ?_
          refine lv_bipush (v := 60) S.1 S.2.1 dX7_offer_61 (by decide) ?_
          refine lv_icmp_ne (tgt := 72) S.1 S.2.1 dX7_offer_63 (by decide) (fun c15 => ?_) (fun c15 => ?_)
          · have h := h.1 c15
            refine lv_aload_n S.1 S.2.1 dX7_offer_72 rfl (lv_at hl 0 rfl) ?_
            refine g3_30 S hg hw u1074 dX7_offer_73 ?_
            refine lv_aload_n S.1 S.2.1 dX7_offer_76 rfl (lv_at hl 0 rfl) ?_
            refine g3_29 S hg hw u1073 dX7_offer_77 ?_
            refine lv_iload_n S.1 S.2.1 dX7_offer_80 rfl (lv_at hl 1 rfl) ?_
            obtain ⟨g16, h⟩ := h
            refine s16 S hg hS hw rfl g16 dX7_offer_81 (fun H locs hw hS => ?_)
            refine lv_aload_n S.1 S.2.1 dX7_offer_82 rfl (lv_at hl 0 rfl) ?_
            refine g3_31 S hg hw u1075 dX7_offer_83 ?_
            refine lv_aload_n S.1 S.2.1 dX7_offer_86 rfl (lv_at hl 0 rfl) ?_
            refine g3_29 S hg hw u1073 dX7_offer_87 ?_
            refine lv_iload_n S.1 S.2.1 dX7_offer_90 rfl (lv_at hl 2 rfl) ?_
            obtain ⟨g17, h⟩ := h
            refine s16 S hg hS hw rfl g17 dX7_offer_91 (fun H locs hw hS => ?_)
            refine lv_aload_n S.1 S.2.1 dX7_offer_92 rfl (lv_at hl 0 rfl) ?_
            refine g3_32 S hg hw u1076 dX7_offer_93 ?_
            refine lv_aload_n S.1 S.2.1 dX7_offer_96 rfl (lv_at hl 0 rfl) ?_
            refine g3_29 S hg hw u1073 dX7_offer_97 ?_
            refine lv_bipush (v := 111) S.1 S.2.1 dX7_offer_100 (by decide) ?_
            obtain ⟨g18, h⟩ := h
            refine s13 S hg hS hw rfl g18 (by decide) dX7_offer_102 (fun H locs hw hS => ?_)
            refine lv_aload_n S.1 S.2.1 dX7_offer_103 rfl (lv_at hl 0 rfl) ?_
            refine g3_33 S hg hw u1077 dX7_offer_104 ?_
            refine lv_aload_n S.1 S.2.1 dX7_offer_107 rfl (lv_at hl 0 rfl) ?_
            refine g3_29 S hg hw u1073 dX7_offer_108 ?_
            refine lv_aload_n S.1 S.2.1 dX7_offer_111 rfl (lv_at hl 0 rfl) ?_
            refine g3_7 S hg hw u1051 dX7_offer_112 ?_
            refine lv_iload_n S.1 S.2.1 dX7_offer_115 rfl (lv_at hl 1 rfl) ?_
            obtain ⟨g19, h⟩ := h
            refine a16 S hg hw rfl g19 dX7_offer_116 ?_
            obtain ⟨g20, h⟩ := h
            refine s16 S hg hS hw rfl g20 dX7_offer_117 (fun H locs hw hS => ?_)
            refine lv_aload_n S.1 S.2.1 dX7_offer_118 rfl (lv_at hl 0 rfl) ?_
            refine g3_35 S hg hw u1079 dX7_offer_119 ?_
            refine lv_aload_n S.1 S.2.1 dX7_offer_122 rfl (lv_at hl 0 rfl) ?_
            refine g3_29 S hg hw u1073 dX7_offer_123 ?_
            refine lv_iconst (v := (-1)) S.1 S.2.1 dX7_offer_126 (by decide) ?_
            obtain ⟨g21, h⟩ := h
            refine s16 S hg hS hw rfl g21 dX7_offer_127 (fun H locs hw hS => ?_)
            refine lv_aload_n S.1 S.2.1 dX7_offer_128 rfl (lv_at hl 0 rfl) ?_
            refine g3_10 S hg hw u1054 dX7_offer_129 ?_
            refine lv_iload_n S.1 S.2.1 dX7_offer_132 rfl (lv_at hl 1 rfl) ?_
            refine lv_aload_n S.1 S.2.1 dX7_offer_133 rfl (lv_at hl 0 rfl) ?_
            refine g3_29 S hg hw u1073 dX7_offer_134 ?_
            refine s16 S hg hS hw rfl g10 dX7_offer_137 (fun H locs hw hS => ?_)
            refine lv_aload_n S.1 S.2.1 dX7_offer_138 rfl (lv_at hl 0 rfl) ?_
            refine lv_dup S.1 S.2.1 dX7_offer_139 rfl ?_
            refine g3_29 S hg hw u1073 dX7_offer_140 ?_
            refine lv_iconst (v := 1) S.1 S.2.1 dX7_offer_143 (by decide) ?_
            refine lv_iadd S.1 S.2.1 dX7_offer_144 ?_
            refine p3_29 S hg hS hw u1073 dX7_offer_145 (fun H locs hw hS => ?_)
            refine lv_aload_n S.1 S.2.1 dX7_offer_148 rfl (lv_at hl 0 rfl) ?_
            refine g3_29 S hg hw u1073 dX7_offer_149 ?_
            refine lv_iconst (v := 1) S.1 S.2.1 dX7_offer_152 (by decide) ?_
            refine lv_isub S.1 S.2.1 dX7_offer_153 ?_
            exact r_iret (y := yX7_offer) S hr rfl hlk hS (by omega) (by omega) dX7_offer_154 ⟨(((k3 (k3 (k3 (k3 (k3 (k3 (k3 (k3 M 3 0 0 0) 16 30 (((k3 M 3 0 0 0) 3 29 0).toNatClampNeg) p1) 16 31 (((k3 (k3 M 3 0 0 0) 16 30 (((k3 M 3 0 0 0) 3 29 0).toNatClampNeg) p1) 3 29 0).toNatClampNeg) p2) 13 32 (((k3 (k3 (k3 M 3 0 0 0) 16 30 (((k3 M 3 0 0 0) 3 29 0).toNatClampNeg) p1) 16 31 (((k3 (k3 M 3 0 0 0) 16 30 (((k3 M 3 0 0 0) 3 29 0).toNatClampNeg) p1) 3 29 0).toNatClampNeg) p2) 3 29 0).toNatClampNeg) 111) 16 33 (((k3 (k3 (k3 (k3 M 3 0 0 0) 16 30 (((k3 M 3 0 0 0) 3 29 0).toNatClampNeg) p1) 16 31 (((k3 (k3 M 3 0 0 0) 16 30 (((k3 M 3 0 0 0) 3 29 0).toNatClampNeg) p1) 3 29 0).toNatClampNeg) p2) 13 32 (((k3 (k3 (k3 M 3 0 0 0) 16 30 (((k3 M 3 0 0 0) 3 29 0).toNatClampNeg) p1) 16 31 (((k3 (k3 M 3 0 0 0) 16 30 (((k3 M 3 0 0 0) 3 29 0).toNatClampNeg) p1) 3 29 0).toNatClampNeg) p2) 3 29 0).toNatClampNeg) 111) 3 29 0).toNatClampNeg) ((k3 (k3 (k3 (k3 M 3 0 0 0) 16 30 (((k3 M 3 0 0 0) 3 29 0).toNatClampNeg) p1) 16 31 (((k3 (k3 M 3 0 0 0) 16 30 (((k3 M 3 0 0 0) 3 29 0).toNatClampNeg) p1) 3 29 0).toNatClampNeg) p2) 13 32 (((k3 (k3 (k3 M 3 0 0 0) 16 30 (((k3 M 3 0 0 0) 3 29 0).toNatClampNeg) p1) 16 31 (((k3 (k3 M 3 0 0 0) 16 30 (((k3 M 3 0 0 0) 3 29 0).toNatClampNeg) p1) 3 29 0).toNatClampNeg) p2) 3 29 0).toNatClampNeg) 111) 16 7 p1.toNatClampNeg)) 16 35 (((k3 (k3 (k3 (k3 (k3 M 3 0 0 0) 16 30 (((k3 M 3 0 0 0) 3 29 0).toNatClampNeg) p1) 16 31 (((k3 (k3 M 3 0 0 0) 16 30 (((k3 M 3 0 0 0) 3 29 0).toNatClampNeg) p1) 3 29 0).toNatClampNeg) p2) 13 32 (((k3 (k3 (k3 M 3 0 0 0) 16 30 (((k3 M 3 0 0 0) 3 29 0).toNatClampNeg) p1) 16 31 (((k3 (k3 M 3 0 0 0) 16 30 (((k3 M 3 0 0 0) 3 29 0).toNatClampNeg) p1) 3 29 0).toNatClampNeg) p2) 3 29 0).toNatClampNeg) 111) 16 33 (((k3 (k3 (k3 (k3 M 3 0 0 0) 16 30 (((k3 M 3 0 0 0) 3 29 0).toNatClampNeg) p1) 16 31 (((k3 (k3 M 3 0 0 0) 16 30 (((k3 M 3 0 0 0) 3 29 0).toNatClampNeg) p1) 3 29 0).toNatClampNeg) p2) 13 32 (((k3 (k3 (k3 M 3 0 0 0) 16 30 (((k3 M 3 0 0 0) 3 29 0).toNatClampNeg) p1) 16 31 (((k3 (k3 M 3 0 0 0) 16 30 (((k3 M 3 0 0 0) 3 29 0).toNatClampNeg) p1) 3 29 0).toNatClampNeg) p2) 3 29 0).toNatClampNeg) 111) 3 29 0).toNatClampNeg) ((k3 (k3 (k3 (k3 M 3 0 0 0) 16 30 (((k3 M 3 0 0 0) 3 29 0).toNatClampNeg) p1) 16 31 (((k3 (k3 M 3 0 0 0) 16 30 (((k3 M 3 0 0 0) 3 29 0).toNatClampNeg) p1) 3 29 0).toNatClampNeg) p2) 13 32 (((k3 (k3 (k3 M 3 0 0 0) 16 30 (((k3 M 3 0 0 0) 3 29 0).toNatClampNeg) p1) 16 31 (((k3 (k3 M 3 0 0 0) 16 30 (((k3 M 3 0 0 0) 3 29 0).toNatClampNeg) p1) 3 29 0).toNatClampNeg) p2) 3 29 0).toNatClampNeg) 111) 16 7 p1.toNatClampNeg)) 3 29 0).toNatClampNeg) (-1)) 16 10 p1.toNatClampNeg ((k3 (k3 (k3 (k3 (k3 (k3 M 3 0 0 0) 16 30 (((k3 M 3 0 0 0) 3 29 0).toNatClampNeg) p1) 16 31 (((k3 (k3 M 3 0 0 0) 16 30 (((k3 M 3 0 0 0) 3 29 0).toNatClampNeg) p1) 3 29 0).toNatClampNeg) p2) 13 32 (((k3 (k3 (k3 M 3 0 0 0) 16 30 (((k3 M 3 0 0 0) 3 29 0).toNatClampNeg) p1) 16 31 (((k3 (k3 M 3 0 0 0) 16 30 (((k3 M 3 0 0 0) 3 29 0).toNatClampNeg) p1) 3 29 0).toNatClampNeg) p2) 3 29 0).toNatClampNeg) 111) 16 33 (((k3 (k3 (k3 (k3 M 3 0 0 0) 16 30 (((k3 M 3 0 0 0) 3 29 0).toNatClampNeg) p1) 16 31 (((k3 (k3 M 3 0 0 0) 16 30 (((k3 M 3 0 0 0) 3 29 0).toNatClampNeg) p1) 3 29 0).toNatClampNeg) p2) 13 32 (((k3 (k3 (k3 M 3 0 0 0) 16 30 (((k3 M 3 0 0 0) 3 29 0).toNatClampNeg) p1) 16 31 (((k3 (k3 M 3 0 0 0) 16 30 (((k3 M 3 0 0 0) 3 29 0).toNatClampNeg) p1) 3 29 0).toNatClampNeg) p2) 3 29 0).toNatClampNeg) 111) 3 29 0).toNatClampNeg) ((k3 (k3 (k3 (k3 M 3 0 0 0) 16 30 (((k3 M 3 0 0 0) 3 29 0).toNatClampNeg) p1) 16 31 (((k3 (k3 M 3 0 0 0) 16 30 (((k3 M 3 0 0 0) 3 29 0).toNatClampNeg) p1) 3 29 0).toNatClampNeg) p2) 13 32 (((k3 (k3 (k3 M 3 0 0 0) 16 30 (((k3 M 3 0 0 0) 3 29 0).toNatClampNeg) p1) 16 31 (((k3 (k3 M 3 0 0 0) 16 30 (((k3 M 3 0 0 0) 3 29 0).toNatClampNeg) p1) 3 29 0).toNatClampNeg) p2) 3 29 0).toNatClampNeg) 111) 16 7 p1.toNatClampNeg)) 16 35 (((k3 (k3 (k3 (k3 (k3 M 3 0 0 0) 16 30 (((k3 M 3 0 0 0) 3 29 0).toNatClampNeg) p1) 16 31 (((k3 (k3 M 3 0 0 0) 16 30 (((k3 M 3 0 0 0) 3 29 0).toNatClampNeg) p1) 3 29 0).toNatClampNeg) p2) 13 32 (((k3 (k3 (k3 M 3 0 0 0) 16 30 (((k3 M 3 0 0 0) 3 29 0).toNatClampNeg) p1) 16 31 (((k3 (k3 M 3 0 0 0) 16 30 (((k3 M 3 0 0 0) 3 29 0).toNatClampNeg) p1) 3 29 0).toNatClampNeg) p2) 3 29 0).toNatClampNeg) 111) 16 33 (((k3 (k3 (k3 (k3 M 3 0 0 0) 16 30 (((k3 M 3 0 0 0) 3 29 0).toNatClampNeg) p1) 16 31 (((k3 (k3 M 3 0 0 0) 16 30 (((k3 M 3 0 0 0) 3 29 0).toNatClampNeg) p1) 3 29 0).toNatClampNeg) p2) 13 32 (((k3 (k3 (k3 M 3 0 0 0) 16 30 (((k3 M 3 0 0 0) 3 29 0).toNatClampNeg) p1) 16 31 (((k3 (k3 M 3 0 0 0) 16 30 (((k3 M 3 0 0 0) 3 29 0).toNatClampNeg) p1) 3 29 0).toNatClampNeg) p2) 3 29 0).toNatClampNeg) 111) 3 29 0).toNatClampNeg) ((k3 (k3 (k3 (k3 M 3 0 0 0) 16 30 (((k3 M 3 0 0 0) 3 29 0).toNatClampNeg) p1) 16 31 (((k3 (k3 M 3 0 0 0) 16 30 (((k3 M 3 0 0 0) 3 29 0).toNatClampNeg) p1) 3 29 0).toNatClampNeg) p2) 13 32 (((k3 (k3 (k3 M 3 0 0 0) 16 30 (((k3 M 3 0 0 0) 3 29 0).toNatClampNeg) p1) 16 31 (((k3 (k3 M 3 0 0 0) 16 30 (((k3 M 3 0 0 0) 3 29 0).toNatClampNeg) p1) 3 29 0).toNatClampNeg) p2) 3 29 0).toNatClampNeg) 111) 16 7 p1.toNatClampNeg)) 3 29 0).toNatClampNeg) (-1)) 3 29 0)) 3 29 0 (((k3 (k3 (k3 (k3 (k3 (k3 (k3 M 3 0 0 0) 16 30 (((k3 M 3 0 0 0) 3 29 0).toNatClampNeg) p1) 16 31 (((k3 (k3 M 3 0 0 0) 16 30 (((k3 M 3 0 0 0) 3 29 0).toNatClampNeg) p1) 3 29 0).toNatClampNeg) p2) 13 32 (((k3 (k3 (k3 M 3 0 0 0) 16 30 (((k3 M 3 0 0 0) 3 29 0).toNatClampNeg) p1) 16 31 (((k3 (k3 M 3 0 0 0) 16 30 (((k3 M 3 0 0 0) 3 29 0).toNatClampNeg) p1) 3 29 0).toNatClampNeg) p2) 3 29 0).toNatClampNeg) 111) 16 33 (((k3 (k3 (k3 (k3 M 3 0 0 0) 16 30 (((k3 M 3 0 0 0) 3 29 0).toNatClampNeg) p1) 16 31 (((k3 (k3 M 3 0 0 0) 16 30 (((k3 M 3 0 0 0) 3 29 0).toNatClampNeg) p1) 3 29 0).toNatClampNeg) p2) 13 32 (((k3 (k3 (k3 M 3 0 0 0) 16 30 (((k3 M 3 0 0 0) 3 29 0).toNatClampNeg) p1) 16 31 (((k3 (k3 M 3 0 0 0) 16 30 (((k3 M 3 0 0 0) 3 29 0).toNatClampNeg) p1) 3 29 0).toNatClampNeg) p2) 3 29 0).toNatClampNeg) 111) 3 29 0).toNatClampNeg) ((k3 (k3 (k3 (k3 M 3 0 0 0) 16 30 (((k3 M 3 0 0 0) 3 29 0).toNatClampNeg) p1) 16 31 (((k3 (k3 M 3 0 0 0) 16 30 (((k3 M 3 0 0 0) 3 29 0).toNatClampNeg) p1) 3 29 0).toNatClampNeg) p2) 13 32 (((k3 (k3 (k3 M 3 0 0 0) 16 30 (((k3 M 3 0 0 0) 3 29 0).toNatClampNeg) p1) 16 31 (((k3 (k3 M 3 0 0 0) 16 30 (((k3 M 3 0 0 0) 3 29 0).toNatClampNeg) p1) 3 29 0).toNatClampNeg) p2) 3 29 0).toNatClampNeg) 111) 16 7 p1.toNatClampNeg)) 16 35 (((k3 (k3 (k3 (k3 (k3 M 3 0 0 0) 16 30 (((k3 M 3 0 0 0) 3 29 0).toNatClampNeg) p1) 16 31 (((k3 (k3 M 3 0 0 0) 16 30 (((k3 M 3 0 0 0) 3 29 0).toNatClampNeg) p1) 3 29 0).toNatClampNeg) p2) 13 32 (((k3 (k3 (k3 M 3 0 0 0) 16 30 (((k3 M 3 0 0 0) 3 29 0).toNatClampNeg) p1) 16 31 (((k3 (k3 M 3 0 0 0) 16 30 (((k3 M 3 0 0 0) 3 29 0).toNatClampNeg) p1) 3 29 0).toNatClampNeg) p2) 3 29 0).toNatClampNeg) 111) 16 33 (((k3 (k3 (k3 (k3 M 3 0 0 0) 16 30 (((k3 M 3 0 0 0) 3 29 0).toNatClampNeg) p1) 16 31 (((k3 (k3 M 3 0 0 0) 16 30 (((k3 M 3 0 0 0) 3 29 0).toNatClampNeg) p1) 3 29 0).toNatClampNeg) p2) 13 32 (((k3 (k3 (k3 M 3 0 0 0) 16 30 (((k3 M 3 0 0 0) 3 29 0).toNatClampNeg) p1) 16 31 (((k3 (k3 M 3 0 0 0) 16 30 (((k3 M 3 0 0 0) 3 29 0).toNatClampNeg) p1) 3 29 0).toNatClampNeg) p2) 3 29 0).toNatClampNeg) 111) 3 29 0).toNatClampNeg) ((k3 (k3 (k3 (k3 M 3 0 0 0) 16 30 (((k3 M 3 0 0 0) 3 29 0).toNatClampNeg) p1) 16 31 (((k3 (k3 M 3 0 0 0) 16 30 (((k3 M 3 0 0 0) 3 29 0).toNatClampNeg) p1) 3 29 0).toNatClampNeg) p2) 13 32 (((k3 (k3 (k3 M 3 0 0 0) 16 30 (((k3 M 3 0 0 0) 3 29 0).toNatClampNeg) p1) 16 31 (((k3 (k3 M 3 0 0 0) 16 30 (((k3 M 3 0 0 0) 3 29 0).toNatClampNeg) p1) 3 29 0).toNatClampNeg) p2) 3 29 0).toNatClampNeg) 111) 16 7 p1.toNatClampNeg)) 3 29 0).toNatClampNeg) (-1)) 16 10 p1.toNatClampNeg ((k3 (k3 (k3 (k3 (k3 (k3 M 3 0 0 0) 16 30 (((k3 M 3 0 0 0) 3 29 0).toNatClampNeg) p1) 16 31 (((k3 (k3 M 3 0 0 0) 16 30 (((k3 M 3 0 0 0) 3 29 0).toNatClampNeg) p1) 3 29 0).toNatClampNeg) p2) 13 32 (((k3 (k3 (k3 M 3 0 0 0) 16 30 (((k3 M 3 0 0 0) 3 29 0).toNatClampNeg) p1) 16 31 (((k3 (k3 M 3 0 0 0) 16 30 (((k3 M 3 0 0 0) 3 29 0).toNatClampNeg) p1) 3 29 0).toNatClampNeg) p2) 3 29 0).toNatClampNeg) 111) 16 33 (((k3 (k3 (k3 (k3 M 3 0 0 0) 16 30 (((k3 M 3 0 0 0) 3 29 0).toNatClampNeg) p1) 16 31 (((k3 (k3 M 3 0 0 0) 16 30 (((k3 M 3 0 0 0) 3 29 0).toNatClampNeg) p1) 3 29 0).toNatClampNeg) p2) 13 32 (((k3 (k3 (k3 M 3 0 0 0) 16 30 (((k3 M 3 0 0 0) 3 29 0).toNatClampNeg) p1) 16 31 (((k3 (k3 M 3 0 0 0) 16 30 (((k3 M 3 0 0 0) 3 29 0).toNatClampNeg) p1) 3 29 0).toNatClampNeg) p2) 3 29 0).toNatClampNeg) 111) 3 29 0).toNatClampNeg) ((k3 (k3 (k3 (k3 M 3 0 0 0) 16 30 (((k3 M 3 0 0 0) 3 29 0).toNatClampNeg) p1) 16 31 (((k3 (k3 M 3 0 0 0) 16 30 (((k3 M 3 0 0 0) 3 29 0).toNatClampNeg) p1) 3 29 0).toNatClampNeg) p2) 13 32 (((k3 (k3 (k3 M 3 0 0 0) 16 30 (((k3 M 3 0 0 0) 3 29 0).toNatClampNeg) p1) 16 31 (((k3 (k3 M 3 0 0 0) 16 30 (((k3 M 3 0 0 0) 3 29 0).toNatClampNeg) p1) 3 29 0).toNatClampNeg) p2) 3 29 0).toNatClampNeg) 111) 16 7 p1.toNatClampNeg)) 16 35 (((k3 (k3 (k3 (k3 (k3 M 3 0 0 0) 16 30 (((k3 M 3 0 0 0) 3 29 0).toNatClampNeg) p1) 16 31 (((k3 (k3 M 3 0 0 0) 16 30 (((k3 M 3 0 0 0) 3 29 0).toNatClampNeg) p1) 3 29 0).toNatClampNeg) p2) 13 32 (((k3 (k3 (k3 M 3 0 0 0) 16 30 (((k3 M 3 0 0 0) 3 29 0).toNatClampNeg) p1) 16 31 (((k3 (k3 M 3 0 0 0) 16 30 (((k3 M 3 0 0 0) 3 29 0).toNatClampNeg) p1) 3 29 0).toNatClampNeg) p2) 3 29 0).toNatClampNeg) 111) 16 33 (((k3 (k3 (k3 (k3 M 3 0 0 0) 16 30 (((k3 M 3 0 0 0) 3 29 0).toNatClampNeg) p1) 16 31 (((k3 (k3 M 3 0 0 0) 16 30 (((k3 M 3 0 0 0) 3 29 0).toNatClampNeg) p1) 3 29 0).toNatClampNeg) p2) 13 32 (((k3 (k3 (k3 M 3 0 0 0) 16 30 (((k3 M 3 0 0 0) 3 29 0).toNatClampNeg) p1) 16 31 (((k3 (k3 M 3 0 0 0) 16 30 (((k3 M 3 0 0 0) 3 29 0).toNatClampNeg) p1) 3 29 0).toNatClampNeg) p2) 3 29 0).toNatClampNeg) 111) 3 29 0).toNatClampNeg) ((k3 (k3 (k3 (k3 M 3 0 0 0) 16 30 (((k3 M 3 0 0 0) 3 29 0).toNatClampNeg) p1) 16 31 (((k3 (k3 M 3 0 0 0) 16 30 (((k3 M 3 0 0 0) 3 29 0).toNatClampNeg) p1) 3 29 0).toNatClampNeg) p2) 13 32 (((k3 (k3 (k3 M 3 0 0 0) 16 30 (((k3 M 3 0 0 0) 3 29 0).toNatClampNeg) p1) 16 31 (((k3 (k3 M 3 0 0 0) 16 30 (((k3 M 3 0 0 0) 3 29 0).toNatClampNeg) p1) 3 29 0).toNatClampNeg) p2) 3 29 0).toNatClampNeg) 111) 16 7 p1.toNatClampNeg)) 3 29 0).toNatClampNeg) (-1)) 3 29 0)) 3 29 0) + 1)) 3 29 0) - 1), _, _, rfl, h, hw⟩
          · have h := h.2 c15
            refine lv_aload_n S.1 S.2.1 dX7_offer_66 rfl (lv_at hl 0 rfl) ?_
            refine lv_iconst (v := 3) S.1 S.2.1 dX7_offer_67 (by decide) ?_
            refine r_call (rest := []) S hg hS (mtX7_fails (mc := 0) (ms := 0) h) u1171 u1173 u26 u49 u1174 hdX7_fails (rv3 hg hw) hw ⟨Nat.le_of_ble_eq_true rfl, Nat.le_of_ble_eq_true rfl⟩ ⟨by show 0 + 0 ≤ mc; omega, by show 0 + 0 ≤ ms; omega⟩ hl.1 (Nat.le_of_ble_eq_true rfl) rfl dX7_offer_68 (fun E ce q H1 locs1 hx hS1 hc1 hc2 hc3 => hx.elim) (fun rv H locs hq hS => ?_)
            obtain ⟨r22, M23, ap24, rfl, h, hw⟩ := hq
            show W p l e _ s m _ below meth c H locs _ _ _ (F0 m 71 ls [.int r22])
            show W p l e _ s m _ below meth c H locs 0 0 _ _
            exact r_iret (y := yX7_offer) S hr rfl hlk hS (by omega) (by omega) dX7_offer_71 ⟨r22, _, _, rfl, h, hw⟩
    · have h := h.2 c4
      refine lv_aload_n S.1 S.2.1 dX7_offer_30 rfl (lv_at hl 0 rfl) ?_
      refine lv_iconst (v := 2) S.1 S.2.1 dX7_offer_31 (by decide) ?_
      refine r_call (rest := []) S hg hS (mtX7_fails (mc := 0) (ms := 0) h) u1171 u1173 u26 u49 u1174 hdX7_fails (rv3 hg hw) hw ⟨Nat.le_of_ble_eq_true rfl, Nat.le_of_ble_eq_true rfl⟩ ⟨by show 0 + 0 ≤ mc; omega, by show 0 + 0 ≤ ms; omega⟩ hl.1 (Nat.le_of_ble_eq_true rfl) rfl dX7_offer_32 (fun E ce q H1 locs1 hx hS1 hc1 hc2 hc3 => hx.elim) (fun rv H locs hq hS => ?_)
      obtain ⟨r25, M26, ap27, rfl, h, hw⟩ := hq
      show W p l e _ s m _ below meth c H locs _ _ _ (F0 m 35 ls [.int r25])
      show W p l e _ s m _ below meth c H locs 0 0 _ _
      exact r_iret (y := yX7_offer) S hr rfl hlk hS (by omega) (by omega) dX7_offer_35 ⟨r25, _, _, rfl, h, hw⟩
  · have h := h.2 c2
    refine lv_aload_n S.1 S.2.1 dX7_offer_13 rfl (lv_at hl 0 rfl) ?_
    refine lv_iconst (v := 1) S.1 S.2.1 dX7_offer_14 (by decide) ?_
    refine r_call (rest := []) S hg hS (mtX7_fails (mc := 0) (ms := 0) h) u1171 u1173 u26 u49 u1174 hdX7_fails (rv3 hg hw) hw ⟨Nat.le_of_ble_eq_true rfl, Nat.le_of_ble_eq_true rfl⟩ ⟨by show 0 + 0 ≤ mc; omega, by show 0 + 0 ≤ ms; omega⟩ hl.1 (Nat.le_of_ble_eq_true rfl) rfl dX7_offer_15 (fun E ce q H1 locs1 hx hS1 hc1 hc2 hc3 => hx.elim) (fun rv H locs hq hS => ?_)
    obtain ⟨r28, M29, ap30, rfl, h, hw⟩ := hq
    show W p l e _ s m _ below meth c H locs _ _ _ (F0 m 18 ls [.int r28])
    show W p l e _ s m _ below meth c H locs 0 0 _ _
    exact r_iret (y := yX7_offer) S hr rfl hlk hS (by omega) (by omega) dX7_offer_18 ⟨r28, _, _, rfl, h, hw⟩

-- X7.isOffer
theorem dX7_isOffer_0 : decode cX7_isOffer 0 = .ok (.iload_n 1, 1) := by decide +kernel
theorem dX7_isOffer_1 : decode cX7_isOffer 1 = .ok (.iconst 0, 1) := by decide +kernel
theorem dX7_isOffer_2 : decode cX7_isOffer 2 = .ok (.aload_n 0, 1) := by decide +kernel
theorem dX7_isOffer_3 : decode cX7_isOffer 3 = .ok (.getfield 154, 3) := by decide +kernel
theorem dX7_isOffer_6 : decode cX7_isOffer 6 = .ok (.iconst 1, 1) := by decide +kernel
theorem dX7_isOffer_7 : decode cX7_isOffer 7 = .ok (.isub, 1) := by decide +kernel
theorem dX7_isOffer_8 : decode cX7_isOffer 8 = .ok (.invokestatic 102, 3) := by decide +kernel
theorem dX7_isOffer_11 : decode cX7_isOffer 11 = .ok (.ireturn, 1) := by decide +kernel
def wpX7_isOffer (post : Int32 → Prop) (M : KS) (ap : Int64) (p1 : Int32) : Prop := (wpX7_in (fun r1 => (narrow .boolean (.int r1) = .int r1) ∧ post r1) M ap p1 0 ((M 3 29 0) - 1))
theorem hdX7_isOffer : yX7_isOffer.cls ≠ "java/lang/invoke/MethodHandle" ∧ yX7_isOffer.cls ≠ "java/lang/invoke/VarHandle" ∧ (parseMethodDescriptor yX7_isOffer.desc).map (fun d => d.parameters.length) = some 1 := by decide +kernel
set_option maxHeartbeats 4000000 in
set_option maxRecDepth 100000 in
theorem mtX7_isOffer {l : Launch} {D : va_G} {cI : Nat → ClassId} {e0 : Nat} {A : Nat → Prop} {ad : Nat → Nat → Nat} {K M : KS} {ap o : Int64} {od : UInt64} {mc ms : Nat} {p1 : Int32} {post : Int32 → Prop} (h : wpX7_isOffer post M ap p1) : CM l D cI e0 A yX7_isOffer cX7_isOffer 2 (some FieldType.boolean) 1 22 mc ms [.ref (ad 3 0), .int p1] (HT D cI e0 A ad K M ap o od) (qP D cI e0 A ad K M ap o od rI post) xN := by
  refine CM.of (by decide) (Nat.le_of_ble_eq_true rfl) (fun p e s m below meth c ls FX hw hS hl => ?_)
  obtain ⟨S, hg, hr, hlk, hnm, hout⟩ := FX
  have hl : lv_has ls 2 [(0, .ref (ad 3 0)), (1, .int p1)] := hl
  unfold wpX7_isOffer at h
  refine lv_iload_n S.1 S.2.1 dX7_isOffer_0 rfl (lv_at hl 1 rfl) ?_
  refine lv_iconst (v := 0) S.1 S.2.1 dX7_isOffer_1 (by decide) ?_
  refine lv_aload_n S.1 S.2.1 dX7_isOffer_2 rfl (lv_at hl 0 rfl) ?_
  refine g3_29 S hg hw u1073 dX7_isOffer_3 ?_
  refine lv_iconst (v := 1) S.1 S.2.1 dX7_isOffer_6 (by decide) ?_
  refine lv_isub S.1 S.2.1 dX7_isOffer_7 ?_
  refine r_callS (rest := []) S hg hS (mtX7_in (mc := 0) (ms := 0) h) u1168 u1169 u49 u1170 hdX7_in hw ⟨Nat.le_of_ble_eq_true rfl, Nat.le_of_ble_eq_true rfl⟩ ⟨by show 0 + 0 ≤ mc; omega, by show 0 + 0 ≤ ms; omega⟩ hl.1 (Nat.le_of_ble_eq_true rfl) rfl dX7_isOffer_8 (fun E ce q H1 locs1 hx hS1 hc1 hc2 hc3 => hx.elim) (fun rv H locs hq hS => ?_)
  obtain ⟨r1, rfl, h, hw⟩ := hq
  show W p l e _ s m _ below meth c H locs _ _ _ (F0 m 11 ls [.int r1])
  show W p l e _ s m _ below meth c H locs 0 0 _ _
  obtain ⟨g2, h⟩ := h
  exact r_iret (y := yX7_isOffer) S hr g2 hlk hS (by omega) (by omega) dX7_isOffer_11 ⟨r1, rfl, h, hw⟩

-- X7.withdraw
theorem dX7_withdraw_0 : decode cX7_withdraw 0 = .ok (.aload_n 0, 1) := by decide +kernel
theorem dX7_withdraw_1 : decode cX7_withdraw 1 = .ok (.iconst 0, 1) := by decide +kernel
theorem dX7_withdraw_2 : decode cX7_withdraw 2 = .ok (.putfield 98, 3) := by decide +kernel
theorem dX7_withdraw_5 : decode cX7_withdraw 5 = .ok (.aload_n 0, 1) := by decide +kernel
theorem dX7_withdraw_6 : decode cX7_withdraw 6 = .ok (.iload_n 1, 1) := by decide +kernel
theorem dX7_withdraw_7 : decode cX7_withdraw 7 = .ok (.invokevirtual 179, 3) := by decide +kernel
theorem dX7_withdraw_10 : decode cX7_withdraw 10 = .ok (.ifCond .ne 9, 3) := by decide +kernel
theorem dX7_withdraw_13 : decode cX7_withdraw 13 = .ok (.aload_n 0, 1) := by decide +kernel
theorem dX7_withdraw_14 : decode cX7_withdraw 14 = .ok (.iconst 1, 1) := by decide +kernel
theorem dX7_withdraw_15 : decode cX7_withdraw 15 = .ok (.invokevirtual 106, 3) := by decide +kernel
theorem dX7_withdraw_18 : decode cX7_withdraw 18 = .ok (.ireturn, 1) := by decide +kernel
theorem dX7_withdraw_19 : decode cX7_withdraw 19 = .ok (.aload_n 0, 1) := by decide +kernel
theorem dX7_withdraw_20 : decode cX7_withdraw 20 = .ok (.getfield 83, 3) := by decide +kernel
theorem dX7_withdraw_23 : decode cX7_withdraw 23 = .ok (.iload_n 1, 1) := by decide +kernel
theorem dX7_withdraw_24 : decode cX7_withdraw 24 = .ok (.caload, 1) := by decide +kernel
theorem dX7_withdraw_25 : decode cX7_withdraw 25 = .ok (.bipush 111, 2) := by decide +kernel
theorem dX7_withdraw_27 : decode cX7_withdraw 27 = .ok (.if_icmp .eq 9, 3) := by decide +kernel
theorem dX7_withdraw_30 : decode cX7_withdraw 30 = .ok (.aload_n 0, 1) := by decide +kernel
theorem dX7_withdraw_31 : decode cX7_withdraw 31 = .ok (.iconst 2, 1) := by decide +kernel
theorem dX7_withdraw_32 : decode cX7_withdraw 32 = .ok (.invokevirtual 106, 3) := by decide +kernel
theorem dX7_withdraw_35 : decode cX7_withdraw 35 = .ok (.ireturn, 1) := by decide +kernel
theorem dX7_withdraw_36 : decode cX7_withdraw 36 = .ok (.aload_n 0, 1) := by decide +kernel
theorem dX7_withdraw_37 : decode cX7_withdraw 37 = .ok (.getfield 83, 3) := by decide +kernel
theorem dX7_withdraw_40 : decode cX7_withdraw 40 = .ok (.iload_n 1, 1) := by decide +kernel
theorem dX7_withdraw_41 : decode cX7_withdraw 41 = .ok (.bipush 103, 2) := by decide +kernel
theorem dX7_withdraw_43 : decode cX7_withdraw 43 = .ok (.castore, 1) := by decide +kernel
theorem dX7_withdraw_44 : decode cX7_withdraw 44 = .ok (.aload_n 0, 1) := by decide +kernel
theorem dX7_withdraw_45 : decode cX7_withdraw 45 = .ok (.getfield 26, 3) := by decide +kernel
theorem dX7_withdraw_48 : decode cX7_withdraw 48 = .ok (.aload_n 0, 1) := by decide +kernel
theorem dX7_withdraw_49 : decode cX7_withdraw 49 = .ok (.getfield 77, 3) := by decide +kernel
theorem dX7_withdraw_52 : decode cX7_withdraw 52 = .ok (.iload_n 1, 1) := by decide +kernel
theorem dX7_withdraw_53 : decode cX7_withdraw 53 = .ok (.iaload, 1) := by decide +kernel
theorem dX7_withdraw_54 : decode cX7_withdraw 54 = .ok (.iconst (-1), 1) := by decide +kernel
theorem dX7_withdraw_55 : decode cX7_withdraw 55 = .ok (.iastore, 1) := by decide +kernel
theorem dX7_withdraw_56 : decode cX7_withdraw 56 = .ok (.aload_n 0, 1) := by decide +kernel
theorem dX7_withdraw_57 : decode cX7_withdraw 57 = .ok (.getfield 77, 3) := by decide +kernel
theorem dX7_withdraw_60 : decode cX7_withdraw 60 = .ok (.iload_n 1, 1) := by decide +kernel
theorem dX7_withdraw_61 : decode cX7_withdraw 61 = .ok (.iaload, 1) := by decide +kernel
theorem dX7_withdraw_62 : decode cX7_withdraw 62 = .ok (.ireturn, 1) := by decide +kernel
def wpX7_withdraw (post : Int32 → KS → Int64 → Prop) (M : KS) (ap : Int64) (p1 : Int32) : Prop := (wpX7_isOffer (fun r1 => ((¬ r1 = 0 → ((vp_in p1 60) ∧ (((((k3 M 3 0 0 0) 13 32 p1.toNatClampNeg) = 111 → ((vp_in p1 60) ∧ ((vp_in ((k3 (k3 M 3 0 0 0) 13 32 p1.toNatClampNeg 103) 16 30 p1.toNatClampNeg) 40) ∧ (post ((k3 (k3 (k3 M 3 0 0 0) 13 32 p1.toNatClampNeg 103) 16 10 (((k3 (k3 M 3 0 0 0) 13 32 p1.toNatClampNeg 103) 16 30 p1.toNatClampNeg).toNatClampNeg) (-1)) 16 30 p1.toNatClampNeg) (k3 (k3 (k3 M 3 0 0 0) 13 32 p1.toNatClampNeg 103) 16 10 (((k3 (k3 M 3 0 0 0) 13 32 p1.toNatClampNeg 103) 16 30 p1.toNatClampNeg).toNatClampNeg) (-1)) ap)))) ∧ (¬ ((k3 M 3 0 0 0) 13 32 p1.toNatClampNeg) = 111 → ((wpX7_fails (fun r7 M8 ap9 => post r7 M8 ap9) (k3 M 3 0 0 0) ap 2))))))) ∧ (r1 = 0 → ((wpX7_fails (fun r10 M11 ap12 => post r10 M11 ap12) (k3 M 3 0 0 0) ap 1))))) (k3 M 3 0 0 0) ap p1)
theorem hdX7_withdraw : yX7_withdraw.cls ≠ "java/lang/invoke/MethodHandle" ∧ yX7_withdraw.cls ≠ "java/lang/invoke/VarHandle" ∧ (parseMethodDescriptor yX7_withdraw.desc).map (fun d => d.parameters.length) = some 1 := by decide +kernel
set_option maxHeartbeats 4000000 in
set_option maxRecDepth 100000 in
theorem mtX7_withdraw {l : Launch} {D : va_G} {cI : Nat → ClassId} {e0 : Nat} {A : Nat → Prop} {ad : Nat → Nat → Nat} {K M : KS} {ap o : Int64} {od : UInt64} {mc ms : Nat} {p1 : Int32} {post : Int32 → KS → Int64 → Prop} (h : wpX7_withdraw post M ap p1) : CM l D cI e0 A yX7_withdraw cX7_withdraw 2 (some FieldType.int) 2 43 mc ms [.ref (ad 3 0), .int p1] (HT D cI e0 A ad K M ap o od) (qM D cI e0 A ad K o od rI post) xN := by
  refine CM.of (by decide) (Nat.le_of_ble_eq_true rfl) (fun p e s m below meth c ls FX hw hS hl => ?_)
  obtain ⟨S, hg, hr, hlk, hnm, hout⟩ := FX
  have hl : lv_has ls 2 [(0, .ref (ad 3 0)), (1, .int p1)] := hl
  unfold wpX7_withdraw at h
  refine lv_aload_n S.1 S.2.1 dX7_withdraw_0 rfl (lv_at hl 0 rfl) ?_
  refine lv_iconst (v := 0) S.1 S.2.1 dX7_withdraw_1 (by decide) ?_
  refine p3_0 S hg hS hw u1044 dX7_withdraw_2 (fun H locs hw hS => ?_)
  refine lv_aload_n S.1 S.2.1 dX7_withdraw_5 rfl (lv_at hl 0 rfl) ?_
  refine lv_iload_n S.1 S.2.1 dX7_withdraw_6 rfl (lv_at hl 1 rfl) ?_
  refine r_call (rest := []) S hg hS (mtX7_isOffer (mc := 0) (ms := 0) h) u1331 u1333 u41 u49 u1334 hdX7_isOffer (rv3 hg hw) hw ⟨Nat.le_of_ble_eq_true rfl, Nat.le_of_ble_eq_true rfl⟩ ⟨by show 0 + 0 ≤ mc; omega, by show 0 + 0 ≤ ms; omega⟩ hl.1 (Nat.le_of_ble_eq_true rfl) rfl dX7_withdraw_7 (fun E ce q H1 locs1 hx hS1 hc1 hc2 hc3 => hx.elim) (fun rv H locs hq hS => ?_)
  obtain ⟨r1, rfl, h, hw⟩ := hq
  show W p l e _ s m _ below meth c H locs _ _ _ (F0 m 10 ls [.int r1])
  show W p l e _ s m _ below meth c H locs 0 0 _ _
  refine lv_if_ne (tgt := 19) S.1 S.2.1 dX7_withdraw_10 (by decide) (fun c2 => ?_) (fun c2 => ?_)
  · have h := h.1 c2
    refine lv_aload_n S.1 S.2.1 dX7_withdraw_19 rfl (lv_at hl 0 rfl) ?_
    refine g3_32 S hg hw u1076 dX7_withdraw_20 ?_
    refine lv_iload_n S.1 S.2.1 dX7_withdraw_23 rfl (lv_at hl 1 rfl) ?_
    obtain ⟨g3, h⟩ := h
    refine a13 S hg hw rfl g3 dX7_withdraw_24 ?_
    refine lv_bipush (v := 111) S.1 S.2.1 dX7_withdraw_25 (by decide) ?_
    refine lv_icmp_eq (tgt := 36) S.1 S.2.1 dX7_withdraw_27 (by decide) (fun c4 => ?_) (fun c4 => ?_)
    · have h := h.1 c4
      refine lv_aload_n S.1 S.2.1 dX7_withdraw_36 rfl (lv_at hl 0 rfl) ?_
      refine g3_32 S hg hw u1076 dX7_withdraw_37 ?_
      refine lv_iload_n S.1 S.2.1 dX7_withdraw_40 rfl (lv_at hl 1 rfl) ?_
      refine lv_bipush (v := 103) S.1 S.2.1 dX7_withdraw_41 (by decide) ?_
      refine s13 S hg hS hw rfl g3 (by decide) dX7_withdraw_43 (fun H locs hw hS => ?_)
      refine lv_aload_n S.1 S.2.1 dX7_withdraw_44 rfl (lv_at hl 0 rfl) ?_
      refine g3_10 S hg hw u1054 dX7_withdraw_45 ?_
      refine lv_aload_n S.1 S.2.1 dX7_withdraw_48 rfl (lv_at hl 0 rfl) ?_
      refine g3_30 S hg hw u1074 dX7_withdraw_49 ?_
      refine lv_iload_n S.1 S.2.1 dX7_withdraw_52 rfl (lv_at hl 1 rfl) ?_
      obtain ⟨g5, h⟩ := h
      refine a16 S hg hw rfl g5 dX7_withdraw_53 ?_
      refine lv_iconst (v := (-1)) S.1 S.2.1 dX7_withdraw_54 (by decide) ?_
      obtain ⟨g6, h⟩ := h
      refine s16 S hg hS hw rfl g6 dX7_withdraw_55 (fun H locs hw hS => ?_)
      refine lv_aload_n S.1 S.2.1 dX7_withdraw_56 rfl (lv_at hl 0 rfl) ?_
      refine g3_30 S hg hw u1074 dX7_withdraw_57 ?_
      refine lv_iload_n S.1 S.2.1 dX7_withdraw_60 rfl (lv_at hl 1 rfl) ?_
      refine a16 S hg hw rfl g5 dX7_withdraw_61 ?_
      exact r_iret (y := yX7_withdraw) S hr rfl hlk hS (by omega) (by omega) dX7_withdraw_62 ⟨((k3 (k3 (k3 M 3 0 0 0) 13 32 p1.toNatClampNeg 103) 16 10 (((k3 (k3 M 3 0 0 0) 13 32 p1.toNatClampNeg 103) 16 30 p1.toNatClampNeg).toNatClampNeg) (-1)) 16 30 p1.toNatClampNeg), _, _, rfl, h, hw⟩
    · have h := h.2 c4
      refine lv_aload_n S.1 S.2.1 dX7_withdraw_30 rfl (lv_at hl 0 rfl) ?_
      refine lv_iconst (v := 2) S.1 S.2.1 dX7_withdraw_31 (by decide) ?_
      refine r_call (rest := []) S hg hS (mtX7_fails (mc := 0) (ms := 0) h) u1171 u1173 u26 u49 u1174 hdX7_fails (rv3 hg hw) hw ⟨Nat.le_of_ble_eq_true rfl, Nat.le_of_ble_eq_true rfl⟩ ⟨by show 0 + 0 ≤ mc; omega, by show 0 + 0 ≤ ms; omega⟩ hl.1 (Nat.le_of_ble_eq_true rfl) rfl dX7_withdraw_32 (fun E ce q H1 locs1 hx hS1 hc1 hc2 hc3 => hx.elim) (fun rv H locs hq hS => ?_)
      obtain ⟨r7, M8, ap9, rfl, h, hw⟩ := hq
      show W p l e _ s m _ below meth c H locs _ _ _ (F0 m 35 ls [.int r7])
      show W p l e _ s m _ below meth c H locs 0 0 _ _
      exact r_iret (y := yX7_withdraw) S hr rfl hlk hS (by omega) (by omega) dX7_withdraw_35 ⟨r7, _, _, rfl, h, hw⟩
  · have h := h.2 c2
    refine lv_aload_n S.1 S.2.1 dX7_withdraw_13 rfl (lv_at hl 0 rfl) ?_
    refine lv_iconst (v := 1) S.1 S.2.1 dX7_withdraw_14 (by decide) ?_
    refine r_call (rest := []) S hg hS (mtX7_fails (mc := 0) (ms := 0) h) u1171 u1173 u26 u49 u1174 hdX7_fails (rv3 hg hw) hw ⟨Nat.le_of_ble_eq_true rfl, Nat.le_of_ble_eq_true rfl⟩ ⟨by show 0 + 0 ≤ mc; omega, by show 0 + 0 ≤ ms; omega⟩ hl.1 (Nat.le_of_ble_eq_true rfl) rfl dX7_withdraw_15 (fun E ce q H1 locs1 hx hS1 hc1 hc2 hc3 => hx.elim) (fun rv H locs hq hS => ?_)
    obtain ⟨r10, M11, ap12, rfl, h, hw⟩ := hq
    show W p l e _ s m _ below meth c H locs _ _ _ (F0 m 18 ls [.int r10])
    show W p l e _ s m _ below meth c H locs 0 0 _ _
    exact r_iret (y := yX7_withdraw) S hr rfl hlk hS (by omega) (by omega) dX7_withdraw_18 ⟨r10, _, _, rfl, h, hw⟩

-- X7.buy
theorem dX7_buy_0 : decode cX7_buy 0 = .ok (.aload_n 0, 1) := by decide +kernel
theorem dX7_buy_1 : decode cX7_buy 1 = .ok (.iconst 0, 1) := by decide +kernel
theorem dX7_buy_2 : decode cX7_buy 2 = .ok (.putfield 98, 3) := by decide +kernel
theorem dX7_buy_5 : decode cX7_buy 5 = .ok (.aload_n 0, 1) := by decide +kernel
theorem dX7_buy_6 : decode cX7_buy 6 = .ok (.iload_n 1, 1) := by decide +kernel
theorem dX7_buy_7 : decode cX7_buy 7 = .ok (.invokevirtual 116, 3) := by decide +kernel
theorem dX7_buy_10 : decode cX7_buy 10 = .ok (.ifCond .eq 11, 3) := by decide +kernel
theorem dX7_buy_13 : decode cX7_buy 13 = .ok (.aload_n 0, 1) := by decide +kernel
theorem dX7_buy_14 : decode cX7_buy 14 = .ok (.iload_n 2, 1) := by decide +kernel
theorem dX7_buy_15 : decode cX7_buy 15 = .ok (.invokevirtual 179, 3) := by decide +kernel
theorem dX7_buy_18 : decode cX7_buy 18 = .ok (.ifCond .ne 9, 3) := by decide +kernel
theorem dX7_buy_21 : decode cX7_buy 21 = .ok (.aload_n 0, 1) := by decide +kernel
theorem dX7_buy_22 : decode cX7_buy 22 = .ok (.iconst 1, 1) := by decide +kernel
theorem dX7_buy_23 : decode cX7_buy 23 = .ok (.invokevirtual 106, 3) := by decide +kernel
theorem dX7_buy_26 : decode cX7_buy 26 = .ok (.ireturn, 1) := by decide +kernel
theorem dX7_buy_27 : decode cX7_buy 27 = .ok (.aload_n 0, 1) := by decide +kernel
theorem dX7_buy_28 : decode cX7_buy 28 = .ok (.getfield 77, 3) := by decide +kernel
theorem dX7_buy_31 : decode cX7_buy 31 = .ok (.iload_n 2, 1) := by decide +kernel
theorem dX7_buy_32 : decode cX7_buy 32 = .ok (.iaload, 1) := by decide +kernel
theorem dX7_buy_33 : decode cX7_buy 33 = .ok (.istore_n 3, 1) := by decide +kernel
theorem dX7_buy_34 : decode cX7_buy 34 = .ok (.aload_n 0, 1) := by decide +kernel
theorem dX7_buy_35 : decode cX7_buy 35 = .ok (.getfield 83, 3) := by decide +kernel
theorem dX7_buy_38 : decode cX7_buy 38 = .ok (.iload_n 2, 1) := by decide +kernel
theorem dX7_buy_39 : decode cX7_buy 39 = .ok (.caload, 1) := by decide +kernel
theorem dX7_buy_40 : decode cX7_buy 40 = .ok (.bipush 111, 2) := by decide +kernel
theorem dX7_buy_42 : decode cX7_buy 42 = .ok (.if_icmp .ne 13, 3) := by decide +kernel
theorem dX7_buy_45 : decode cX7_buy 45 = .ok (.aload_n 0, 1) := by decide +kernel
theorem dX7_buy_46 : decode cX7_buy 46 = .ok (.getfield 16, 3) := by decide +kernel
theorem dX7_buy_49 : decode cX7_buy 49 = .ok (.iload_n 3, 1) := by decide +kernel
theorem dX7_buy_50 : decode cX7_buy 50 = .ok (.iaload, 1) := by decide +kernel
theorem dX7_buy_51 : decode cX7_buy 51 = .ok (.iload_n 1, 1) := by decide +kernel
theorem dX7_buy_52 : decode cX7_buy 52 = .ok (.if_icmp .ne 9, 3) := by decide +kernel
theorem dX7_buy_55 : decode cX7_buy 55 = .ok (.aload_n 0, 1) := by decide +kernel
theorem dX7_buy_56 : decode cX7_buy 56 = .ok (.iconst 2, 1) := by decide +kernel
theorem dX7_buy_57 : decode cX7_buy 57 = .ok (.invokevirtual 106, 3) := by decide +kernel
theorem dX7_buy_60 : decode cX7_buy 60 = .ok (.ireturn, 1) := by decide +kernel
theorem dX7_buy_61 : decode cX7_buy 61 = .ok (.aload_n 0, 1) := by decide +kernel
theorem dX7_buy_62 : decode cX7_buy 62 = .ok (.getfield 7, 3) := by decide +kernel
theorem dX7_buy_65 : decode cX7_buy 65 = .ok (.iload_n 1, 1) := by decide +kernel
theorem dX7_buy_66 : decode cX7_buy 66 = .ok (.iaload, 1) := by decide +kernel
theorem dX7_buy_67 : decode cX7_buy 67 = .ok (.aload_n 0, 1) := by decide +kernel
theorem dX7_buy_68 : decode cX7_buy 68 = .ok (.getfield 80, 3) := by decide +kernel
theorem dX7_buy_71 : decode cX7_buy 71 = .ok (.iload_n 2, 1) := by decide +kernel
theorem dX7_buy_72 : decode cX7_buy 72 = .ok (.iaload, 1) := by decide +kernel
theorem dX7_buy_73 : decode cX7_buy 73 = .ok (.if_icmp .ge 9, 3) := by decide +kernel
theorem dX7_buy_76 : decode cX7_buy 76 = .ok (.aload_n 0, 1) := by decide +kernel
theorem dX7_buy_77 : decode cX7_buy 77 = .ok (.iconst 3, 1) := by decide +kernel
theorem dX7_buy_78 : decode cX7_buy 78 = .ok (.invokevirtual 106, 3) := by decide +kernel
theorem dX7_buy_81 : decode cX7_buy 81 = .ok (.ireturn, 1) := by decide +kernel
theorem dX7_buy_82 : decode cX7_buy 82 = .ok (.aload_n 0, 1) := by decide +kernel
theorem dX7_buy_83 : decode cX7_buy 83 = .ok (.getfield 7, 3) := by decide +kernel
theorem dX7_buy_86 : decode cX7_buy 86 = .ok (.iload_n 1, 1) := by decide +kernel
theorem dX7_buy_87 : decode cX7_buy 87 = .ok (.dup2, 1) := by decide +kernel
theorem dX7_buy_88 : decode cX7_buy 88 = .ok (.iaload, 1) := by decide +kernel
theorem dX7_buy_89 : decode cX7_buy 89 = .ok (.aload_n 0, 1) := by decide +kernel
theorem dX7_buy_90 : decode cX7_buy 90 = .ok (.getfield 80, 3) := by decide +kernel
theorem dX7_buy_93 : decode cX7_buy 93 = .ok (.iload_n 2, 1) := by decide +kernel
theorem dX7_buy_94 : decode cX7_buy 94 = .ok (.iaload, 1) := by decide +kernel
theorem dX7_buy_95 : decode cX7_buy 95 = .ok (.isub, 1) := by decide +kernel
theorem dX7_buy_96 : decode cX7_buy 96 = .ok (.iastore, 1) := by decide +kernel
theorem dX7_buy_97 : decode cX7_buy 97 = .ok (.aload_n 0, 1) := by decide +kernel
theorem dX7_buy_98 : decode cX7_buy 98 = .ok (.getfield 83, 3) := by decide +kernel
theorem dX7_buy_101 : decode cX7_buy 101 = .ok (.iload_n 2, 1) := by decide +kernel
theorem dX7_buy_102 : decode cX7_buy 102 = .ok (.bipush 98, 2) := by decide +kernel
theorem dX7_buy_104 : decode cX7_buy 104 = .ok (.castore, 1) := by decide +kernel
theorem dX7_buy_105 : decode cX7_buy 105 = .ok (.aload_n 0, 1) := by decide +kernel
theorem dX7_buy_106 : decode cX7_buy 106 = .ok (.getfield 26, 3) := by decide +kernel
theorem dX7_buy_109 : decode cX7_buy 109 = .ok (.iload_n 3, 1) := by decide +kernel
theorem dX7_buy_110 : decode cX7_buy 110 = .ok (.iconst (-1), 1) := by decide +kernel
theorem dX7_buy_111 : decode cX7_buy 111 = .ok (.iastore, 1) := by decide +kernel
theorem dX7_buy_112 : decode cX7_buy 112 = .ok (.aload_n 0, 1) := by decide +kernel
theorem dX7_buy_113 : decode cX7_buy 113 = .ok (.getfield 89, 3) := by decide +kernel
theorem dX7_buy_116 : decode cX7_buy 116 = .ok (.iload_n 2, 1) := by decide +kernel
theorem dX7_buy_117 : decode cX7_buy 117 = .ok (.iload_n 1, 1) := by decide +kernel
theorem dX7_buy_118 : decode cX7_buy 118 = .ok (.iastore, 1) := by decide +kernel
theorem dX7_buy_119 : decode cX7_buy 119 = .ok (.aload_n 0, 1) := by decide +kernel
theorem dX7_buy_120 : decode cX7_buy 120 = .ok (.getfield 95, 3) := by decide +kernel
theorem dX7_buy_123 : decode cX7_buy 123 = .ok (.iload_n 2, 1) := by decide +kernel
theorem dX7_buy_124 : decode cX7_buy 124 = .ok (.aload_n 0, 1) := by decide +kernel
theorem dX7_buy_125 : decode cX7_buy 125 = .ok (.getfield 182, 3) := by decide +kernel
theorem dX7_buy_128 : decode cX7_buy 128 = .ok (.iastore, 1) := by decide +kernel
theorem dX7_buy_129 : decode cX7_buy 129 = .ok (.aload_n 0, 1) := by decide +kernel
theorem dX7_buy_130 : decode cX7_buy 130 = .ok (.dup, 1) := by decide +kernel
theorem dX7_buy_131 : decode cX7_buy 131 = .ok (.getfield 182, 3) := by decide +kernel
theorem dX7_buy_134 : decode cX7_buy 134 = .ok (.iconst 1, 1) := by decide +kernel
theorem dX7_buy_135 : decode cX7_buy 135 = .ok (.iadd, 1) := by decide +kernel
theorem dX7_buy_136 : decode cX7_buy 136 = .ok (.putfield 182, 3) := by decide +kernel
theorem dX7_buy_139 : decode cX7_buy 139 = .ok (.aload_n 0, 1) := by decide +kernel
theorem dX7_buy_140 : decode cX7_buy 140 = .ok (.getfield 19, 3) := by decide +kernel
theorem dX7_buy_143 : decode cX7_buy 143 = .ok (.iload_n 3, 1) := by decide +kernel
theorem dX7_buy_144 : decode cX7_buy 144 = .ok (.caload, 1) := by decide +kernel
theorem dX7_buy_145 : decode cX7_buy 145 = .ok (.bipush 119, 2) := by decide +kernel
theorem dX7_buy_147 : decode cX7_buy 147 = .ok (.if_icmp .ne 34, 3) := by decide +kernel
theorem dX7_buy_150 : decode cX7_buy 150 = .ok (.aload_n 0, 1) := by decide +kernel
theorem dX7_buy_151 : decode cX7_buy 151 = .ok (.getfield 92, 3) := by decide +kernel
theorem dX7_buy_154 : decode cX7_buy 154 = .ok (.iload_n 2, 1) := by decide +kernel
theorem dX7_buy_155 : decode cX7_buy 155 = .ok (.aload_n 0, 1) := by decide +kernel
theorem dX7_buy_156 : decode cX7_buy 156 = .ok (.getfield 23, 3) := by decide +kernel
theorem dX7_buy_159 : decode cX7_buy 159 = .ok (.iload_n 3, 1) := by decide +kernel
theorem dX7_buy_160 : decode cX7_buy 160 = .ok (.iaload, 1) := by decide +kernel
theorem dX7_buy_161 : decode cX7_buy 161 = .ok (.iastore, 1) := by decide +kernel
theorem dX7_buy_162 : decode cX7_buy 162 = .ok (.aload_n 0, 1) := by decide +kernel
theorem dX7_buy_163 : decode cX7_buy 163 = .ok (.dup, 1) := by decide +kernel
theorem dX7_buy_164 : decode cX7_buy 164 = .ok (.getfield 157, 3) := by decide +kernel
theorem dX7_buy_167 : decode cX7_buy 167 = .ok (.aload_n 0, 1) := by decide +kernel
theorem dX7_buy_168 : decode cX7_buy 168 = .ok (.getfield 80, 3) := by decide +kernel
theorem dX7_buy_171 : decode cX7_buy 171 = .ok (.iload_n 2, 1) := by decide +kernel
theorem dX7_buy_172 : decode cX7_buy 172 = .ok (.iaload, 1) := by decide +kernel
theorem dX7_buy_173 : decode cX7_buy 173 = .ok (.i2l, 1) := by decide +kernel
theorem dX7_buy_174 : decode cX7_buy 174 = .ok (.ladd, 1) := by decide +kernel
theorem dX7_buy_175 : decode cX7_buy 175 = .ok (.putfield 157, 3) := by decide +kernel
theorem dX7_buy_178 : decode cX7_buy 178 = .ok (.goto 8, 3) := by decide +kernel
theorem dX7_buy_181 : decode cX7_buy 181 = .ok (.aload_n 0, 1) := by decide +kernel
theorem dX7_buy_182 : decode cX7_buy 182 = .ok (.iload_n 2, 1) := by decide +kernel
theorem dX7_buy_183 : decode cX7_buy 183 = .ok (.invokevirtual 161, 3) := by decide +kernel
theorem dX7_buy_186 : decode cX7_buy 186 = .ok (.aload_n 0, 1) := by decide +kernel
theorem dX7_buy_187 : decode cX7_buy 187 = .ok (.iload_n 3, 1) := by decide +kernel
theorem dX7_buy_188 : decode cX7_buy 188 = .ok (.aload_n 0, 1) := by decide +kernel
theorem dX7_buy_189 : decode cX7_buy 189 = .ok (.getfield 86, 3) := by decide +kernel
theorem dX7_buy_192 : decode cX7_buy 192 = .ok (.iload_n 2, 1) := by decide +kernel
theorem dX7_buy_193 : decode cX7_buy 193 = .ok (.iaload, 1) := by decide +kernel
theorem dX7_buy_194 : decode cX7_buy 194 = .ok (.iload_n 1, 1) := by decide +kernel
theorem dX7_buy_195 : decode cX7_buy 195 = .ok (.invokevirtual 123, 3) := by decide +kernel
theorem dX7_buy_198 : decode cX7_buy 198 = .ok (.iload_n 3, 1) := by decide +kernel
theorem dX7_buy_199 : decode cX7_buy 199 = .ok (.ireturn, 1) := by decide +kernel
def wX7_buy_186 (post : Int32 → KS → Int64 → Prop) (l1 : Int32) (l2 : Int32) (l3 : Int32) (M : KS) (ap : Int64) : Prop := (vp_in l2 60) ∧ ((wpX7_posts (fun _ M28 ap29 => post l3 M28 ap29) M ap l3 (M 16 33 l2.toNatClampNeg) l1))
set_option maxHeartbeats 4000000 in
set_option maxRecDepth 100000 in
theorem bX7_buy_186 {p : Program} {l : Launch} {e : Env} {s : State} {m : MethodId} {args : Array Value} {below : List Frame} {meth : Method} {c : Code} {D : va_G} {cI : Nat → ClassId} {e0 : Nat} {A : Nat → Prop} {ad : Nat → Nat → Nat} {K : KS} {o : Int64} {od : UInt64} {mc ms : Nat} {post : Int32 → KS → Int64 → Prop} (S : CallFix p m c cX7_buy 4 s args WU RX7) (hg : GI D cI e0 A s s.heap) (hr : meth.sig.returnType = (some FieldType.int)) (hlk : meth.locks = false) (hout : ∀ x ∈ c.exceptionTable.toList, False) {H : Heap} {locs : List Loc} {ls : Array Slot} {l1 : Int32} {l2 : Int32} {l3 : Int32} {M : KS} {ap : Int64} (hS : va_S A s.heap H locs) (hw : HT D cI e0 A ad K M ap o od H) (hl : lv_has ls 4 [(0, .ref (ad 3 0)), (1, .int l1), (2, .int l2), (3, .int l3)]) (h : wX7_buy_186 post l1 l2 l3 M ap) : W p l e ({ frames := 2, cells := mc, slots := ms, locals := 43 } : Room) s m args below meth c H locs 0 0 (MQQ below (qM D cI e0 A ad K o od rI post) xN args s mc ms A) (F0 m 186 ls []) := by
  unfold wX7_buy_186 at h
  refine lv_aload_n S.1 S.2.1 dX7_buy_186 rfl (lv_at hl 0 rfl) ?_
  refine lv_iload_n S.1 S.2.1 dX7_buy_187 rfl (lv_at hl 3 rfl) ?_
  refine lv_aload_n S.1 S.2.1 dX7_buy_188 rfl (lv_at hl 0 rfl) ?_
  refine g3_33 S hg hw u1077 dX7_buy_189 ?_
  refine lv_iload_n S.1 S.2.1 dX7_buy_192 rfl (lv_at hl 2 rfl) ?_
  obtain ⟨g27, h⟩ := h
  refine a16 S hg hw rfl g27 dX7_buy_193 ?_
  refine lv_iload_n S.1 S.2.1 dX7_buy_194 rfl (lv_at hl 1 rfl) ?_
  refine r_call (rest := []) S hg hS (mtX7_posts (mc := 0) (ms := 0) h) u1183 u1185 u28 u49 u1186 hdX7_posts (rv3 hg hw) hw ⟨Nat.le_of_ble_eq_true rfl, Nat.le_of_ble_eq_true rfl⟩ ⟨by show 0 + 0 ≤ mc; omega, by show 0 + 0 ≤ ms; omega⟩ hl.1 (Nat.le_of_ble_eq_true rfl) rfl dX7_buy_195 (fun E ce q H1 locs1 hx hS1 hc1 hc2 hc3 => hx.elim) (fun rv H locs hq hS => ?_)
  obtain ⟨_, M28, ap29, rfl, h, hw⟩ := hq
  show W p l e _ s m _ below meth c H locs _ _ _ (F0 m 198 ls [])
  show W p l e _ s m _ below meth c H locs 0 0 _ _
  refine lv_iload_n S.1 S.2.1 dX7_buy_198 rfl (lv_at hl 3 rfl) ?_
  exact r_iret (y := yX7_buy) S hr rfl hlk hS (by omega) (by omega) dX7_buy_199 ⟨l3, _, _, rfl, h, hw⟩
def wpX7_buy (post : Int32 → KS → Int64 → Prop) (M : KS) (ap : Int64) (p1 : Int32) (p2 : Int32) : Prop := (wpX7_isPlayer (fun r1 => ((r1 = 0 → ((wpX7_fails (fun r3 M4 ap5 => post r3 M4 ap5) (k3 M 3 0 0 0) ap 1))) ∧ (¬ r1 = 0 → ((wpX7_isOffer (fun r6 => ((¬ r6 = 0 → ((vp_in p2 60) ∧ (∀ x9 : Int32, x9 = (k3 M 3 0 0 0) 16 30 p2.toNatClampNeg → ((vp_in p2 60) ∧ (((¬ ((k3 M 3 0 0 0) 13 32 p2.toNatClampNeg) = 111 → ((wpX7_fails (fun r12 M13 ap14 => post r12 M13 ap14) (k3 M 3 0 0 0) ap 2))) ∧ (((k3 M 3 0 0 0) 13 32 p2.toNatClampNeg) = 111 → ((vp_in x9 40) ∧ (((¬ ((k3 M 3 0 0 0) 16 7 x9.toNatClampNeg) = p1 → ((vp_in p1 6) ∧ ((vp_in p2 60) ∧ (((((k3 M 3 0 0 0) 16 31 p2.toNatClampNeg) ≤ ((k3 M 3 0 0 0) 16 2 p1.toNatClampNeg) → ((vp_in x9 40) ∧ ((vp_in p2 60) ∧ ((vp_in p2 60) ∧ ((vp_in x9 40) ∧ (((¬ ((k3 (k3 (k3 (k3 (k3 (k3 (k3 M 3 0 0 0) 16 2 p1.toNatClampNeg (((k3 M 3 0 0 0) 16 2 p1.toNatClampNeg) - ((k3 M 3 0 0 0) 16 31 p2.toNatClampNeg))) 13 32 p2.toNatClampNeg 98) 16 10 x9.toNatClampNeg (-1)) 16 34 p2.toNatClampNeg p1) 16 36 p2.toNatClampNeg ((k3 (k3 (k3 (k3 (k3 M 3 0 0 0) 16 2 p1.toNatClampNeg (((k3 M 3 0 0 0) 16 2 p1.toNatClampNeg) - ((k3 M 3 0 0 0) 16 31 p2.toNatClampNeg))) 13 32 p2.toNatClampNeg 98) 16 10 x9.toNatClampNeg (-1)) 16 34 p2.toNatClampNeg p1) 3 37 0)) 3 37 0 (((k3 (k3 (k3 (k3 (k3 (k3 M 3 0 0 0) 16 2 p1.toNatClampNeg (((k3 M 3 0 0 0) 16 2 p1.toNatClampNeg) - ((k3 M 3 0 0 0) 16 31 p2.toNatClampNeg))) 13 32 p2.toNatClampNeg 98) 16 10 x9.toNatClampNeg (-1)) 16 34 p2.toNatClampNeg p1) 16 36 p2.toNatClampNeg ((k3 (k3 (k3 (k3 (k3 M 3 0 0 0) 16 2 p1.toNatClampNeg (((k3 M 3 0 0 0) 16 2 p1.toNatClampNeg) - ((k3 M 3 0 0 0) 16 31 p2.toNatClampNeg))) 13 32 p2.toNatClampNeg 98) 16 10 x9.toNatClampNeg (-1)) 16 34 p2.toNatClampNeg p1) 3 37 0)) 3 37 0) + 1)) 13 8 x9.toNatClampNeg) = 119 → ((wpX7_pays (fun _ M25 ap26 => wX7_buy_186 post p1 p2 x9 M25 ap26) (k3 (k3 (k3 (k3 (k3 (k3 (k3 M 3 0 0 0) 16 2 p1.toNatClampNeg (((k3 M 3 0 0 0) 16 2 p1.toNatClampNeg) - ((k3 M 3 0 0 0) 16 31 p2.toNatClampNeg))) 13 32 p2.toNatClampNeg 98) 16 10 x9.toNatClampNeg (-1)) 16 34 p2.toNatClampNeg p1) 16 36 p2.toNatClampNeg ((k3 (k3 (k3 (k3 (k3 M 3 0 0 0) 16 2 p1.toNatClampNeg (((k3 M 3 0 0 0) 16 2 p1.toNatClampNeg) - ((k3 M 3 0 0 0) 16 31 p2.toNatClampNeg))) 13 32 p2.toNatClampNeg 98) 16 10 x9.toNatClampNeg (-1)) 16 34 p2.toNatClampNeg p1) 3 37 0)) 3 37 0 (((k3 (k3 (k3 (k3 (k3 (k3 M 3 0 0 0) 16 2 p1.toNatClampNeg (((k3 M 3 0 0 0) 16 2 p1.toNatClampNeg) - ((k3 M 3 0 0 0) 16 31 p2.toNatClampNeg))) 13 32 p2.toNatClampNeg 98) 16 10 x9.toNatClampNeg (-1)) 16 34 p2.toNatClampNeg p1) 16 36 p2.toNatClampNeg ((k3 (k3 (k3 (k3 (k3 M 3 0 0 0) 16 2 p1.toNatClampNeg (((k3 M 3 0 0 0) 16 2 p1.toNatClampNeg) - ((k3 M 3 0 0 0) 16 31 p2.toNatClampNeg))) 13 32 p2.toNatClampNeg 98) 16 10 x9.toNatClampNeg (-1)) 16 34 p2.toNatClampNeg p1) 3 37 0)) 3 37 0) + 1)) ap p2))) ∧ (((k3 (k3 (k3 (k3 (k3 (k3 (k3 M 3 0 0 0) 16 2 p1.toNatClampNeg (((k3 M 3 0 0 0) 16 2 p1.toNatClampNeg) - ((k3 M 3 0 0 0) 16 31 p2.toNatClampNeg))) 13 32 p2.toNatClampNeg 98) 16 10 x9.toNatClampNeg (-1)) 16 34 p2.toNatClampNeg p1) 16 36 p2.toNatClampNeg ((k3 (k3 (k3 (k3 (k3 M 3 0 0 0) 16 2 p1.toNatClampNeg (((k3 M 3 0 0 0) 16 2 p1.toNatClampNeg) - ((k3 M 3 0 0 0) 16 31 p2.toNatClampNeg))) 13 32 p2.toNatClampNeg 98) 16 10 x9.toNatClampNeg (-1)) 16 34 p2.toNatClampNeg p1) 3 37 0)) 3 37 0 (((k3 (k3 (k3 (k3 (k3 (k3 M 3 0 0 0) 16 2 p1.toNatClampNeg (((k3 M 3 0 0 0) 16 2 p1.toNatClampNeg) - ((k3 M 3 0 0 0) 16 31 p2.toNatClampNeg))) 13 32 p2.toNatClampNeg 98) 16 10 x9.toNatClampNeg (-1)) 16 34 p2.toNatClampNeg p1) 16 36 p2.toNatClampNeg ((k3 (k3 (k3 (k3 (k3 M 3 0 0 0) 16 2 p1.toNatClampNeg (((k3 M 3 0 0 0) 16 2 p1.toNatClampNeg) - ((k3 M 3 0 0 0) 16 31 p2.toNatClampNeg))) 13 32 p2.toNatClampNeg 98) 16 10 x9.toNatClampNeg (-1)) 16 34 p2.toNatClampNeg p1) 3 37 0)) 3 37 0) + 1)) 13 8 x9.toNatClampNeg) = 119 → ((vp_in x9 40) ∧ ((vp_in p2 60) ∧ (wX7_buy_186 post p1 p2 x9 (k3 (k3 (k3 (k3 (k3 (k3 (k3 (k3 M 3 0 0 0) 16 2 p1.toNatClampNeg (((k3 M 3 0 0 0) 16 2 p1.toNatClampNeg) - ((k3 M 3 0 0 0) 16 31 p2.toNatClampNeg))) 13 32 p2.toNatClampNeg 98) 16 10 x9.toNatClampNeg (-1)) 16 34 p2.toNatClampNeg p1) 16 36 p2.toNatClampNeg ((k3 (k3 (k3 (k3 (k3 M 3 0 0 0) 16 2 p1.toNatClampNeg (((k3 M 3 0 0 0) 16 2 p1.toNatClampNeg) - ((k3 M 3 0 0 0) 16 31 p2.toNatClampNeg))) 13 32 p2.toNatClampNeg 98) 16 10 x9.toNatClampNeg (-1)) 16 34 p2.toNatClampNeg p1) 3 37 0)) 3 37 0 (((k3 (k3 (k3 (k3 (k3 (k3 M 3 0 0 0) 16 2 p1.toNatClampNeg (((k3 M 3 0 0 0) 16 2 p1.toNatClampNeg) - ((k3 M 3 0 0 0) 16 31 p2.toNatClampNeg))) 13 32 p2.toNatClampNeg 98) 16 10 x9.toNatClampNeg (-1)) 16 34 p2.toNatClampNeg p1) 16 36 p2.toNatClampNeg ((k3 (k3 (k3 (k3 (k3 M 3 0 0 0) 16 2 p1.toNatClampNeg (((k3 M 3 0 0 0) 16 2 p1.toNatClampNeg) - ((k3 M 3 0 0 0) 16 31 p2.toNatClampNeg))) 13 32 p2.toNatClampNeg 98) 16 10 x9.toNatClampNeg (-1)) 16 34 p2.toNatClampNeg p1) 3 37 0)) 3 37 0) + 1)) 16 35 p2.toNatClampNeg ((k3 (k3 (k3 (k3 (k3 (k3 (k3 M 3 0 0 0) 16 2 p1.toNatClampNeg (((k3 M 3 0 0 0) 16 2 p1.toNatClampNeg) - ((k3 M 3 0 0 0) 16 31 p2.toNatClampNeg))) 13 32 p2.toNatClampNeg 98) 16 10 x9.toNatClampNeg (-1)) 16 34 p2.toNatClampNeg p1) 16 36 p2.toNatClampNeg ((k3 (k3 (k3 (k3 (k3 M 3 0 0 0) 16 2 p1.toNatClampNeg (((k3 M 3 0 0 0) 16 2 p1.toNatClampNeg) - ((k3 M 3 0 0 0) 16 31 p2.toNatClampNeg))) 13 32 p2.toNatClampNeg 98) 16 10 x9.toNatClampNeg (-1)) 16 34 p2.toNatClampNeg p1) 3 37 0)) 3 37 0 (((k3 (k3 (k3 (k3 (k3 (k3 M 3 0 0 0) 16 2 p1.toNatClampNeg (((k3 M 3 0 0 0) 16 2 p1.toNatClampNeg) - ((k3 M 3 0 0 0) 16 31 p2.toNatClampNeg))) 13 32 p2.toNatClampNeg 98) 16 10 x9.toNatClampNeg (-1)) 16 34 p2.toNatClampNeg p1) 16 36 p2.toNatClampNeg ((k3 (k3 (k3 (k3 (k3 M 3 0 0 0) 16 2 p1.toNatClampNeg (((k3 M 3 0 0 0) 16 2 p1.toNatClampNeg) - ((k3 M 3 0 0 0) 16 31 p2.toNatClampNeg))) 13 32 p2.toNatClampNeg 98) 16 10 x9.toNatClampNeg (-1)) 16 34 p2.toNatClampNeg p1) 3 37 0)) 3 37 0) + 1)) 16 9 x9.toNatClampNeg)) (ap + (((k3 (k3 (k3 (k3 (k3 (k3 (k3 (k3 M 3 0 0 0) 16 2 p1.toNatClampNeg (((k3 M 3 0 0 0) 16 2 p1.toNatClampNeg) - ((k3 M 3 0 0 0) 16 31 p2.toNatClampNeg))) 13 32 p2.toNatClampNeg 98) 16 10 x9.toNatClampNeg (-1)) 16 34 p2.toNatClampNeg p1) 16 36 p2.toNatClampNeg ((k3 (k3 (k3 (k3 (k3 M 3 0 0 0) 16 2 p1.toNatClampNeg (((k3 M 3 0 0 0) 16 2 p1.toNatClampNeg) - ((k3 M 3 0 0 0) 16 31 p2.toNatClampNeg))) 13 32 p2.toNatClampNeg 98) 16 10 x9.toNatClampNeg (-1)) 16 34 p2.toNatClampNeg p1) 3 37 0)) 3 37 0 (((k3 (k3 (k3 (k3 (k3 (k3 M 3 0 0 0) 16 2 p1.toNatClampNeg (((k3 M 3 0 0 0) 16 2 p1.toNatClampNeg) - ((k3 M 3 0 0 0) 16 31 p2.toNatClampNeg))) 13 32 p2.toNatClampNeg 98) 16 10 x9.toNatClampNeg (-1)) 16 34 p2.toNatClampNeg p1) 16 36 p2.toNatClampNeg ((k3 (k3 (k3 (k3 (k3 M 3 0 0 0) 16 2 p1.toNatClampNeg (((k3 M 3 0 0 0) 16 2 p1.toNatClampNeg) - ((k3 M 3 0 0 0) 16 31 p2.toNatClampNeg))) 13 32 p2.toNatClampNeg 98) 16 10 x9.toNatClampNeg (-1)) 16 34 p2.toNatClampNeg p1) 3 37 0)) 3 37 0) + 1)) 16 35 p2.toNatClampNeg ((k3 (k3 (k3 (k3 (k3 (k3 (k3 M 3 0 0 0) 16 2 p1.toNatClampNeg (((k3 M 3 0 0 0) 16 2 p1.toNatClampNeg) - ((k3 M 3 0 0 0) 16 31 p2.toNatClampNeg))) 13 32 p2.toNatClampNeg 98) 16 10 x9.toNatClampNeg (-1)) 16 34 p2.toNatClampNeg p1) 16 36 p2.toNatClampNeg ((k3 (k3 (k3 (k3 (k3 M 3 0 0 0) 16 2 p1.toNatClampNeg (((k3 M 3 0 0 0) 16 2 p1.toNatClampNeg) - ((k3 M 3 0 0 0) 16 31 p2.toNatClampNeg))) 13 32 p2.toNatClampNeg 98) 16 10 x9.toNatClampNeg (-1)) 16 34 p2.toNatClampNeg p1) 3 37 0)) 3 37 0 (((k3 (k3 (k3 (k3 (k3 (k3 M 3 0 0 0) 16 2 p1.toNatClampNeg (((k3 M 3 0 0 0) 16 2 p1.toNatClampNeg) - ((k3 M 3 0 0 0) 16 31 p2.toNatClampNeg))) 13 32 p2.toNatClampNeg 98) 16 10 x9.toNatClampNeg (-1)) 16 34 p2.toNatClampNeg p1) 16 36 p2.toNatClampNeg ((k3 (k3 (k3 (k3 (k3 M 3 0 0 0) 16 2 p1.toNatClampNeg (((k3 M 3 0 0 0) 16 2 p1.toNatClampNeg) - ((k3 M 3 0 0 0) 16 31 p2.toNatClampNeg))) 13 32 p2.toNatClampNeg 98) 16 10 x9.toNatClampNeg (-1)) 16 34 p2.toNatClampNeg p1) 3 37 0)) 3 37 0) + 1)) 16 9 x9.toNatClampNeg)) 16 31 p2.toNatClampNeg).toInt64))))))))))))) ∧ (¬ ((k3 M 3 0 0 0) 16 31 p2.toNatClampNeg) ≤ ((k3 M 3 0 0 0) 16 2 p1.toNatClampNeg) → ((wpX7_fails (fun r32 M33 ap34 => post r32 M33 ap34) (k3 M 3 0 0 0) ap 3)))))))) ∧ (((k3 M 3 0 0 0) 16 7 x9.toNatClampNeg) = p1 → ((wpX7_fails (fun r35 M36 ap37 => post r35 M36 ap37) (k3 M 3 0 0 0) ap 2))))))))))))) ∧ (r6 = 0 → ((wpX7_fails (fun r38 M39 ap40 => post r38 M39 ap40) (k3 M 3 0 0 0) ap 1))))) (k3 M 3 0 0 0) ap p2))))) (k3 M 3 0 0 0) ap p1)
theorem hdX7_buy : yX7_buy.cls ≠ "java/lang/invoke/MethodHandle" ∧ yX7_buy.cls ≠ "java/lang/invoke/VarHandle" ∧ (parseMethodDescriptor yX7_buy.desc).map (fun d => d.parameters.length) = some 2 := by decide +kernel
set_option maxHeartbeats 4000000 in
set_option maxRecDepth 100000 in
theorem mtX7_buy {l : Launch} {D : va_G} {cI : Nat → ClassId} {e0 : Nat} {A : Nat → Prop} {ad : Nat → Nat → Nat} {K M : KS} {ap o : Int64} {od : UInt64} {mc ms : Nat} {p1 : Int32} {p2 : Int32} {post : Int32 → KS → Int64 → Prop} (h : wpX7_buy post M ap p1 p2) : CM l D cI e0 A yX7_buy cX7_buy 4 (some FieldType.int) 2 43 mc ms [.ref (ad 3 0), .int p1, .int p2] (HT D cI e0 A ad K M ap o od) (qM D cI e0 A ad K o od rI post) xN := by
  refine CM.of (by decide) (Nat.le_of_ble_eq_true rfl) (fun p e s m below meth c ls FX hw hS hl => ?_)
  obtain ⟨S, hg, hr, hlk, hnm, hout⟩ := FX
  have hl : lv_has ls 4 [(0, .ref (ad 3 0)), (1, .int p1), (2, .int p2)] := hl
  unfold wpX7_buy at h
  refine lv_aload_n S.1 S.2.1 dX7_buy_0 rfl (lv_at hl 0 rfl) ?_
  refine lv_iconst (v := 0) S.1 S.2.1 dX7_buy_1 (by decide) ?_
  refine p3_0 S hg hS hw u1044 dX7_buy_2 (fun H locs hw hS => ?_)
  refine lv_aload_n S.1 S.2.1 dX7_buy_5 rfl (lv_at hl 0 rfl) ?_
  refine lv_iload_n S.1 S.2.1 dX7_buy_6 rfl (lv_at hl 1 rfl) ?_
  refine r_call (rest := []) S hg hS (mtX7_isPlayer (mc := 0) (ms := 0) h) u1179 u1181 u27 u49 u1182 hdX7_isPlayer (rv3 hg hw) hw ⟨Nat.le_of_ble_eq_true rfl, Nat.le_of_ble_eq_true rfl⟩ ⟨by show 0 + 0 ≤ mc; omega, by show 0 + 0 ≤ ms; omega⟩ hl.1 (Nat.le_of_ble_eq_true rfl) rfl dX7_buy_7 (fun E ce q H1 locs1 hx hS1 hc1 hc2 hc3 => hx.elim) (fun rv H locs hq hS => ?_)
  obtain ⟨r1, rfl, h, hw⟩ := hq
  show W p l e _ s m _ below meth c H locs _ _ _ (F0 m 10 ls [.int r1])
  show W p l e _ s m _ below meth c H locs 0 0 _ _
  refine lv_if_eq (tgt := 21) S.1 S.2.1 dX7_buy_10 (by decide) (fun c2 => ?_) (fun c2 => ?_)
  · have h := h.1 c2
    refine lv_aload_n S.1 S.2.1 dX7_buy_21 rfl (lv_at hl 0 rfl) ?_
    refine lv_iconst (v := 1) S.1 S.2.1 dX7_buy_22 (by decide) ?_
    refine r_call (rest := []) S hg hS (mtX7_fails (mc := 0) (ms := 0) h) u1171 u1173 u26 u49 u1174 hdX7_fails (rv3 hg hw) hw ⟨Nat.le_of_ble_eq_true rfl, Nat.le_of_ble_eq_true rfl⟩ ⟨by show 0 + 0 ≤ mc; omega, by show 0 + 0 ≤ ms; omega⟩ hl.1 (Nat.le_of_ble_eq_true rfl) rfl dX7_buy_23 (fun E ce q H1 locs1 hx hS1 hc1 hc2 hc3 => hx.elim) (fun rv H locs hq hS => ?_)
    obtain ⟨r3, M4, ap5, rfl, h, hw⟩ := hq
    show W p l e _ s m _ below meth c H locs _ _ _ (F0 m 26 ls [.int r3])
    show W p l e _ s m _ below meth c H locs 0 0 _ _
    exact r_iret (y := yX7_buy) S hr rfl hlk hS (by omega) (by omega) dX7_buy_26 ⟨r3, _, _, rfl, h, hw⟩
  · have h := h.2 c2
    refine lv_aload_n S.1 S.2.1 dX7_buy_13 rfl (lv_at hl 0 rfl) ?_
    refine lv_iload_n S.1 S.2.1 dX7_buy_14 rfl (lv_at hl 2 rfl) ?_
    refine r_call (rest := []) S hg hS (mtX7_isOffer (mc := 0) (ms := 0) h) u1331 u1333 u41 u49 u1334 hdX7_isOffer (rv3 hg hw) hw ⟨Nat.le_of_ble_eq_true rfl, Nat.le_of_ble_eq_true rfl⟩ ⟨by show 0 + 0 ≤ mc; omega, by show 0 + 0 ≤ ms; omega⟩ hl.1 (Nat.le_of_ble_eq_true rfl) rfl dX7_buy_15 (fun E ce q H1 locs1 hx hS1 hc1 hc2 hc3 => hx.elim) (fun rv H locs hq hS => ?_)
    obtain ⟨r6, rfl, h, hw⟩ := hq
    show W p l e _ s m _ below meth c H locs _ _ _ (F0 m 18 ls [.int r6])
    show W p l e _ s m _ below meth c H locs 0 0 _ _
    refine lv_if_ne (tgt := 27) S.1 S.2.1 dX7_buy_18 (by decide) (fun c7 => ?_) (fun c7 => ?_)
    · have h := h.1 c7
      refine lv_aload_n S.1 S.2.1 dX7_buy_27 rfl (lv_at hl 0 rfl) ?_
      refine g3_30 S hg hw u1074 dX7_buy_28 ?_
      refine lv_iload_n S.1 S.2.1 dX7_buy_31 rfl (lv_at hl 2 rfl) ?_
      obtain ⟨g8, h⟩ := h
      refine a16 S hg hw rfl g8 dX7_buy_32 ?_
      refine lv_topi (fun x9 ex9 => ?_)
      have h := h x9 ex9
      refine lv_istore_n (lv' := [(3, .int x9), (0, .ref (ad 3 0)), (1, .int p1), (2, .int p2)]) S.1 S.2.1 dX7_buy_33 rfl hl (by decide) rfl (fun ls hl => ?_)
      refine lv_aload_n S.1 S.2.1 dX7_buy_34 rfl (lv_at hl 1 rfl) ?_
      refine g3_32 S hg hw u1076 dX7_buy_35 ?_
      refine lv_iload_n S.1 S.2.1 dX7_buy_38 rfl (lv_at hl 3 rfl) ?_
      obtain ⟨g10, h⟩ := h
      refine a13 S hg hw rfl g10 dX7_buy_39 ?_
      refine lv_bipush (v := 111) S.1 S.2.1 dX7_buy_40 (by decide) ?_
      refine lv_icmp_ne (tgt := 55) S.1 S.2.1 dX7_buy_42 (by decide) (fun c11 => ?_) (fun c11 => ?_)
      · have h := h.1 c11
        refine lv_aload_n S.1 S.2.1 dX7_buy_55 rfl (lv_at hl 1 rfl) ?_
        refine lv_iconst (v := 2) S.1 S.2.1 dX7_buy_56 (by decide) ?_
        refine r_call (rest := []) S hg hS (mtX7_fails (mc := 0) (ms := 0) h) u1171 u1173 u26 u49 u1174 hdX7_fails (rv3 hg hw) hw ⟨Nat.le_of_ble_eq_true rfl, Nat.le_of_ble_eq_true rfl⟩ ⟨by show 0 + 0 ≤ mc; omega, by show 0 + 0 ≤ ms; omega⟩ hl.1 (Nat.le_of_ble_eq_true rfl) rfl dX7_buy_57 (fun E ce q H1 locs1 hx hS1 hc1 hc2 hc3 => hx.elim) (fun rv H locs hq hS => ?_)
        obtain ⟨r12, M13, ap14, rfl, h, hw⟩ := hq
        show W p l e _ s m _ below meth c H locs _ _ _ (F0 m 60 ls [.int r12])
        show W p l e _ s m _ below meth c H locs 0 0 _ _
        exact r_iret (y := yX7_buy) S hr rfl hlk hS (by omega) (by omega) dX7_buy_60 ⟨r12, _, _, rfl, h, hw⟩
      · have h := h.2 c11
        refine lv_aload_n S.1 S.2.1 dX7_buy_45 rfl (lv_at hl 1 rfl) ?_
        refine g3_7 S hg hw u1051 dX7_buy_46 ?_
        refine lv_iload_n S.1 S.2.1 dX7_buy_49 rfl (lv_at hl 0 rfl) ?_
        obtain ⟨g15, h⟩ := h
        refine a16 S hg hw rfl g15 dX7_buy_50 ?_
        refine lv_iload_n S.1 S.2.1 dX7_buy_51 rfl (lv_at hl 2 rfl) ?_
        refine lv_icmp_ne (tgt := 61) S.1 S.2.1 dX7_buy_52 (by decide) (fun c16 => ?_) (fun c16 => ?_)
        · have h := h.1 c16
          refine lv_aload_n S.1 S.2.1 dX7_buy_61 rfl (lv_at hl 1 rfl) ?_
          refine g3_2 S hg hw u1046 dX7_buy_62 ?_
          refine lv_iload_n S.1 S.2.1 dX7_buy_65 rfl (lv_at hl 2 rfl) ?_
          obtain ⟨g17, h⟩ := h
          refine a16 S hg hw rfl g17 dX7_buy_66 ?_
          refine lv_aload_n S.1 S.2.1 dX7_buy_67 rfl (lv_at hl 1 rfl) ?_
          refine g3_31 S hg hw u1075 dX7_buy_68 ?_
          refine lv_iload_n S.1 S.2.1 dX7_buy_71 rfl (lv_at hl 3 rfl) ?_
          obtain ⟨g18, h⟩ := h
          refine a16 S hg hw rfl g18 dX7_buy_72 ?_
          refine lv_icmp_ge (tgt := 82) S.1 S.2.1 dX7_buy_73 (by decide) (fun c19 => ?_) (fun c19 => ?_)
          · have h := h.1 c19
            refine lv_aload_n S.1 S.2.1 dX7_buy_82 rfl (lv_at hl 1 rfl) ?_
            refine g3_2 S hg hw u1046 dX7_buy_83 ?_
            refine lv_iload_n S.1 S.2.1 dX7_buy_86 rfl (lv_at hl 2 rfl) ?_
            refine lv_dup2_11 S.1 S.2.1 dX7_buy_87 rfl rfl ?_
            refine a16 S hg hw rfl g17 dX7_buy_88 ?_
            refine lv_aload_n S.1 S.2.1 dX7_buy_89 rfl (lv_at hl 1 rfl) ?_
            refine g3_31 S hg hw u1075 dX7_buy_90 ?_
            refine lv_iload_n S.1 S.2.1 dX7_buy_93 rfl (lv_at hl 3 rfl) ?_
            refine a16 S hg hw rfl g18 dX7_buy_94 ?_
            refine lv_isub S.1 S.2.1 dX7_buy_95 ?_
            refine s16 S hg hS hw rfl g17 dX7_buy_96 (fun H locs hw hS => ?_)
            refine lv_aload_n S.1 S.2.1 dX7_buy_97 rfl (lv_at hl 1 rfl) ?_
            refine g3_32 S hg hw u1076 dX7_buy_98 ?_
            refine lv_iload_n S.1 S.2.1 dX7_buy_101 rfl (lv_at hl 3 rfl) ?_
            refine lv_bipush (v := 98) S.1 S.2.1 dX7_buy_102 (by decide) ?_
            refine s13 S hg hS hw rfl g10 (by decide) dX7_buy_104 (fun H locs hw hS => ?_)
            refine lv_aload_n S.1 S.2.1 dX7_buy_105 rfl (lv_at hl 1 rfl) ?_
            refine g3_10 S hg hw u1054 dX7_buy_106 ?_
            refine lv_iload_n S.1 S.2.1 dX7_buy_109 rfl (lv_at hl 0 rfl) ?_
            refine lv_iconst (v := (-1)) S.1 S.2.1 dX7_buy_110 (by decide) ?_
            obtain ⟨g20, h⟩ := h
            refine s16 S hg hS hw rfl g20 dX7_buy_111 (fun H locs hw hS => ?_)
            refine lv_aload_n S.1 S.2.1 dX7_buy_112 rfl (lv_at hl 1 rfl) ?_
            refine g3_34 S hg hw u1078 dX7_buy_113 ?_
            refine lv_iload_n S.1 S.2.1 dX7_buy_116 rfl (lv_at hl 3 rfl) ?_
            refine lv_iload_n S.1 S.2.1 dX7_buy_117 rfl (lv_at hl 2 rfl) ?_
            obtain ⟨g21, h⟩ := h
            refine s16 S hg hS hw rfl g21 dX7_buy_118 (fun H locs hw hS => ?_)
            refine lv_aload_n S.1 S.2.1 dX7_buy_119 rfl (lv_at hl 1 rfl) ?_
            refine g3_36 S hg hw u1080 dX7_buy_120 ?_
            refine lv_iload_n S.1 S.2.1 dX7_buy_123 rfl (lv_at hl 3 rfl) ?_
            refine lv_aload_n S.1 S.2.1 dX7_buy_124 rfl (lv_at hl 1 rfl) ?_
            refine g3_37 S hg hw u1081 dX7_buy_125 ?_
            obtain ⟨g22, h⟩ := h
            refine s16 S hg hS hw rfl g22 dX7_buy_128 (fun H locs hw hS => ?_)
            refine lv_aload_n S.1 S.2.1 dX7_buy_129 rfl (lv_at hl 1 rfl) ?_
            refine lv_dup S.1 S.2.1 dX7_buy_130 rfl ?_
            refine g3_37 S hg hw u1081 dX7_buy_131 ?_
            refine lv_iconst (v := 1) S.1 S.2.1 dX7_buy_134 (by decide) ?_
            refine lv_iadd S.1 S.2.1 dX7_buy_135 ?_
            refine p3_37 S hg hS hw u1081 dX7_buy_136 (fun H locs hw hS => ?_)
            refine lv_aload_n S.1 S.2.1 dX7_buy_139 rfl (lv_at hl 1 rfl) ?_
            refine g3_8 S hg hw u1052 dX7_buy_140 ?_
            refine lv_iload_n S.1 S.2.1 dX7_buy_143 rfl (lv_at hl 0 rfl) ?_
            obtain ⟨g23, h⟩ := h
            refine a13 S hg hw rfl g23 dX7_buy_144 ?_
            refine lv_bipush (v := 119) S.1 S.2.1 dX7_buy_145 (by decide) ?_
            refine lv_icmp_ne (tgt := 181) S.1 S.2.1 dX7_buy_147 (by decide) (fun c24 => ?_) (fun c24 => ?_)
            · have h := h.1 c24
              refine lv_aload_n S.1 S.2.1 dX7_buy_181 rfl (lv_at hl 1 rfl) ?_
              refine lv_iload_n S.1 S.2.1 dX7_buy_182 rfl (lv_at hl 3 rfl) ?_
              refine r_call (rest := []) S hg hS (mtX7_pays (mc := 0) (ms := 0) h) u1287 u1289 u36 u49 u1290 hdX7_pays (rv3 hg hw) hw ⟨Nat.le_of_ble_eq_true rfl, Nat.le_of_ble_eq_true rfl⟩ ⟨by show 0 + 0 ≤ mc; omega, by show 0 + 0 ≤ ms; omega⟩ hl.1 (Nat.le_of_ble_eq_true rfl) rfl dX7_buy_183 (fun E ce q H1 locs1 hx hS1 hc1 hc2 hc3 => hx.elim) (fun rv H locs hq hS => ?_)
              obtain ⟨_, M25, ap26, rfl, h, hw⟩ := hq
              show W p l e _ s m _ below meth c H locs _ _ _ (F0 m 186 ls [])
              show W p l e _ s m _ below meth c H locs 0 0 _ _
              have hl := lv_sub hl (l' := [(0, .ref (ad 3 0)), (1, .int p1), (2, .int p2), (3, .int x9)]) [1, 2, 3, 0] rfl
              exact bX7_buy_186 S hg hr hlk hout hS hw hl h
            · have h := h.2 c24
              refine lv_aload_n S.1 S.2.1 dX7_buy_150 rfl (lv_at hl 1 rfl) ?_
              refine g3_35 S hg hw u1079 dX7_buy_151 ?_
              refine lv_iload_n S.1 S.2.1 dX7_buy_154 rfl (lv_at hl 3 rfl) ?_
              refine lv_aload_n S.1 S.2.1 dX7_buy_155 rfl (lv_at hl 1 rfl) ?_
              refine g3_9 S hg hw u1053 dX7_buy_156 ?_
              refine lv_iload_n S.1 S.2.1 dX7_buy_159 rfl (lv_at hl 0 rfl) ?_
              obtain ⟨g30, h⟩ := h
              refine a16 S hg hw rfl g30 dX7_buy_160 ?_
              obtain ⟨g31, h⟩ := h
              refine s16 S hg hS hw rfl g31 dX7_buy_161 (fun H locs hw hS => ?_)
              refine lv_aload_n S.1 S.2.1 dX7_buy_162 rfl (lv_at hl 1 rfl) ?_
              refine lv_dup S.1 S.2.1 dX7_buy_163 rfl ?_
              refine g3_4 S hg hw u1048 dX7_buy_164 ?_
              refine lv_aload_n S.1 S.2.1 dX7_buy_167 rfl (lv_at hl 1 rfl) ?_
              refine g3_31 S hg hw u1075 dX7_buy_168 ?_
              refine lv_iload_n S.1 S.2.1 dX7_buy_171 rfl (lv_at hl 3 rfl) ?_
              refine a16 S hg hw rfl g18 dX7_buy_172 ?_
              refine lv_i2l S.1 S.2.1 dX7_buy_173 rfl ?_
              refine lv_ladd S.1 S.2.1 dX7_buy_174 ?_
              refine p3_4 S hg hS hw u1048 dX7_buy_175 (fun H locs hw hS => ?_)
              refine lv_goto (tgt := 186) S.1 S.2.1 dX7_buy_178 (by decide) ?_
              have hl := lv_sub hl (l' := [(0, .ref (ad 3 0)), (1, .int p1), (2, .int p2), (3, .int x9)]) [1, 2, 3, 0] rfl
              exact bX7_buy_186 S hg hr hlk hout hS hw hl h
          · have h := h.2 c19
            refine lv_aload_n S.1 S.2.1 dX7_buy_76 rfl (lv_at hl 1 rfl) ?_
            refine lv_iconst (v := 3) S.1 S.2.1 dX7_buy_77 (by decide) ?_
            refine r_call (rest := []) S hg hS (mtX7_fails (mc := 0) (ms := 0) h) u1171 u1173 u26 u49 u1174 hdX7_fails (rv3 hg hw) hw ⟨Nat.le_of_ble_eq_true rfl, Nat.le_of_ble_eq_true rfl⟩ ⟨by show 0 + 0 ≤ mc; omega, by show 0 + 0 ≤ ms; omega⟩ hl.1 (Nat.le_of_ble_eq_true rfl) rfl dX7_buy_78 (fun E ce q H1 locs1 hx hS1 hc1 hc2 hc3 => hx.elim) (fun rv H locs hq hS => ?_)
            obtain ⟨r32, M33, ap34, rfl, h, hw⟩ := hq
            show W p l e _ s m _ below meth c H locs _ _ _ (F0 m 81 ls [.int r32])
            show W p l e _ s m _ below meth c H locs 0 0 _ _
            exact r_iret (y := yX7_buy) S hr rfl hlk hS (by omega) (by omega) dX7_buy_81 ⟨r32, _, _, rfl, h, hw⟩
        · have h := h.2 c16
          refine lv_aload_n S.1 S.2.1 dX7_buy_55 rfl (lv_at hl 1 rfl) ?_
          refine lv_iconst (v := 2) S.1 S.2.1 dX7_buy_56 (by decide) ?_
          refine r_call (rest := []) S hg hS (mtX7_fails (mc := 0) (ms := 0) h) u1171 u1173 u26 u49 u1174 hdX7_fails (rv3 hg hw) hw ⟨Nat.le_of_ble_eq_true rfl, Nat.le_of_ble_eq_true rfl⟩ ⟨by show 0 + 0 ≤ mc; omega, by show 0 + 0 ≤ ms; omega⟩ hl.1 (Nat.le_of_ble_eq_true rfl) rfl dX7_buy_57 (fun E ce q H1 locs1 hx hS1 hc1 hc2 hc3 => hx.elim) (fun rv H locs hq hS => ?_)
          obtain ⟨r35, M36, ap37, rfl, h, hw⟩ := hq
          show W p l e _ s m _ below meth c H locs _ _ _ (F0 m 60 ls [.int r35])
          show W p l e _ s m _ below meth c H locs 0 0 _ _
          exact r_iret (y := yX7_buy) S hr rfl hlk hS (by omega) (by omega) dX7_buy_60 ⟨r35, _, _, rfl, h, hw⟩
    · have h := h.2 c7
      refine lv_aload_n S.1 S.2.1 dX7_buy_21 rfl (lv_at hl 0 rfl) ?_
      refine lv_iconst (v := 1) S.1 S.2.1 dX7_buy_22 (by decide) ?_
      refine r_call (rest := []) S hg hS (mtX7_fails (mc := 0) (ms := 0) h) u1171 u1173 u26 u49 u1174 hdX7_fails (rv3 hg hw) hw ⟨Nat.le_of_ble_eq_true rfl, Nat.le_of_ble_eq_true rfl⟩ ⟨by show 0 + 0 ≤ mc; omega, by show 0 + 0 ≤ ms; omega⟩ hl.1 (Nat.le_of_ble_eq_true rfl) rfl dX7_buy_23 (fun E ce q H1 locs1 hx hS1 hc1 hc2 hc3 => hx.elim) (fun rv H locs hq hS => ?_)
      obtain ⟨r38, M39, ap40, rfl, h, hw⟩ := hq
      show W p l e _ s m _ below meth c H locs _ _ _ (F0 m 26 ls [.int r38])
      show W p l e _ s m _ below meth c H locs 0 0 _ _
      exact r_iret (y := yX7_buy) S hr rfl hlk hS (by omega) (by omega) dX7_buy_26 ⟨r38, _, _, rfl, h, hw⟩

-- X7.offerState
theorem dX7_offerState_0 : decode cX7_offerState 0 = .ok (.aload_n 0, 1) := by decide +kernel
theorem dX7_offerState_1 : decode cX7_offerState 1 = .ok (.iconst 0, 1) := by decide +kernel
theorem dX7_offerState_2 : decode cX7_offerState 2 = .ok (.putfield 98, 3) := by decide +kernel
theorem dX7_offerState_5 : decode cX7_offerState 5 = .ok (.aload_n 0, 1) := by decide +kernel
theorem dX7_offerState_6 : decode cX7_offerState 6 = .ok (.iload_n 1, 1) := by decide +kernel
theorem dX7_offerState_7 : decode cX7_offerState 7 = .ok (.invokevirtual 179, 3) := by decide +kernel
theorem dX7_offerState_10 : decode cX7_offerState 10 = .ok (.ifCond .eq 12, 3) := by decide +kernel
theorem dX7_offerState_13 : decode cX7_offerState 13 = .ok (.aload_n 0, 1) := by decide +kernel
theorem dX7_offerState_14 : decode cX7_offerState 14 = .ok (.getfield 83, 3) := by decide +kernel
theorem dX7_offerState_17 : decode cX7_offerState 17 = .ok (.iload_n 1, 1) := by decide +kernel
theorem dX7_offerState_18 : decode cX7_offerState 18 = .ok (.caload, 1) := by decide +kernel
theorem dX7_offerState_19 : decode cX7_offerState 19 = .ok (.goto 8, 3) := by decide +kernel
theorem dX7_offerState_22 : decode cX7_offerState 22 = .ok (.aload_n 0, 1) := by decide +kernel
theorem dX7_offerState_23 : decode cX7_offerState 23 = .ok (.iconst 1, 1) := by decide +kernel
theorem dX7_offerState_24 : decode cX7_offerState 24 = .ok (.invokevirtual 130, 3) := by decide +kernel
theorem dX7_offerState_27 : decode cX7_offerState 27 = .ok (.ireturn, 1) := by decide +kernel
def wpX7_offerState (post : Int32 → KS → Int64 → Prop) (M : KS) (ap : Int64) (p1 : Int32) : Prop := (wpX7_isOffer (fun r1 => ((r1 = 0 → ((wpX7_failsChar (fun r3 M4 ap5 => (narrow .char (.int r3) = .int r3) ∧ post r3 M4 ap5) (k3 M 3 0 0 0) ap 1))) ∧ (¬ r1 = 0 → ((vp_in p1 60) ∧ ((narrow .char (.int ((k3 M 3 0 0 0) 13 32 p1.toNatClampNeg)) = .int ((k3 M 3 0 0 0) 13 32 p1.toNatClampNeg)) ∧ post ((k3 M 3 0 0 0) 13 32 p1.toNatClampNeg) (k3 M 3 0 0 0) ap))))) (k3 M 3 0 0 0) ap p1)
theorem hdX7_offerState : yX7_offerState.cls ≠ "java/lang/invoke/MethodHandle" ∧ yX7_offerState.cls ≠ "java/lang/invoke/VarHandle" ∧ (parseMethodDescriptor yX7_offerState.desc).map (fun d => d.parameters.length) = some 1 := by decide +kernel
set_option maxHeartbeats 4000000 in
set_option maxRecDepth 100000 in
theorem mtX7_offerState {l : Launch} {D : va_G} {cI : Nat → ClassId} {e0 : Nat} {A : Nat → Prop} {ad : Nat → Nat → Nat} {K M : KS} {ap o : Int64} {od : UInt64} {mc ms : Nat} {p1 : Int32} {post : Int32 → KS → Int64 → Prop} (h : wpX7_offerState post M ap p1) : CM l D cI e0 A yX7_offerState cX7_offerState 2 (some FieldType.char) 2 43 mc ms [.ref (ad 3 0), .int p1] (HT D cI e0 A ad K M ap o od) (qM D cI e0 A ad K o od rI post) xN := by
  refine CM.of (by decide) (Nat.le_of_ble_eq_true rfl) (fun p e s m below meth c ls FX hw hS hl => ?_)
  obtain ⟨S, hg, hr, hlk, hnm, hout⟩ := FX
  have hl : lv_has ls 2 [(0, .ref (ad 3 0)), (1, .int p1)] := hl
  unfold wpX7_offerState at h
  refine lv_aload_n S.1 S.2.1 dX7_offerState_0 rfl (lv_at hl 0 rfl) ?_
  refine lv_iconst (v := 0) S.1 S.2.1 dX7_offerState_1 (by decide) ?_
  refine p3_0 S hg hS hw u1044 dX7_offerState_2 (fun H locs hw hS => ?_)
  refine lv_aload_n S.1 S.2.1 dX7_offerState_5 rfl (lv_at hl 0 rfl) ?_
  refine lv_iload_n S.1 S.2.1 dX7_offerState_6 rfl (lv_at hl 1 rfl) ?_
  refine r_call (rest := []) S hg hS (mtX7_isOffer (mc := 0) (ms := 0) h) u1331 u1333 u41 u49 u1334 hdX7_isOffer (rv3 hg hw) hw ⟨Nat.le_of_ble_eq_true rfl, Nat.le_of_ble_eq_true rfl⟩ ⟨by show 0 + 0 ≤ mc; omega, by show 0 + 0 ≤ ms; omega⟩ hl.1 (Nat.le_of_ble_eq_true rfl) rfl dX7_offerState_7 (fun E ce q H1 locs1 hx hS1 hc1 hc2 hc3 => hx.elim) (fun rv H locs hq hS => ?_)
  obtain ⟨r1, rfl, h, hw⟩ := hq
  show W p l e _ s m _ below meth c H locs _ _ _ (F0 m 10 ls [.int r1])
  show W p l e _ s m _ below meth c H locs 0 0 _ _
  refine lv_if_eq (tgt := 22) S.1 S.2.1 dX7_offerState_10 (by decide) (fun c2 => ?_) (fun c2 => ?_)
  · have h := h.1 c2
    refine lv_aload_n S.1 S.2.1 dX7_offerState_22 rfl (lv_at hl 0 rfl) ?_
    refine lv_iconst (v := 1) S.1 S.2.1 dX7_offerState_23 (by decide) ?_
    refine r_call (rest := []) S hg hS (mtX7_failsChar (mc := 0) (ms := 0) h) u1203 u1205 u30 u49 u1206 hdX7_failsChar (rv3 hg hw) hw ⟨Nat.le_of_ble_eq_true rfl, Nat.le_of_ble_eq_true rfl⟩ ⟨by show 0 + 0 ≤ mc; omega, by show 0 + 0 ≤ ms; omega⟩ hl.1 (Nat.le_of_ble_eq_true rfl) rfl dX7_offerState_24 (fun E ce q H1 locs1 hx hS1 hc1 hc2 hc3 => hx.elim) (fun rv H locs hq hS => ?_)
    obtain ⟨r3, M4, ap5, rfl, h, hw⟩ := hq
    show W p l e _ s m _ below meth c H locs _ _ _ (F0 m 27 ls [.int r3])
    show W p l e _ s m _ below meth c H locs 0 0 _ _
    obtain ⟨g6, h⟩ := h
    exact r_iret (y := yX7_offerState) S hr g6 hlk hS (by omega) (by omega) dX7_offerState_27 ⟨r3, _, _, rfl, h, hw⟩
  · have h := h.2 c2
    refine lv_aload_n S.1 S.2.1 dX7_offerState_13 rfl (lv_at hl 0 rfl) ?_
    refine g3_32 S hg hw u1076 dX7_offerState_14 ?_
    refine lv_iload_n S.1 S.2.1 dX7_offerState_17 rfl (lv_at hl 1 rfl) ?_
    obtain ⟨g7, h⟩ := h
    refine a13 S hg hw rfl g7 dX7_offerState_18 ?_
    refine lv_goto (tgt := 27) S.1 S.2.1 dX7_offerState_19 (by decide) ?_
    obtain ⟨g8, h⟩ := h
    exact r_iret (y := yX7_offerState) S hr g8 hlk hS (by omega) (by omega) dX7_offerState_27 ⟨((k3 M 3 0 0 0) 13 32 p1.toNatClampNeg), _, _, rfl, h, hw⟩

-- X7.house
theorem dX7_house_0 : decode cX7_house 0 = .ok (.aload_n 0, 1) := by decide +kernel
theorem dX7_house_1 : decode cX7_house 1 = .ok (.iconst 0, 1) := by decide +kernel
theorem dX7_house_2 : decode cX7_house 2 = .ok (.putfield 98, 3) := by decide +kernel
theorem dX7_house_5 : decode cX7_house 5 = .ok (.aload_n 0, 1) := by decide +kernel
theorem dX7_house_6 : decode cX7_house 6 = .ok (.getfield 164, 3) := by decide +kernel
theorem dX7_house_9 : decode cX7_house 9 = .ok (.ireturn, 1) := by decide +kernel
def wpX7_house (post : Int32 → KS → Int64 → Prop) (M : KS) (ap : Int64) : Prop := post ((k3 M 3 0 0 0) 3 3 0) (k3 M 3 0 0 0) ap
theorem hdX7_house : yX7_house.cls ≠ "java/lang/invoke/MethodHandle" ∧ yX7_house.cls ≠ "java/lang/invoke/VarHandle" ∧ (parseMethodDescriptor yX7_house.desc).map (fun d => d.parameters.length) = some 0 := by decide +kernel
set_option maxHeartbeats 4000000 in
set_option maxRecDepth 100000 in
theorem mtX7_house {l : Launch} {D : va_G} {cI : Nat → ClassId} {e0 : Nat} {A : Nat → Prop} {ad : Nat → Nat → Nat} {K M : KS} {ap o : Int64} {od : UInt64} {mc ms : Nat} {post : Int32 → KS → Int64 → Prop} (h : wpX7_house post M ap) : CM l D cI e0 A yX7_house cX7_house 1 (some FieldType.int) 0 0 mc ms [.ref (ad 3 0)] (HT D cI e0 A ad K M ap o od) (qM D cI e0 A ad K o od rI post) xN := by
  refine CM.of (by decide) (Nat.le_of_ble_eq_true rfl) (fun p e s m below meth c ls FX hw hS hl => ?_)
  obtain ⟨S, hg, hr, hlk, hnm, hout⟩ := FX
  have hl : lv_has ls 1 [(0, .ref (ad 3 0))] := hl
  unfold wpX7_house at h
  refine lv_aload_n S.1 S.2.1 dX7_house_0 rfl (lv_at hl 0 rfl) ?_
  refine lv_iconst (v := 0) S.1 S.2.1 dX7_house_1 (by decide) ?_
  refine p3_0 S hg hS hw u1044 dX7_house_2 (fun H locs hw hS => ?_)
  refine lv_aload_n S.1 S.2.1 dX7_house_5 rfl (lv_at hl 0 rfl) ?_
  refine g3_3 S hg hw u1047 dX7_house_6 ?_
  exact r_iret (y := yX7_house) S hr rfl hlk hS (by omega) (by omega) dX7_house_9 ⟨((k3 M 3 0 0 0) 3 3 0), _, _, rfl, h, hw⟩

-- X7.apart
theorem dX7_apart_0 : decode cX7_apart 0 = .ok (.aload_n 0, 1) := by decide +kernel
theorem dX7_apart_1 : decode cX7_apart 1 = .ok (.iconst 0, 1) := by decide +kernel
theorem dX7_apart_2 : decode cX7_apart 2 = .ok (.putfield 98, 3) := by decide +kernel
theorem dX7_apart_5 : decode cX7_apart 5 = .ok (.aload_n 0, 1) := by decide +kernel
theorem dX7_apart_6 : decode cX7_apart 6 = .ok (.getfield 157, 3) := by decide +kernel
theorem dX7_apart_9 : decode cX7_apart 9 = .ok (.lreturn, 1) := by decide +kernel
def wpX7_apart (post : Int64 → KS → Int64 → Prop) (M : KS) (ap : Int64) : Prop := post ap (k3 M 3 0 0 0) ap
theorem hdX7_apart : yX7_apart.cls ≠ "java/lang/invoke/MethodHandle" ∧ yX7_apart.cls ≠ "java/lang/invoke/VarHandle" ∧ (parseMethodDescriptor yX7_apart.desc).map (fun d => d.parameters.length) = some 0 := by decide +kernel
set_option maxHeartbeats 4000000 in
set_option maxRecDepth 100000 in
theorem mtX7_apart {l : Launch} {D : va_G} {cI : Nat → ClassId} {e0 : Nat} {A : Nat → Prop} {ad : Nat → Nat → Nat} {K M : KS} {ap o : Int64} {od : UInt64} {mc ms : Nat} {post : Int64 → KS → Int64 → Prop} (h : wpX7_apart post M ap) : CM l D cI e0 A yX7_apart cX7_apart 1 (some FieldType.long) 0 0 mc ms [.ref (ad 3 0)] (HT D cI e0 A ad K M ap o od) (qM D cI e0 A ad K o od rL post) xN := by
  refine CM.of (by decide) (Nat.le_of_ble_eq_true rfl) (fun p e s m below meth c ls FX hw hS hl => ?_)
  obtain ⟨S, hg, hr, hlk, hnm, hout⟩ := FX
  have hl : lv_has ls 1 [(0, .ref (ad 3 0))] := hl
  unfold wpX7_apart at h
  refine lv_aload_n S.1 S.2.1 dX7_apart_0 rfl (lv_at hl 0 rfl) ?_
  refine lv_iconst (v := 0) S.1 S.2.1 dX7_apart_1 (by decide) ?_
  refine p3_0 S hg hS hw u1044 dX7_apart_2 (fun H locs hw hS => ?_)
  refine lv_aload_n S.1 S.2.1 dX7_apart_5 rfl (lv_at hl 0 rfl) ?_
  refine g3_4 S hg hw u1048 dX7_apart_6 ?_
  exact r_lret (y := yX7_apart) S hr hlk hS (by omega) (by omega) dX7_apart_9 ⟨ap, _, _, rfl, h, hw⟩

-- X7.meanPrice
theorem dX7_meanPrice_0 : decode cX7_meanPrice 0 = .ok (.iconst 0, 1) := by decide +kernel
theorem dX7_meanPrice_1 : decode cX7_meanPrice 1 = .ok (.istore_n 1, 1) := by decide +kernel
theorem dX7_meanPrice_2 : decode cX7_meanPrice 2 = .ok (.iconst 0, 1) := by decide +kernel
theorem dX7_meanPrice_3 : decode cX7_meanPrice 3 = .ok (.istore_n 2, 1) := by decide +kernel
theorem dX7_meanPrice_4 : decode cX7_meanPrice 4 = .ok (.iconst 0, 1) := by decide +kernel
theorem dX7_meanPrice_5 : decode cX7_meanPrice 5 = .ok (.istore_n 3, 1) := by decide +kernel
theorem dX7_meanPrice_6 : decode cX7_meanPrice 6 = .ok (.iload_n 3, 1) := by decide +kernel
theorem dX7_meanPrice_7 : decode cX7_meanPrice 7 = .ok (.aload_n 0, 1) := by decide +kernel
theorem dX7_meanPrice_8 : decode cX7_meanPrice 8 = .ok (.getfield 154, 3) := by decide +kernel
theorem dX7_meanPrice_11 : decode cX7_meanPrice 11 = .ok (.if_icmp .ge 52, 3) := by decide +kernel
theorem dX7_meanPrice_14 : decode cX7_meanPrice 14 = .ok (.iload_n 1, 1) := by decide +kernel
theorem dX7_meanPrice_15 : decode cX7_meanPrice 15 = .ok (.aload_n 0, 1) := by decide +kernel
theorem dX7_meanPrice_16 : decode cX7_meanPrice 16 = .ok (.getfield 83, 3) := by decide +kernel
theorem dX7_meanPrice_19 : decode cX7_meanPrice 19 = .ok (.iload_n 3, 1) := by decide +kernel
theorem dX7_meanPrice_20 : decode cX7_meanPrice 20 = .ok (.caload, 1) := by decide +kernel
theorem dX7_meanPrice_21 : decode cX7_meanPrice 21 = .ok (.bipush 98, 2) := by decide +kernel
theorem dX7_meanPrice_23 : decode cX7_meanPrice 23 = .ok (.if_icmp .ne 7, 3) := by decide +kernel
theorem dX7_meanPrice_26 : decode cX7_meanPrice 26 = .ok (.iconst 1, 1) := by decide +kernel
theorem dX7_meanPrice_27 : decode cX7_meanPrice 27 = .ok (.goto 4, 3) := by decide +kernel
theorem dX7_meanPrice_30 : decode cX7_meanPrice 30 = .ok (.iconst 0, 1) := by decide +kernel
theorem dX7_meanPrice_31 : decode cX7_meanPrice 31 = .ok (.iadd, 1) := by decide +kernel
theorem dX7_meanPrice_32 : decode cX7_meanPrice 32 = .ok (.istore_n 1, 1) := by decide +kernel
theorem dX7_meanPrice_33 : decode cX7_meanPrice 33 = .ok (.iload_n 2, 1) := by decide +kernel
theorem dX7_meanPrice_34 : decode cX7_meanPrice 34 = .ok (.aload_n 0, 1) := by decide +kernel
theorem dX7_meanPrice_35 : decode cX7_meanPrice 35 = .ok (.getfield 83, 3) := by decide +kernel
theorem dX7_meanPrice_38 : decode cX7_meanPrice 38 = .ok (.iload_n 3, 1) := by decide +kernel
theorem dX7_meanPrice_39 : decode cX7_meanPrice 39 = .ok (.caload, 1) := by decide +kernel
theorem dX7_meanPrice_40 : decode cX7_meanPrice 40 = .ok (.bipush 98, 2) := by decide +kernel
theorem dX7_meanPrice_42 : decode cX7_meanPrice 42 = .ok (.if_icmp .ne 12, 3) := by decide +kernel
theorem dX7_meanPrice_45 : decode cX7_meanPrice 45 = .ok (.aload_n 0, 1) := by decide +kernel
theorem dX7_meanPrice_46 : decode cX7_meanPrice 46 = .ok (.getfield 80, 3) := by decide +kernel
theorem dX7_meanPrice_49 : decode cX7_meanPrice 49 = .ok (.iload_n 3, 1) := by decide +kernel
theorem dX7_meanPrice_50 : decode cX7_meanPrice 50 = .ok (.iaload, 1) := by decide +kernel
theorem dX7_meanPrice_51 : decode cX7_meanPrice 51 = .ok (.goto 4, 3) := by decide +kernel
theorem dX7_meanPrice_54 : decode cX7_meanPrice 54 = .ok (.iconst 0, 1) := by decide +kernel
theorem dX7_meanPrice_55 : decode cX7_meanPrice 55 = .ok (.iadd, 1) := by decide +kernel
theorem dX7_meanPrice_56 : decode cX7_meanPrice 56 = .ok (.istore_n 2, 1) := by decide +kernel
theorem dX7_meanPrice_57 : decode cX7_meanPrice 57 = .ok (.iinc 3 1, 3) := by decide +kernel
theorem dX7_meanPrice_60 : decode cX7_meanPrice 60 = .ok (.goto (-54), 3) := by decide +kernel
theorem dX7_meanPrice_63 : decode cX7_meanPrice 63 = .ok (.aload_n 0, 1) := by decide +kernel
theorem dX7_meanPrice_64 : decode cX7_meanPrice 64 = .ok (.iload_n 1, 1) := by decide +kernel
theorem dX7_meanPrice_65 : decode cX7_meanPrice 65 = .ok (.ifCond .ne 7, 3) := by decide +kernel
theorem dX7_meanPrice_68 : decode cX7_meanPrice 68 = .ok (.iconst 1, 1) := by decide +kernel
theorem dX7_meanPrice_69 : decode cX7_meanPrice 69 = .ok (.goto 4, 3) := by decide +kernel
theorem dX7_meanPrice_72 : decode cX7_meanPrice 72 = .ok (.iconst 0, 1) := by decide +kernel
theorem dX7_meanPrice_73 : decode cX7_meanPrice 73 = .ok (.putfield 98, 3) := by decide +kernel
theorem dX7_meanPrice_76 : decode cX7_meanPrice 76 = .ok (.aload_n 0, 1) := by decide +kernel
theorem dX7_meanPrice_77 : decode cX7_meanPrice 77 = .ok (.getfield 98, 3) := by decide +kernel
theorem dX7_meanPrice_80 : decode cX7_meanPrice 80 = .ok (.ifCond .le 7, 3) := by decide +kernel
theorem dX7_meanPrice_83 : decode cX7_meanPrice 83 = .ok (.dconst 0, 1) := by decide +kernel
theorem dX7_meanPrice_84 : decode cX7_meanPrice 84 = .ok (.goto 8, 3) := by decide +kernel
theorem dX7_meanPrice_87 : decode cX7_meanPrice 87 = .ok (.iload_n 2, 1) := by decide +kernel
theorem dX7_meanPrice_88 : decode cX7_meanPrice 88 = .ok (.i2d, 1) := by decide +kernel
theorem dX7_meanPrice_89 : decode cX7_meanPrice 89 = .ok (.iload_n 1, 1) := by decide +kernel
theorem dX7_meanPrice_90 : decode cX7_meanPrice 90 = .ok (.i2d, 1) := by decide +kernel
theorem dX7_meanPrice_91 : decode cX7_meanPrice 91 = .ok (.ddiv, 1) := by decide +kernel
theorem dX7_meanPrice_92 : decode cX7_meanPrice 92 = .ok (.dreturn, 1) := by decide +kernel
def wX7_meanPrice_73 (post : UInt64 → KS → Int64 → Prop) (l1 : Int32) (l2 : Int32) (t0 : Int32) (M : KS) (ap : Int64) : Prop := ((((k3 M 3 0 0 t0) 3 0 0) ≤ 0 → ((vf_n64 (FP.ddiv (FP.i2d l2) (FP.i2d l1))) ∧ (post (FP.ddiv (FP.i2d l2) (FP.i2d l1)) (k3 M 3 0 0 t0) ap))) ∧ (¬ ((k3 M 3 0 0 t0) 3 0 0) ≤ 0 → (post FP.dconst0 (k3 M 3 0 0 t0) ap)))
set_option maxHeartbeats 4000000 in
set_option maxRecDepth 100000 in
theorem bX7_meanPrice_73 {p : Program} {l : Launch} {e : Env} {s : State} {m : MethodId} {args : Array Value} {below : List Frame} {meth : Method} {c : Code} {D : va_G} {cI : Nat → ClassId} {e0 : Nat} {A : Nat → Prop} {ad : Nat → Nat → Nat} {K : KS} {o : Int64} {od : UInt64} {mc ms : Nat} {post : UInt64 → KS → Int64 → Prop} (S : CallFix p m c cX7_meanPrice 4 s args WU RX7) (hg : GI D cI e0 A s s.heap) (hr : meth.sig.returnType = (some FieldType.double)) (hlk : meth.locks = false) (hout : ∀ x ∈ c.exceptionTable.toList, False) {H : Heap} {locs : List Loc} {ls : Array Slot} {l1 : Int32} {l2 : Int32} {t0 : Int32} {M : KS} {ap : Int64} (hS : va_S A s.heap H locs) (hw : HT D cI e0 A ad K M ap o od H) (hl : lv_has ls 4 [(0, .ref (ad 3 0)), (1, .int l1), (2, .int l2)]) (h : wX7_meanPrice_73 post l1 l2 t0 M ap) : W p l e ({ frames := 0, cells := mc, slots := ms, locals := 0 } : Room) s m args below meth c H locs 0 0 (MQQ below (qM D cI e0 A ad K o od rD post) xN args s mc ms A) (F0 m 73 ls [.int t0, .ref (ad 3 0)]) := by
  unfold wX7_meanPrice_73 at h
  refine p3_0 S hg hS hw u1044 dX7_meanPrice_73 (fun H locs hw hS => ?_)
  refine lv_aload_n S.1 S.2.1 dX7_meanPrice_76 rfl (lv_at hl 0 rfl) ?_
  refine g3_0 S hg hw u1044 dX7_meanPrice_77 ?_
  refine lv_if_le (tgt := 87) S.1 S.2.1 dX7_meanPrice_80 (by decide) (fun c3 => ?_) (fun c3 => ?_)
  · have h := h.1 c3
    refine lv_iload_n S.1 S.2.1 dX7_meanPrice_87 rfl (lv_at hl 2 rfl) ?_
    refine lv_i2d S.1 S.2.1 dX7_meanPrice_88 ?_
    refine lv_iload_n S.1 S.2.1 dX7_meanPrice_89 rfl (lv_at hl 1 rfl) ?_
    refine lv_i2d S.1 S.2.1 dX7_meanPrice_90 ?_
    obtain ⟨g4, h⟩ := h
    refine lv_ddiv S.1 S.2.1 dX7_meanPrice_91 g4 ?_
    exact r_dret (y := yX7_meanPrice) S hr hlk hS (by omega) (by omega) dX7_meanPrice_92 ⟨(FP.ddiv (FP.i2d l2) (FP.i2d l1)), _, _, rfl, h, hw⟩
  · have h := h.2 c3
    refine lv_dconst0 S.1 S.2.1 dX7_meanPrice_83 ?_
    refine lv_goto (tgt := 92) S.1 S.2.1 dX7_meanPrice_84 (by decide) ?_
    exact r_dret (y := yX7_meanPrice) S hr hlk hS (by omega) (by omega) dX7_meanPrice_92 ⟨FP.dconst0, _, _, rfl, h, hw⟩
def wX7_meanPrice_55 (post : UInt64 → KS → Int64 → Prop) (bk6 : Int32 → Int32 → Int32 → KS → Int64 → Prop) (l1 : Int32) (l3 : Int32) (t0 : Int32) (t1 : Int32) (M : KS) (ap : Int64) : Prop := bk6 l1 (t1 + t0) (l3 + 1) M ap
set_option maxHeartbeats 4000000 in
set_option maxRecDepth 100000 in
theorem bX7_meanPrice_55 {p : Program} {l : Launch} {e : Env} {s : State} {m : MethodId} {args : Array Value} {below : List Frame} {meth : Method} {c : Code} {D : va_G} {cI : Nat → ClassId} {e0 : Nat} {A : Nat → Prop} {ad : Nat → Nat → Nat} {K : KS} {o : Int64} {od : UInt64} {mc ms : Nat} {post : UInt64 → KS → Int64 → Prop} {bk6 : Int32 → Int32 → Int32 → KS → Int64 → Prop} (S : CallFix p m c cX7_meanPrice 4 s args WU RX7) (hg : GI D cI e0 A s s.heap) (hr : meth.sig.returnType = (some FieldType.double)) (hlk : meth.locks = false) (hout : ∀ x ∈ c.exceptionTable.toList, False) (hbk6 : ∀ {H : Heap} {locs : List Loc} {ls : Array Slot} {l1 : Int32} {l2 : Int32} {l3 : Int32} {M : KS} {ap : Int64}, va_S A s.heap H locs → HT D cI e0 A ad K M ap o od H → lv_has ls 4 [(0, .ref (ad 3 0)), (1, .int l1), (2, .int l2), (3, .int l3)] → bk6 l1 l2 l3 M ap → W p l e ({ frames := 0, cells := mc, slots := ms, locals := 0 } : Room) s m args below meth c H locs 0 0 (MQQ below (qM D cI e0 A ad K o od rD post) xN args s mc ms A) (F0 m 6 ls [])) {H : Heap} {locs : List Loc} {ls : Array Slot} {l1 : Int32} {l3 : Int32} {t0 : Int32} {t1 : Int32} {M : KS} {ap : Int64} (hS : va_S A s.heap H locs) (hw : HT D cI e0 A ad K M ap o od H) (hl : lv_has ls 4 [(0, .ref (ad 3 0)), (1, .int l1), (3, .int l3)]) (h : wX7_meanPrice_55 post bk6 l1 l3 t0 t1 M ap) : W p l e ({ frames := 0, cells := mc, slots := ms, locals := 0 } : Room) s m args below meth c H locs 0 0 (MQQ below (qM D cI e0 A ad K o od rD post) xN args s mc ms A) (F0 m 55 ls [.int t0, .int t1]) := by
  unfold wX7_meanPrice_55 at h
  refine lv_iadd S.1 S.2.1 dX7_meanPrice_55 ?_
  refine lv_istore_n (lv' := [(2, .int (t1 + t0)), (0, .ref (ad 3 0)), (1, .int l1), (3, .int l3)]) S.1 S.2.1 dX7_meanPrice_56 rfl hl (by decide) rfl (fun ls hl => ?_)
  refine lv_iinc (v := l3 + 1) (lv' := [(3, .int (l3 + 1)), (2, .int (t1 + t0)), (0, .ref (ad 3 0)), (1, .int l1)]) S.1 S.2.1 dX7_meanPrice_57 hl (k := 3) rfl rfl (by decide) rfl (fun ls hl => ?_)
  refine lv_goto (tgt := 6) S.1 S.2.1 dX7_meanPrice_60 (by decide) ?_
  have hl := lv_sub hl (l' := [(0, .ref (ad 3 0)), (1, .int l1), (2, .int (t1 + t0)), (3, .int (l3 + 1))]) [2, 3, 1, 0] rfl
  exact hbk6 hS hw hl h
def wX7_meanPrice_31 (post : UInt64 → KS → Int64 → Prop) (bk6 : Int32 → Int32 → Int32 → KS → Int64 → Prop) (l2 : Int32) (l3 : Int32) (t0 : Int32) (t1 : Int32) (M : KS) (ap : Int64) : Prop := (vp_in l3 60) ∧ (((¬ (M 13 32 l3.toNatClampNeg) = 98 → (wX7_meanPrice_55 post bk6 (t1 + t0) l3 0 l2 M ap)) ∧ ((M 13 32 l3.toNatClampNeg) = 98 → ((vp_in l3 60) ∧ (wX7_meanPrice_55 post bk6 (t1 + t0) l3 (M 16 31 l3.toNatClampNeg) l2 M ap)))))
set_option maxHeartbeats 4000000 in
set_option maxRecDepth 100000 in
theorem bX7_meanPrice_31 {p : Program} {l : Launch} {e : Env} {s : State} {m : MethodId} {args : Array Value} {below : List Frame} {meth : Method} {c : Code} {D : va_G} {cI : Nat → ClassId} {e0 : Nat} {A : Nat → Prop} {ad : Nat → Nat → Nat} {K : KS} {o : Int64} {od : UInt64} {mc ms : Nat} {post : UInt64 → KS → Int64 → Prop} {bk6 : Int32 → Int32 → Int32 → KS → Int64 → Prop} (S : CallFix p m c cX7_meanPrice 4 s args WU RX7) (hg : GI D cI e0 A s s.heap) (hr : meth.sig.returnType = (some FieldType.double)) (hlk : meth.locks = false) (hout : ∀ x ∈ c.exceptionTable.toList, False) (hbk6 : ∀ {H : Heap} {locs : List Loc} {ls : Array Slot} {l1 : Int32} {l2 : Int32} {l3 : Int32} {M : KS} {ap : Int64}, va_S A s.heap H locs → HT D cI e0 A ad K M ap o od H → lv_has ls 4 [(0, .ref (ad 3 0)), (1, .int l1), (2, .int l2), (3, .int l3)] → bk6 l1 l2 l3 M ap → W p l e ({ frames := 0, cells := mc, slots := ms, locals := 0 } : Room) s m args below meth c H locs 0 0 (MQQ below (qM D cI e0 A ad K o od rD post) xN args s mc ms A) (F0 m 6 ls [])) {H : Heap} {locs : List Loc} {ls : Array Slot} {l2 : Int32} {l3 : Int32} {t0 : Int32} {t1 : Int32} {M : KS} {ap : Int64} (hS : va_S A s.heap H locs) (hw : HT D cI e0 A ad K M ap o od H) (hl : lv_has ls 4 [(0, .ref (ad 3 0)), (2, .int l2), (3, .int l3)]) (h : wX7_meanPrice_31 post bk6 l2 l3 t0 t1 M ap) : W p l e ({ frames := 0, cells := mc, slots := ms, locals := 0 } : Room) s m args below meth c H locs 0 0 (MQQ below (qM D cI e0 A ad K o od rD post) xN args s mc ms A) (F0 m 31 ls [.int t0, .int t1]) := by
  unfold wX7_meanPrice_31 at h
  refine lv_iadd S.1 S.2.1 dX7_meanPrice_31 ?_
  refine lv_istore_n (lv' := [(1, .int (t1 + t0)), (0, .ref (ad 3 0)), (2, .int l2), (3, .int l3)]) S.1 S.2.1 dX7_meanPrice_32 rfl hl (by decide) rfl (fun ls hl => ?_)
  refine lv_iload_n S.1 S.2.1 dX7_meanPrice_33 rfl (lv_at hl 2 rfl) ?_
  refine lv_aload_n S.1 S.2.1 dX7_meanPrice_34 rfl (lv_at hl 1 rfl) ?_
  refine g3_32 S hg hw u1076 dX7_meanPrice_35 ?_
  refine lv_iload_n S.1 S.2.1 dX7_meanPrice_38 rfl (lv_at hl 3 rfl) ?_
  obtain ⟨g7, h⟩ := h
  refine a13 S hg hw rfl g7 dX7_meanPrice_39 ?_
  refine lv_bipush (v := 98) S.1 S.2.1 dX7_meanPrice_40 (by decide) ?_
  refine lv_icmp_ne (tgt := 54) S.1 S.2.1 dX7_meanPrice_42 (by decide) (fun c8 => ?_) (fun c8 => ?_)
  · have h := h.1 c8
    refine lv_iconst (v := 0) S.1 S.2.1 dX7_meanPrice_54 (by decide) ?_
    have hl := lv_sub hl (l' := [(0, .ref (ad 3 0)), (1, .int (t1 + t0)), (3, .int l3)]) [1, 0, 3] rfl
    exact bX7_meanPrice_55 S hg hr hlk hout hbk6 hS hw hl h
  · have h := h.2 c8
    refine lv_aload_n S.1 S.2.1 dX7_meanPrice_45 rfl (lv_at hl 1 rfl) ?_
    refine g3_31 S hg hw u1075 dX7_meanPrice_46 ?_
    refine lv_iload_n S.1 S.2.1 dX7_meanPrice_49 rfl (lv_at hl 3 rfl) ?_
    obtain ⟨g9, h⟩ := h
    refine a16 S hg hw rfl g9 dX7_meanPrice_50 ?_
    refine lv_goto (tgt := 55) S.1 S.2.1 dX7_meanPrice_51 (by decide) ?_
    have hl := lv_sub hl (l' := [(0, .ref (ad 3 0)), (1, .int (t1 + t0)), (3, .int l3)]) [1, 0, 3] rfl
    exact bX7_meanPrice_55 S hg hr hlk hout hbk6 hS hw hl h
def wX7_meanPrice_6 (post : UInt64 → KS → Int64 → Prop) : Nat → Int32 → Int32 → Int32 → KS → Int64 → Prop
  | 0 => fun _ _ _ _ _ => False
  | n + 1 => fun l1 l2 l3 M ap => (((M 3 29 0) ≤ l3 → (((¬ l1 = 0 → (wX7_meanPrice_73 post l1 l2 0 M ap)) ∧ (l1 = 0 → (wX7_meanPrice_73 post l1 l2 1 M ap))))) ∧ (¬ (M 3 29 0) ≤ l3 → ((vp_in l3 60) ∧ (((¬ (M 13 32 l3.toNatClampNeg) = 98 → (wX7_meanPrice_31 post (wX7_meanPrice_6 post n) l2 l3 0 l1 M ap)) ∧ ((M 13 32 l3.toNatClampNeg) = 98 → (wX7_meanPrice_31 post (wX7_meanPrice_6 post n) l2 l3 1 l1 M ap)))))))
set_option maxHeartbeats 4000000 in
set_option maxRecDepth 100000 in
theorem bX7_meanPrice_6 {p : Program} {l : Launch} {e : Env} {s : State} {m : MethodId} {args : Array Value} {below : List Frame} {meth : Method} {c : Code} {D : va_G} {cI : Nat → ClassId} {e0 : Nat} {A : Nat → Prop} {ad : Nat → Nat → Nat} {K : KS} {o : Int64} {od : UInt64} {mc ms : Nat} {post : UInt64 → KS → Int64 → Prop} (S : CallFix p m c cX7_meanPrice 4 s args WU RX7) (hg : GI D cI e0 A s s.heap) (hr : meth.sig.returnType = (some FieldType.double)) (hlk : meth.locks = false) (hout : ∀ x ∈ c.exceptionTable.toList, False) : ∀ n : Nat, ∀ {H : Heap} {locs : List Loc} {ls : Array Slot} {l1 : Int32} {l2 : Int32} {l3 : Int32} {M : KS} {ap : Int64}, va_S A s.heap H locs → HT D cI e0 A ad K M ap o od H → lv_has ls 4 [(0, .ref (ad 3 0)), (1, .int l1), (2, .int l2), (3, .int l3)] → wX7_meanPrice_6 post n l1 l2 l3 M ap → W p l e ({ frames := 0, cells := mc, slots := ms, locals := 0 } : Room) s m args below meth c H locs 0 0 (MQQ below (qM D cI e0 A ad K o od rD post) xN args s mc ms A) (F0 m 6 ls []) := by
  intro n
  induction n with
  | zero => intros; exact False.elim (by assumption)
  | succ n ih =>
    intro H locs ls l1 l2 l3 M ap hS hw hl h
    unfold wX7_meanPrice_6 at h
    refine lv_iload_n S.1 S.2.1 dX7_meanPrice_6 rfl (lv_at hl 3 rfl) ?_
    refine lv_aload_n S.1 S.2.1 dX7_meanPrice_7 rfl (lv_at hl 0 rfl) ?_
    refine g3_29 S hg hw u1073 dX7_meanPrice_8 ?_
    refine lv_icmp_ge (tgt := 63) S.1 S.2.1 dX7_meanPrice_11 (by decide) (fun c1 => ?_) (fun c1 => ?_)
    · have h := h.1 c1
      refine lv_aload_n S.1 S.2.1 dX7_meanPrice_63 rfl (lv_at hl 0 rfl) ?_
      refine lv_iload_n S.1 S.2.1 dX7_meanPrice_64 rfl (lv_at hl 1 rfl) ?_
      refine lv_if_ne (tgt := 72) S.1 S.2.1 dX7_meanPrice_65 (by decide) (fun c2 => ?_) (fun c2 => ?_)
      · have h := h.1 c2
        refine lv_iconst (v := 0) S.1 S.2.1 dX7_meanPrice_72 (by decide) ?_
        have hl := lv_sub hl (l' := [(0, .ref (ad 3 0)), (1, .int l1), (2, .int l2)]) [0, 1, 2] rfl
        exact bX7_meanPrice_73 S hg hr hlk hout hS hw hl h
      · have h := h.2 c2
        refine lv_iconst (v := 1) S.1 S.2.1 dX7_meanPrice_68 (by decide) ?_
        refine lv_goto (tgt := 73) S.1 S.2.1 dX7_meanPrice_69 (by decide) ?_
        have hl := lv_sub hl (l' := [(0, .ref (ad 3 0)), (1, .int l1), (2, .int l2)]) [0, 1, 2] rfl
        exact bX7_meanPrice_73 S hg hr hlk hout hS hw hl h
    · have h := h.2 c1
      refine lv_iload_n S.1 S.2.1 dX7_meanPrice_14 rfl (lv_at hl 1 rfl) ?_
      refine lv_aload_n S.1 S.2.1 dX7_meanPrice_15 rfl (lv_at hl 0 rfl) ?_
      refine g3_32 S hg hw u1076 dX7_meanPrice_16 ?_
      refine lv_iload_n S.1 S.2.1 dX7_meanPrice_19 rfl (lv_at hl 3 rfl) ?_
      obtain ⟨g5, h⟩ := h
      refine a13 S hg hw rfl g5 dX7_meanPrice_20 ?_
      refine lv_bipush (v := 98) S.1 S.2.1 dX7_meanPrice_21 (by decide) ?_
      refine lv_icmp_ne (tgt := 30) S.1 S.2.1 dX7_meanPrice_23 (by decide) (fun c6 => ?_) (fun c6 => ?_)
      · have h := h.1 c6
        refine lv_iconst (v := 0) S.1 S.2.1 dX7_meanPrice_30 (by decide) ?_
        have hl := lv_sub hl (l' := [(0, .ref (ad 3 0)), (2, .int l2), (3, .int l3)]) [0, 2, 3] rfl
        exact bX7_meanPrice_31 S hg hr hlk hout ih hS hw hl h
      · have h := h.2 c6
        refine lv_iconst (v := 1) S.1 S.2.1 dX7_meanPrice_26 (by decide) ?_
        refine lv_goto (tgt := 31) S.1 S.2.1 dX7_meanPrice_27 (by decide) ?_
        have hl := lv_sub hl (l' := [(0, .ref (ad 3 0)), (2, .int l2), (3, .int l3)]) [0, 2, 3] rfl
        exact bX7_meanPrice_31 S hg hr hlk hout ih hS hw hl h
def wpX7_meanPrice (post : UInt64 → KS → Int64 → Prop) (M : KS) (ap : Int64) : Prop := ∃ n1 : Nat, wX7_meanPrice_6 post n1 0 0 0 M ap
theorem hdX7_meanPrice : yX7_meanPrice.cls ≠ "java/lang/invoke/MethodHandle" ∧ yX7_meanPrice.cls ≠ "java/lang/invoke/VarHandle" ∧ (parseMethodDescriptor yX7_meanPrice.desc).map (fun d => d.parameters.length) = some 0 := by decide +kernel
set_option maxHeartbeats 4000000 in
set_option maxRecDepth 100000 in
theorem mtX7_meanPrice {l : Launch} {D : va_G} {cI : Nat → ClassId} {e0 : Nat} {A : Nat → Prop} {ad : Nat → Nat → Nat} {K M : KS} {ap o : Int64} {od : UInt64} {mc ms : Nat} {post : UInt64 → KS → Int64 → Prop} (h : wpX7_meanPrice post M ap) : CM l D cI e0 A yX7_meanPrice cX7_meanPrice 4 (some FieldType.double) 0 0 mc ms [.ref (ad 3 0)] (HT D cI e0 A ad K M ap o od) (qM D cI e0 A ad K o od rD post) xN := by
  refine CM.of (by decide) (Nat.le_of_ble_eq_true rfl) (fun p e s m below meth c ls FX hw hS hl => ?_)
  obtain ⟨S, hg, hr, hlk, hnm, hout⟩ := FX
  have hl : lv_has ls 4 [(0, .ref (ad 3 0))] := hl
  unfold wpX7_meanPrice at h
  refine lv_iconst (v := 0) S.1 S.2.1 dX7_meanPrice_0 (by decide) ?_
  refine lv_istore_n (lv' := [(1, .int 0), (0, .ref (ad 3 0))]) S.1 S.2.1 dX7_meanPrice_1 rfl hl (by decide) rfl (fun ls hl => ?_)
  refine lv_iconst (v := 0) S.1 S.2.1 dX7_meanPrice_2 (by decide) ?_
  refine lv_istore_n (lv' := [(2, .int 0), (1, .int 0), (0, .ref (ad 3 0))]) S.1 S.2.1 dX7_meanPrice_3 rfl hl (by decide) rfl (fun ls hl => ?_)
  refine lv_iconst (v := 0) S.1 S.2.1 dX7_meanPrice_4 (by decide) ?_
  refine lv_istore_n (lv' := [(3, .int 0), (2, .int 0), (1, .int 0), (0, .ref (ad 3 0))]) S.1 S.2.1 dX7_meanPrice_5 rfl hl (by decide) rfl (fun ls hl => ?_)
  have hl := lv_sub hl (l' := [(0, .ref (ad 3 0)), (1, .int 0), (2, .int 0), (3, .int 0)]) [3, 2, 1, 0] rfl
  obtain ⟨n1, h⟩ := h
  exact bX7_meanPrice_6 S hg hr hlk hout n1 hS hw hl h

-- X7.isSound
theorem dX7_isSound_0 : decode cX7_isSound 0 = .ok (.aload_n 0, 1) := by decide +kernel
theorem dX7_isSound_1 : decode cX7_isSound 1 = .ok (.iconst 0, 1) := by decide +kernel
theorem dX7_isSound_2 : decode cX7_isSound 2 = .ok (.putfield 98, 3) := by decide +kernel
theorem dX7_isSound_5 : decode cX7_isSound 5 = .ok (.iconst 1, 1) := by decide +kernel
theorem dX7_isSound_6 : decode cX7_isSound 6 = .ok (.ireturn, 1) := by decide +kernel
def wpX7_isSound (post : Int32 → KS → Int64 → Prop) (M : KS) (ap : Int64) : Prop := post 1 (k3 M 3 0 0 0) ap
theorem hdX7_isSound : yX7_isSound.cls ≠ "java/lang/invoke/MethodHandle" ∧ yX7_isSound.cls ≠ "java/lang/invoke/VarHandle" ∧ (parseMethodDescriptor yX7_isSound.desc).map (fun d => d.parameters.length) = some 0 := by decide +kernel
set_option maxHeartbeats 4000000 in
set_option maxRecDepth 100000 in
theorem mtX7_isSound {l : Launch} {D : va_G} {cI : Nat → ClassId} {e0 : Nat} {A : Nat → Prop} {ad : Nat → Nat → Nat} {K M : KS} {ap o : Int64} {od : UInt64} {mc ms : Nat} {post : Int32 → KS → Int64 → Prop} (h : wpX7_isSound post M ap) : CM l D cI e0 A yX7_isSound cX7_isSound 1 (some FieldType.boolean) 0 0 mc ms [.ref (ad 3 0)] (HT D cI e0 A ad K M ap o od) (qM D cI e0 A ad K o od rI post) xN := by
  refine CM.of (by decide) (Nat.le_of_ble_eq_true rfl) (fun p e s m below meth c ls FX hw hS hl => ?_)
  obtain ⟨S, hg, hr, hlk, hnm, hout⟩ := FX
  have hl : lv_has ls 1 [(0, .ref (ad 3 0))] := hl
  unfold wpX7_isSound at h
  refine lv_aload_n S.1 S.2.1 dX7_isSound_0 rfl (lv_at hl 0 rfl) ?_
  refine lv_iconst (v := 0) S.1 S.2.1 dX7_isSound_1 (by decide) ?_
  refine p3_0 S hg hS hw u1044 dX7_isSound_2 (fun H locs hw hS => ?_)
  refine lv_iconst (v := 1) S.1 S.2.1 dX7_isSound_5 (by decide) ?_
  exact r_iret (y := yX7_isSound) S hr rfl hlk hS (by omega) (by omega) dX7_isSound_6 ⟨1, _, _, rfl, h, hw⟩
